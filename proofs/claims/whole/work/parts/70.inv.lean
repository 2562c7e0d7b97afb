-- THE PURE PART: what holds between the class's contents and the reference's
/-- rows -/
def RI (it : Nat → Nat → Int32) (la si lane many items : Nat → Int32) : Prop :=
  ∀ j, j < 8 → (∀ k, k < 40 → it j k = items (40 * j + k)) ∧ ((si j = -1 ∧ lane j = -1000000) ∨ ∃ t n : Nat, t ≤ 2 ∧ n ≤ 40 ∧ la j = nI t ∧ lane j = nI t ∧ si j = nI n ∧ many j = nI n)
/-- the tape -/
def TI (len : Int32) (bytes : Nat → Int32) (taped : Int32) (tape : Nat → Int32) : Prop := ∃ n : Nat, n ≤ 60 ∧ len = nI n ∧ taped = nI n ∧ ∀ k, k < 60 → ∃ c : Nat, c < 256 ∧ bytes k = nI c ∧ tape k = nI c
/-- a village, as a row of numbers tells it -/
def VI (ns : NS) (v : VT) (f : Nat → Int32) : Prop :=
  ∃ n d w r : Nat, n ≤ 3 ∧ d ≤ 99 ∧ w < 8 ∧ r < 8 ∧ v.2.1 = nI n ∧ v.2.2.1 = nI d ∧ v.2.2.2.2.1 = nI w ∧ v.2.2.2.2.2.1 = nI r ∧
  f 0 = bz v.1 ∧ f 1 = nI n ∧ f 2 = nI r ∧ f 3 = nI w ∧ f 4 = bz v.2.2.2.1 ∧ f 5 = nI d ∧
  (∀ i, i < 3 → v.2.2.2.2.2.2.2.1 i = f (11 + 6 * i) ∧ v.2.2.2.2.2.2.2.2.1 i = f (10 + 6 * i)) ∧
  (∀ k, k < 100 → v.2.2.2.2.2.2.2.2.2 k = f (24 + k)) ∧ (∀ k, d < k → k < 100 → f (24 + k) = 0) ∧
  (∀ i, i < n → ∃ (a kd ch ga lo : Nat), v.2.2.2.2.2.2.1 i = some a ∧ a ∈ (pN ns).1 ∧ (pN ns).2 a = (kd, nI i, nI ch, nI ga, nI lo) ∧ 1 ≤ kd ∧ kd ≤ 5 ∧ ch ≤ 10 ∧ ga ≤ 99 ∧ lo ≤ 99 ∧ f (6 + 6 * i) = nI kd ∧ f (7 + 6 * i) = nI ch ∧ f (8 + 6 * i) = nI ga ∧ f (9 + 6 * i) = nI lo) ∧
  (∀ i, n ≤ i → i < 3 → f (11 + 6 * i) = 0 ∧ f (10 + 6 * i) = 0) ∧
  (∀ i, n ≤ i → i < 3 → r.testBit i = false ∧ w.testBit i = false) ∧ (v.1 = false → n = 0 ∧ d = 0 ∧ v.2.2.2.1 = false) ∧ (∀ i, i < 3 → ∀ a, v.2.2.2.2.2.2.1 i = some a → a ∈ (pN ns).1)
/-- images -/
def II (ns : NS) (v0 v1 : VT) (images kept : Nat → Int32) : Prop := kept 0 = bz v0.1 ∧ kept 1 = bz v1.1 ∧ (v0.1 = true → VI ns v0 images) ∧ (v1.1 = true → VI ns v1 (fun k => images (124 + k)))
/-- what an act keeps: date, evening, well, rights, lives, memories, purses; and how class and reference hold it -/
abbrev AE : Type := Nat × Bool × Nat × Nat × Int32 × (Nat → Int32) × (Nat → Int32)
def AC (acts : Nat → Int32) (o : Nat) (a : AE) : Prop := acts o = nI a.1 ∧ acts (o + 1) = bz a.2.1 ∧ acts (o + 2) = nI a.2.2.1 ∧ acts (o + 3) = nI a.2.2.2.1 ∧ acts (o + 4) = a.2.2.2.2.1 ∧ ∀ i, i < 3 → acts (o + 5 + i) = a.2.2.2.2.2.1 i ∧ acts (o + 8 + i) = a.2.2.2.2.2.2 i
def AM (past : Nat → Int32) (o : Nat) (a : AE) : Prop := past o = nI a.2.2.2.1 ∧ past (o + 1) = nI a.2.2.1 ∧ past (o + 2) = bz a.2.1 ∧ past (o + 3) = nI a.1 ∧ past (o + 4) = a.2.2.2.2.1 ∧ ∀ i, i < 3 → past (o + 5 + i) = a.2.2.2.2.2.2 i ∧ past (o + 8 + i) = a.2.2.2.2.2.1 i
/-- the kept acts, the latest first; d, x: the date that is now, and its lives -/
def AL (n : Nat) : List AE → Nat → Int32 → Prop
  | [], _, _ => True
  | a :: l, d, x => (a.1 ≤ 99 ∧ a.2.2.1 < 8 ∧ a.2.2.2.1 < 8 ∧ (∀ i, n ≤ i → i < 3 → a.2.2.1.testBit i = false ∧ a.2.2.2.1.testBit i = false ∧ a.2.2.2.2.2.1 i = 0 ∧ a.2.2.2.2.2.2 i = 0) ∧ (a.1 = d ∨ (a.1 + 1 = d ∧ x = 0))) ∧ AL n l a.1 a.2.2.2.2.1
def AI (next kept : Int32) (acts : Nat → Int32) (macts : Int32) (past : Nat → Int32) (there : Bool) (n d : Nat) (x : Int32) : Prop :=
  ∃ (q : Nat) (l : List AE), q < 24 ∧ l.length ≤ 24 ∧ next = nI q ∧ kept = nI l.length ∧ macts = nI l.length ∧ (∀ (i : Nat) (a : AE), l[i]? = some a → AC acts (11 * ((q + 23 - i) % 24)) a ∧ AM past (11 * (l.length - 1 - i)) a) ∧ AL n l d x ∧ (there = false → l = [])
/-- the trace -/
def TR (left : Int32) (numbers : Nat → Int32) (traced : Int32) (trace : Nat → Int32) : Prop := ∃ t : Nat, t ≤ 16 ∧ left = nI t ∧ traced = nI t ∧ ∀ k, k < t → numbers k = trace k
def Inv (S : CS) (M : MS) (ns : NS) : Prop :=
  RI S.2.1.1 S.2.1.2.1 S.2.1.2.2 M.2.1.1 M.2.1.2.1 M.2.1.2.2.1 ∧ S.1.2.2.2 = M.1.1 ∧ TI S.2.2.1.1 S.2.2.1.2.2.2.1 M.1.2.1 M.2.1.2.2.2.2.1 ∧ S.1.2.2.1 = M.1.2.2.1 ∧
  VI ns S.2.2.2.1 M.2.1.2.2.2.2.2.1 ∧ II ns S.2.2.2.2.2.1 S.2.2.2.2.2.2.1 M.2.1.2.2.2.2.2.2.2.2.2.1 M.2.1.2.2.2.2.2.2.2.2.2.2.1 ∧
  AI S.1.1 S.1.2.1 S.2.2.2.2.2.2.2.2.2 M.1.2.2.2.2.2.2.2.2.1 M.2.1.2.2.2.2.2.2.2.2.1 S.2.2.2.1.1 (S.2.2.2.1.2.1).toNatClampNeg (S.2.2.2.1.2.2.1).toNatClampNeg (S.2.2.2.1.2.2.2.2.2.2.2.2.2 (S.2.2.2.1.2.2.1).toNatClampNeg) ∧
  TR S.2.2.2.2.2.2.2.2.1.1 S.2.2.2.2.2.2.2.2.1.2.2.2 M.1.2.2.2.2.2.2.2.2.2.1 M.2.1.2.2.2.2.2.2.2.2.2.2.2.1
-- numbers
theorem gt_of_ge {x : Int32} {n : Nat} (h : nI (n + 1) ≤ x) (hn : n + 1 < 2 ^ 31) : nI n < x := by
  rw [Int32.le_iff_toInt_le, nI_toInt hn] at h
  rw [Int32.lt_iff_toInt_lt, nI_toInt (by omega)]
  omega
theorem ix_case (x : Int32) (n : Nat) (hn : n < 2 ^ 31) : x < 0 ∨ (¬ x < 0 ∧ nI n ≤ x) ∨ ∃ j : Nat, j < n ∧ x = nI j := by
  by_cases h : x < 0
  · exact Or.inl h
  · rcases pk_ix x hn with h1 | h1 | h1
    · exact absurd h1 h
    · exact Or.inr (Or.inl ⟨h, h1⟩)
    · exact Or.inr (Or.inr h1)
theorem in_t {a b c : Int32} {post : Bool → Prop} (h1 : ¬ a < b) (h2 : ¬ c < a) (h : post true) : wpX12_in a b c post := ⟨fun q => absurd q h1, fun _ => ⟨fun q => absurd q h2, fun _ => h⟩⟩
theorem in_f {a b c : Int32} {post : Bool → Prop} (h1 : a < b ∨ c < a) (h : post false) : wpX12_in a b c post := ⟨fun _ => h, fun q => ⟨fun _ => h, fun q2 => by rcases h1 with h1 | h1 <;> contradiction⟩⟩
/-- a number of a row, or none -/
theorem row_case (x : Int32) : ((∀ post : Bool → Prop, post false → wpX4_isNumber x post) ∧ (∀ post : Bool → Prop, post false → wpX12_isRow x post)) ∨ ∃ j : Nat, j < 8 ∧ x = nI j ∧ (∀ post : Bool → Prop, post true → wpX4_isNumber x post) ∧ (∀ post : Bool → Prop, post true → wpX12_isRow x post) := by
  rcases ix_case x 8 (by decide) with h | ⟨h, h1⟩ | ⟨j, hj, rfl⟩
  · exact Or.inl ⟨fun post hp => ⟨fun _ => hp, fun q => absurd h q⟩, fun post hp => in_f (Or.inl h) hp⟩
  · exact Or.inl ⟨fun post hp => ⟨fun q => absurd q h, fun _ => ⟨fun _ => hp, fun q => absurd h1 q⟩⟩, fun post hp => in_f (Or.inr (gt_of_ge h1 (by decide))) hp⟩
  · have a1 : ¬ nI j < 0 := nI_pos (by omega)
    exact Or.inr ⟨j, hj, rfl, fun post hp => ⟨fun q => absurd q a1, fun _ => ⟨fun q => absurd q (nI_ge hj (by decide)), fun _ => hp⟩⟩, fun post hp => in_t a1 (nI_nlt (a := 7) (b := j) (by omega) (by decide)) hp⟩
theorem cl8 {j : Nat} (hj : j < 8) : (nI j).toNatClampNeg = j := nI_clamp (by omega)
theorem in8 {j : Nat} (hj : j < 8) : vp_in (nI j) 8 := vp_in_nI hj (by decide)
theorem m1_ne {n : Nat} (h : n ≤ 1000) : ¬ nI n = -1 := by
  intro e
  have := congrArg Int32.toInt e
  rw [nI_toInt (by omega)] at this
  have h2 : (-1 : Int32).toInt = -1 := rfl
  omega
theorem mN_ne {n : Nat} (h : n ≤ 1000) : ¬ nI n = -1000000 := by
  intro e
  have := congrArg Int32.toInt e
  rw [nI_toInt (by omega)] at this
  have h2 : (-1000000 : Int32).toInt = -1000000 := rfl
  omega
/-- missing on both sides, or there with as many items -/
theorem miss_case {it : Nat → Nat → Int32} {la si lane many items : Nat → Int32} (h : RI it la si lane many items) {j : Nat} (hj : j < 8) :
    ((∀ post : Bool → Prop, post true → wpX4_isMissing (nI j) si post) ∧ (∀ post : Bool → Prop, post true → wpX12_isMissing (nI j) lane post)) ∨ ∃ t n : Nat, t ≤ 2 ∧ n ≤ 40 ∧ la j = nI t ∧ lane j = nI t ∧ si j = nI n ∧ many j = nI n ∧ (∀ post : Bool → Prop, post false → wpX4_isMissing (nI j) si post) ∧ (∀ post : Bool → Prop, post false → wpX12_isMissing (nI j) lane post) := by
  obtain ⟨-, ⟨h1, h2⟩ | ⟨t, n, ht, hn, h1, h2, h3, h4⟩⟩ := h j hj
  · exact Or.inl ⟨fun post hp => ⟨in8 hj, by rw [cl8 hj]; exact ⟨fun q => absurd h1 q, fun _ => hp⟩⟩, fun post hp => ⟨in8 hj, by rw [cl8 hj]; exact ⟨fun q => absurd h2 q, fun _ => hp⟩⟩⟩
  · exact Or.inr ⟨t, n, ht, hn, h1, h2, h3, h4, fun post hp => ⟨in8 hj, by rw [cl8 hj, h3]; exact ⟨fun _ => hp, fun q => absurd q (m1_ne (by omega))⟩⟩, fun post hp => ⟨in8 hj, by rw [cl8 hj, h2]; exact ⟨fun _ => hp, fun q => absurd q (mN_ne (by omega))⟩⟩⟩
theorem pu_fault : Pu_fault Inv := by
  intro S M ns hV
  exact ⟨hV.2.2.2.1, hV⟩
theorem pu_status : Pu_status Inv := by
  intro S M ns hV
  exact ⟨hV.2.1, hV⟩
theorem pu_drop : Pu_drop Inv := by
  intro S M ns hV p0
  unfold wpX11_drop
  rcases row_case p0 with ⟨hc, hm⟩ | ⟨j, hj, rfl, hc, hm⟩
  · refine hc _ ⟨(fun h => by cases h), fun _ => ?_⟩
    unfold wpX12_drop
    exact hm _ ⟨(fun h => by cases h), fun _ => ⟨rfl, hV⟩⟩
  · refine hc _ ⟨fun _ => ?_, (fun h => by cases h)⟩
    obtain ⟨hR, hrest⟩ := hV
    rcases miss_case hR hj with ⟨ec, em⟩ | ⟨t, n, ht, hn, h1, h2, h3, h4, ec, em⟩
    · refine ec _ ⟨(fun h => by cases h), fun _ => ?_⟩
      unfold wpX11_found wpX12_drop
      refine hm _ ⟨fun _ => em _ ⟨(fun h => by cases h), fun _ => ⟨rfl, hR, rfl, hrest.2⟩⟩, (fun h => by cases h)⟩
    · refine ec _ ⟨fun _ => ⟨in8 hj, in8 hj, ?_⟩, (fun h => by cases h)⟩
      unfold wpX11_answered wpX12_drop
      refine hm _ ⟨fun _ => em _ ⟨fun _ => ⟨in8 hj, in8 hj, ?_⟩, (fun h => by cases h)⟩, (fun h => by cases h)⟩
      rw [cl8 hj]
      refine ⟨by rw [h3, h4], ?_, rfl, hrest.2⟩
      intro i hi
      refine ⟨(hR i hi).1, ?_⟩
      by_cases e : i = j
      · subst e
        exact Or.inl ⟨by simp [upd], by simp [upd]⟩
      · rcases (hR i hi).2 with ⟨a1, a2⟩ | ⟨t2, n2, b1, b2, b3, b4, b5, b6⟩
        · exact Or.inl ⟨by simpa [upd, e] using a1, by simpa [upd, e] using a2⟩
        · exact Or.inr ⟨t2, n2, b1, b2, b3, by simpa [upd, e] using b4, by simpa [upd, e] using b5, b6⟩
