-- branches
theorem k1 {C A B : Prop} (h : C) (a : A) : (C → A) ∧ (¬ C → B) := ⟨fun _ => a, fun q => absurd h q⟩
theorem k2 {C A B : Prop} (h : ¬ C) (b : B) : (C → A) ∧ (¬ C → B) := ⟨fun q => absurd q h, fun _ => b⟩
theorem k3 {C A B : Prop} (h : C) (b : B) : (¬ C → A) ∧ (C → B) := ⟨fun q => absurd h q, fun _ => b⟩
theorem k4 {C A B : Prop} (h : ¬ C) (a : A) : (¬ C → A) ∧ (C → B) := ⟨fun _ => a, fun q => absurd q h⟩
theorem kt {A B : Prop} (a : A) : (true = true → A) ∧ (true = false → B) := ⟨fun _ => a, fun h => by cases h⟩
theorem kf {A B : Prop} (b : B) : (false = true → A) ∧ (false = false → B) := ⟨(fun h => by cases h), fun _ => b⟩
theorem kt' {A B : Prop} (b : B) : (true = false → A) ∧ (true = true → B) := ⟨(fun h => by cases h), fun _ => b⟩
theorem kf' {A B : Prop} (a : A) : (false = false → A) ∧ (false = true → B) := ⟨fun _ => a, fun h => by cases h⟩
theorem kn {A : Prop} {B : Nat → Prop} (a : A) : ((none : Option Nat) = none → A) ∧ (∀ a2 : Nat, (none : Option Nat) = some a2 → B a2) := ⟨fun _ => a, fun a2 h => by cases h⟩
theorem ks {A : Prop} {B : Nat → Prop} {a : Nat} (b : B a) : (some a = none → A) ∧ (∀ a2 : Nat, some a = some a2 → B a2) := ⟨(fun h => by cases h), fun a2 h => by cases h; exact b⟩
-- what a person does, by kind
def oF (kd ch : Nat) (m : Int32) : Int32 := if nI ch + (if kd = 3 then 2 * m else m) < 10 then nI ch + (if kd = 3 then 2 * m else m) else 10
def bF (kd ga lo : Nat) (b : Bool) : Int32 := if b = true then (if kd = 2 then 2 * nI ga else nI ga) else (if kd = 3 then 0 else if kd = 2 then (-2) * nI lo else -nI lo)
theorem two_neg (x : Int32) : 2 * (-x) = (-2) * x := by rw [Int32.mul_neg, show (-2 : Int32) = -(2 : Int32) from rfl, Int32.neg_mul]
section KIND
variable {kd i ch ga lo : Nat}
theorem v_odds (h1 : 1 ≤ kd) (h5 : kd ≤ 5) {m : Int32} {post : Int32 → Prop} (hp : post (oF kd ch m)) : wv_oddsBy m (kd, nI i, nI ch, nI ga, nI lo) post := by
  unfold oF at hp
  unfold wv_oddsBy wpX3_oddsBy_k1 wpX3_oddsBy_k2 wpX3_oddsBy_k3 wpX3_oddsBy_k4 wpX3_oddsBy_k5 wpX3_helpOf_k1 wpX3_helpOf_k2 wpX5_helpOf_k3 wpX3_helpOf_k4 wpX3_helpOf_k5
  rcases kind5 h1 h5 with h | h | h | h | h <;> subst h <;> simpa using hp
theorem v_ways (h1 : 1 ≤ kd) (h5 : kd ≤ 5) {m : Int32} {b : Bool} {post : Int32 → Prop} (hp : post (if b = true then oF kd ch m else 10 - oF kd ch m)) : wv_waysToGo m b (kd, nI i, nI ch, nI ga, nI lo) post := by
  unfold oF at hp
  unfold wv_waysToGo wpX3_waysToGo_k1 wpX3_waysToGo_k2 wpX3_waysToGo_k3 wpX3_waysToGo_k4 wpX3_waysToGo_k5 wpX3_oddsBy_k1 wpX3_oddsBy_k2 wpX3_oddsBy_k3 wpX3_oddsBy_k4 wpX3_oddsBy_k5 wpX3_helpOf_k1 wpX3_helpOf_k2 wpX5_helpOf_k3 wpX3_helpOf_k4 wpX3_helpOf_k5
  rcases kind5 h1 h5 with h | h | h | h | h <;> subst h <;> cases b <;> simpa using hp
theorem v_brings (h1 : 1 ≤ kd) (h5 : kd ≤ 5) {b : Bool} {post : Int32 → Prop} (hp : post (bF kd ga lo b)) : wv_bringsBy b (kd, nI i, nI ch, nI ga, nI lo) post := by
  unfold bF at hp
  unfold wv_bringsBy wpX3_bringsBy_k1 wpX2_bringsBy_k2 wpX3_bringsBy_k2 wpX5_bringsBy_k3 wpX3_bringsBy_k4 wpX3_bringsBy_k5
  rcases kind5 h1 h5 with h | h | h | h | h <;> subst h <;> cases b <;> simpa [two_neg] using hp
theorem v_begins (h1 : 1 ≤ kd) (h5 : kd ≤ 5) {post : Bool → Prop} (hp : post (decide (kd ≠ 5))) : wv_beginsWithRight (kd, nI i, nI ch, nI ga, nI lo) post := by
  unfold wv_beginsWithRight wpX3_beginsWithRight_k1 wpX3_beginsWithRight_k2 wpX3_beginsWithRight_k3 wpX3_beginsWithRight_k4 wpX6_beginsWithRight_k5
  rcases kind5 h1 h5 with h | h | h | h | h <;> subst h <;> simpa using hp
theorem v_may (h1 : 1 ≤ kd) (h5 : kd ≤ 5) {post : Bool → Prop} (hp : post (decide (kd ≠ 4))) : wv_mayUseRight (kd, nI i, nI ch, nI ga, nI lo) post := by
  unfold wv_mayUseRight wpX3_mayUseRight_k1 wpX3_mayUseRight_k2 wpX3_mayUseRight_k3 wpX10_mayUseRight_k4 wpX6_mayUseRight_k5
  rcases kind5 h1 h5 with h | h | h | h | h <;> subst h <;> simpa using hp
theorem v_kind (h1 : 1 ≤ kd) (h5 : kd ≤ 5) {post : Int32 → Prop} (hp : post (nI kd)) : wv_ownKind (kd, nI i, nI ch, nI ga, nI lo) post := by
  unfold wv_ownKind wpX0_ownKind_k1 wpX2_ownKind_k2 wpX5_ownKind_k3 wpX10_ownKind_k4 wpX6_ownKind_k5
  rcases kind5 h1 h5 with h | h | h | h | h <;> subst h <;> simp <;> exact hp
end KIND
-- the reference's
theorem ix6 (p : Nat) : (6 : Int32) + 6 * nI p = nI (6 + 6 * p) := by rw [show (6 : Int32) = nI 6 from rfl, pk_mul, nI_add]
theorem ix6a (p k : Nat) : (6 : Int32) + 6 * nI p + nI k = nI (6 + 6 * p + k) := by rw [ix6, nI_add]
theorem in6 {p k : Nat} (hp : p < 3) (hk : k < 6) : vp_in (nI (6 + 6 * p + k)) 124 := vp_in_nI (by omega) (by decide)
theorem eq3 {kd c : Nat} (h5 : kd ≤ 5) (hc : c ≤ 5) : nI kd = nI c ↔ kd = c := nI_eq (by omega) (by omega)
section MODEL
variable {f : Nat → Int32} {p kd ch ga lo : Nat}
theorem m_kind (hp : p < 3) (e0 : f (6 + 6 * p) = nI kd) {post : Int32 → Prop} (h : post (nI kd)) : wpX12_kindIn (nI p) f post := by
  unfold wpX12_kindIn
  rw [ix6, nI_clamp (by omega), e0]
  exact ⟨in6 (k := 0) hp (by decide), h⟩
theorem m_odds (hp : p < 3) (h5 : kd ≤ 5) (e0 : f (6 + 6 * p) = nI kd) (e1 : f (7 + 6 * p) = nI ch) {m : Int32} {post : Int32 → Prop} (h : post (oF kd ch m)) : wpX12_odds (nI p) m f post := by
  have hj : ∀ k0 : Int32, (post (if nI ch + k0 < 10 then nI ch + k0 else 10)) → wjX12_odds_16 f post (nI p) k0 := by
    intro k0 hk
    unfold wjX12_odds_16
    rw [show (1 : Int32) = nI 1 from rfl, ix6a, nI_clamp (by omega), show 6 + 6 * p + 1 = 7 + 6 * p by omega, e1]
    refine ⟨vp_in_nI (by omega) (by decide), fun q => ?_, fun q => ?_⟩
    · by_cases e : nI ch + k0 < 10
      · rwa [if_pos e] at hk
      · rw [if_neg e] at hk
        rwa [show nI ch + k0 = 10 from Int32.le_antisymm q (Int32.not_lt.mp e)]
    · rwa [if_neg (fun e => q (Int32.le_of_lt e))] at hk
  unfold wpX12_odds
  refine m_kind hp e0 ?_
  unfold oF at h
  refine ⟨fun q => hj m ?_, fun q => hj (2 * m) ?_⟩
  · have e : ¬ kd = 3 := fun e => q (by rw [e]; rfl)
    simpa [e] using h
  · have e : kd = 3 := (eq3 (c := 3) h5 (by decide)).mp q
    simpa [e] using h
theorem m_brings (hp : p < 3) (h5 : kd ≤ 5) (e0 : f (6 + 6 * p) = nI kd) (e2 : f (8 + 6 * p) = nI ga) (e3 : f (9 + 6 * p) = nI lo) {b : Bool} {post : Int32 → Prop} (h : post (bF kd ga lo b)) : wpX12_brings (nI p) b f post := by
  have q2 : nI kd = 2 ↔ kd = 2 := eq3 (c := 2) h5 (by decide)
  have q3 : nI kd = 3 ↔ kd = 3 := eq3 (c := 3) h5 (by decide)
  unfold wpX12_brings
  rw [show (6 : Int32) + 6 * nI p + 2 = nI (8 + 6 * p) by rw [show (2 : Int32) = nI 2 from rfl, ix6a]; congr 1; omega, show (6 : Int32) + 6 * nI p + 3 = nI (9 + 6 * p) by rw [show (3 : Int32) = nI 3 from rfl, ix6a]; congr 1; omega, ix6, nI_clamp (show 6 + 6 * p < 2 ^ 31 by omega), nI_clamp (show 8 + 6 * p < 2 ^ 31 by omega), nI_clamp (show 9 + 6 * p < 2 ^ 31 by omega), e0, e2, e3, q2, q3]
  have g : ∀ k, k < 30 → vp_in (nI k) 124 := fun k hk => vp_in_nI (by omega) (by decide)
  unfold bF at h
  refine ⟨fun hb => ⟨g _ (by omega), fun a => ⟨g _ (by omega), ?_⟩, fun a => ⟨g _ (by omega), ?_⟩⟩, fun hb => ⟨g _ (by omega), fun a => ⟨g _ (by omega), fun c => ⟨g _ (by omega), ?_⟩, fun c => ⟨g _ (by omega), ?_⟩⟩, fun a => ?_⟩⟩ <;> simp_all
end MODEL
/-- a village's people, by kind and numbers: the class's, the reference's -/
def PCl (pe : Pe) (people : Nat → Option Nat) (n : Nat) (A kd ch ga lo : Nat → Nat) : Prop := ∀ i, i < n → people i = some (A i) ∧ A i ∈ pe.1 ∧ pe.2 (A i) = (kd i, nI i, nI (ch i), nI (ga i), nI (lo i)) ∧ 1 ≤ kd i ∧ kd i ≤ 5
def PMo (f : Nat → Int32) (n : Nat) (kd ch ga lo : Nat → Nat) : Prop := ∀ i, i < n → f (6 + 6 * i) = nI (kd i) ∧ f (7 + 6 * i) = nI (ch i) ∧ f (8 + 6 * i) = nI (ga i) ∧ f (9 + 6 * i) = nI (lo i) ∧ 1 ≤ kd i ∧ kd i ≤ 5
def PBd (n : Nat) (ch ga lo : Nat → Nat) : Prop := ∀ i, i < n → ch i ≤ 10 ∧ ga i ≤ 99 ∧ lo i ≤ 99
/-- what of a village changes from day to day -/
def VN (v : VT) (f : Nat → Int32) (n d w r : Nat) : Prop :=
  n ≤ 3 ∧ d ≤ 99 ∧ w < 8 ∧ r < 8 ∧ v.2.1 = nI n ∧ v.2.2.1 = nI d ∧ v.2.2.2.2.1 = nI w ∧ v.2.2.2.2.2.1 = nI r ∧
  f 0 = bz v.1 ∧ f 1 = nI n ∧ f 2 = nI r ∧ f 3 = nI w ∧ f 4 = bz v.2.2.2.1 ∧ f 5 = nI d ∧
  (∀ i, i < 3 → v.2.2.2.2.2.2.2.1 i = f (11 + 6 * i) ∧ v.2.2.2.2.2.2.2.2.1 i = f (10 + 6 * i)) ∧
  (∀ k, k < 100 → v.2.2.2.2.2.2.2.2.2 k = f (24 + k)) ∧ (∀ k, d < k → k < 100 → f (24 + k) = 0) ∧
  (∀ i, n ≤ i → i < 3 → f (11 + 6 * i) = 0 ∧ f (10 + 6 * i) = 0) ∧
  (∀ i, n ≤ i → i < 3 → r.testBit i = false ∧ w.testBit i = false) ∧ (v.1 = false → n = 0 ∧ d = 0 ∧ v.2.2.2.1 = false)
theorem VI_to {ns : NS} {v : VT} {f : Nat → Int32} (h : VI ns v f) : ∃ (n d w r : Nat) (A kd ch ga lo : Nat → Nat), VN v f n d w r ∧ PCl (pN ns) v.2.2.2.2.2.2.1 n A kd ch ga lo ∧ PMo f n kd ch ga lo ∧ PBd n ch ga lo ∧ (∀ i, i < 3 → ∀ a, v.2.2.2.2.2.2.1 i = some a → a ∈ (pN ns).1) := by
  obtain ⟨n, d, w, r, a1, a2, a3, a4, a5, a6, a7, a8, a9, b1, b2, b3, b4, b5, b6, b7, b8, b9, c1, c2, c3, c4⟩ := h
  have hx : ∀ i, ∃ x : Nat × Nat × Nat × Nat × Nat, i < n → v.2.2.2.2.2.2.1 i = some x.1 ∧ x.1 ∈ (pN ns).1 ∧ (pN ns).2 x.1 = (x.2.1, nI i, nI x.2.2.1, nI x.2.2.2.1, nI x.2.2.2.2) ∧ 1 ≤ x.2.1 ∧ x.2.1 ≤ 5 ∧ x.2.2.1 ≤ 10 ∧ x.2.2.2.1 ≤ 99 ∧ x.2.2.2.2 ≤ 99 ∧ f (6 + 6 * i) = nI x.2.1 ∧ f (7 + 6 * i) = nI x.2.2.1 ∧ f (8 + 6 * i) = nI x.2.2.2.1 ∧ f (9 + 6 * i) = nI x.2.2.2.2 := by
    intro i
    by_cases hi : i < n
    · obtain ⟨a, kd, ch, ga, lo, q⟩ := b9 i hi
      exact ⟨(a, kd, ch, ga, lo), fun _ => q⟩
    · exact ⟨(0, 0, 0, 0, 0), fun q => absurd q hi⟩
  refine ⟨n, d, w, r, fun i => (Classical.choose (hx i)).1, fun i => (Classical.choose (hx i)).2.1, fun i => (Classical.choose (hx i)).2.2.1, fun i => (Classical.choose (hx i)).2.2.2.1, fun i => (Classical.choose (hx i)).2.2.2.2, ⟨a1, a2, a3, a4, a5, a6, a7, a8, a9, b1, b2, b3, b4, b5, b6, b7, b8, c1, c2, c3⟩, fun i hi => ?_, fun i hi => ?_, fun i hi => ?_, c4⟩
  · obtain ⟨q1, q2, q3, q4, q5, q6, q7, q8, q9, s1, s2, s3⟩ := Classical.choose_spec (hx i) hi
    exact ⟨q1, q2, q3, q4, q5⟩
  · obtain ⟨q1, q2, q3, q4, q5, q6, q7, q8, q9, s1, s2, s3⟩ := Classical.choose_spec (hx i) hi
    exact ⟨q9, s1, s2, s3, q4, q5⟩
  · obtain ⟨q1, q2, q3, q4, q5, q6, q7, q8, q9, s1, s2, s3⟩ := Classical.choose_spec (hx i) hi
    exact ⟨q6, q7, q8⟩
theorem VI_of {ns : NS} {v : VT} {f : Nat → Int32} {n d w r : Nat} {A kd ch ga lo : Nat → Nat} (h : VN v f n d w r) (hc : PCl (pN ns) v.2.2.2.2.2.2.1 n A kd ch ga lo) (hm : PMo f n kd ch ga lo) (hb : PBd n ch ga lo) (ha : ∀ i, i < 3 → ∀ a, v.2.2.2.2.2.2.1 i = some a → a ∈ (pN ns).1) : VI ns v f := by
  obtain ⟨a1, a2, a3, a4, a5, a6, a7, a8, a9, b1, b2, b3, b4, b5, b6, b7, b8, c1, c2, c3⟩ := h
  refine ⟨n, d, w, r, a1, a2, a3, a4, a5, a6, a7, a8, a9, b1, b2, b3, b4, b5, b6, b7, b8, fun i hi => ?_, c1, c2, c3, ha⟩
  obtain ⟨q1, q2, q3, q4, q5⟩ := hc i hi
  obtain ⟨s1, s2, s3, s4, -, -⟩ := hm i hi
  obtain ⟨t1, t2, t3⟩ := hb i hi
  exact ⟨_, _, _, _, _, q1, q2, q3, q4, q5, t1, t2, t3, s1, s2, s3, s4⟩
/-- a person's number, or none -/
theorem pa_case {pe : Pe} {people : Nat → Option Nat} {f : Nat → Int32} {n : Nat} {A kd ch ga lo : Nat → Nat} (hn : n ≤ 3) (hc : PCl pe people n A kd ch ga lo) (e1 : f 1 = nI n) (x : Int32) :
    ((∀ post : Option Nat → Prop, post none → wpX9_personAt x (nI n) people pe post) ∧ (∀ post : Bool → Prop, post false → wpX12_isPerson x f post)) ∨ ∃ i : Nat, i < n ∧ x = nI i ∧ (∀ post : Option Nat → Prop, post (some (A i)) → wpX9_personAt x (nI n) people pe post) ∧ (∀ post : Bool → Prop, post true → wpX12_isPerson x f post) := by
  unfold wpX9_personAt wjX9_personAt_12 wpX12_isPerson
  rw [e1]
  rcases ix_case x n (by omega) with h | ⟨h, h1⟩ | ⟨i, hi, rfl⟩
  · exact Or.inl ⟨fun post hp => k1 h hp, fun post hp => in_f (Or.inl h) hp⟩
  · refine Or.inl ⟨fun post hp => k2 h (k2 (fun q => absurd h1 (Int32.not_le.mpr q)) hp), fun post hp => in_f ?_ hp⟩
    rcases pl_case x n (by omega) with g | ⟨j, hj, rfl, -, -⟩
    · exact g
    · exact absurd h1 (nI_ge hj (by omega))
  · refine Or.inr ⟨i, hi, rfl, fun post hp => k2 (nI_pos (by omega)) (k1 (nI_lt hi (by omega)) ⟨vp_in_nI (by omega) (by decide), ?_⟩), fun post hp => ?_⟩
    · rw [nI_clamp (by omega), (hc i hi).1]
      exact ks ⟨(hc i hi).2.1, hp⟩
    · rcases pl_case (nI i) n (by omega) with g | ⟨j, hj, -, g1, g2⟩
      · rcases g with g | g
        · exact absurd g (nI_pos (by omega))
        · rw [sub1 (by omega)] at g
          exact absurd g (nI_nlt (by omega) (by omega))
      · refine in_t (nI_pos (by omega)) ?_ hp
        rw [sub1 (by omega)]
        exact nI_nlt (by omega) (by omega)
theorem pu_kind : Pu_kind Inv := by
  intro S M ns hV p0
  obtain ⟨n, d, w, r, A, kd, ch, ga, lo, hN, hc, hm, hb⟩ := VI_to hV.2.2.2.2.1
  unfold wpX11_kind wpX12_kind
  rw [hN.2.2.2.2.1]
  rcases pa_case hN.1 hc hN.2.2.2.2.2.2.2.2.2.1 p0 with ⟨qc, qm⟩ | ⟨i, hi, rfl, qc, qm⟩
  · exact qc _ (kn (qm _ (kf' ⟨rfl, hV⟩)))
  · refine qc _ (ks ⟨(hc i hi).2.1, ?_⟩)
    rw [(hc i hi).2.2.1]
    exact v_kind (hc i hi).2.2.2.1 (hc i hi).2.2.2.2 (qm _ (kt' (m_kind (by have := hN.1; omega) (hm i hi).1 ⟨rfl, hV⟩)))
theorem pu_lives : Pu_lives Inv := by
  intro S M ns hV p0
  obtain ⟨n, d, w, r, A, kd, ch, ga, lo, hN, hc, hm, hb⟩ := VI_to hV.2.2.2.2.1
  obtain ⟨a1, a2, a3, a4, a5, a6, a7, a8, a9, b1, b2, b3, b4, b5, b6, b7, b8, c1, c2, c3⟩ := hN
  unfold wpX11_lives wpX12_lives wpX12_isVillage
  rw [a6, b5, a9]
  cases hth : S.2.2.2.1.1
  · exact kf (k4 (by decide) (kf ⟨rfl, hV⟩))
  · refine kt ?_
    rcases ix_case p0 100 (by decide) with h | ⟨h, h1⟩ | ⟨j, hj, rfl⟩
    · exact k1 h (k3 rfl (kt (in_f (Or.inl h) (kf ⟨rfl, hV⟩))))
    · exact k2 h (k2 (fun q => absurd h1 (Int32.not_le.mpr q)) (k3 rfl (kt (in_f (Or.inr (gt_of_ge h1 (by decide))) (kf ⟨rfl, hV⟩)))))
    · refine k2 (nI_pos (by omega)) (k1 (nI_lt (b := 100) hj (by decide)) ⟨fun q => ⟨vp_in_nI (by omega) (by decide), ?_⟩, fun q => ?_⟩)
      · refine k3 rfl (kt (in_t (nI_pos (by omega)) (nI_nlt (a := 99) (by omega) (by decide)) (kt (k1 q ?_))))
        rw [show (24 : Int32) = nI 24 from rfl, nI_add, nI_clamp (show 24 + j < 2 ^ 31 by omega), nI_clamp (show j < 2 ^ 31 by omega)]
        exact ⟨vp_in_nI (by omega) (by decide), b7 j hj, hV⟩
      · exact k3 rfl (kt (in_t (nI_pos (by omega)) (nI_nlt (a := 99) (by omega) (by decide)) (kt (k2 q ⟨rfl, hV⟩))))
