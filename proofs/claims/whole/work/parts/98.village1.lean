-- persons of the tape
def cc1 (len : Nat) (c : Nat → Nat) (st : Nat × Nat) : Nat × (Nat × Nat) := nm len c 10 st
def cc2 (len : Nat) (c : Nat → Nat) (st : Nat × Nat) : Nat × (Nat × Nat) := nm len c 99 (sg len c 44 (cc1 len c st).2)
def cc3 (len : Nat) (c : Nat → Nat) (st : Nat × Nat) : Nat × (Nat × Nat) := nm len c 99 (sg len c 44 (cc2 len c st).2)
def cc4 (len : Nat) (c : Nat → Nat) (st : Nat × Nat) : Nat × Nat := sg len c 59 (cc3 len c st).2
def srt (x : Int32) : Bool := decide (x = 102 ∨ x = 103 ∨ x = 115 ∨ x = 119 ∨ x = 120)
theorem sort_c {x : Int32} {post : Bool → Prop} (hp : post (srt x)) : wpX7_isSort x post := by
  unfold wpX7_isSort wjX7_isSort_30
  by_cases h1 : x = 102
  · rw [show srt x = true from decide_eq_true (Or.inl h1)] at hp
    exact k1 h1 hp
  · refine k2 h1 ?_
    by_cases h2 : x = 103
    · rw [show srt x = true from decide_eq_true (Or.inr (Or.inl h2))] at hp
      exact k1 h2 hp
    · refine k2 h2 ?_
      by_cases h3 : x = 115
      · rw [show srt x = true from decide_eq_true (Or.inr (Or.inr (Or.inl h3)))] at hp
        exact k1 h3 hp
      · refine k2 h3 ?_
        by_cases h4 : x = 119
        · rw [show srt x = true from decide_eq_true (Or.inr (Or.inr (Or.inr (Or.inl h4))))] at hp
          exact k1 h4 hp
        · refine k2 h4 ?_
          by_cases h5 : x = 120
          · rw [show srt x = true from decide_eq_true (Or.inr (Or.inr (Or.inr (Or.inr h5))))] at hp
            exact k3 h5 hp
          · rw [show srt x = false from decide_eq_false (by rintro (h | h | h | h | h) <;> contradiction)] at hp
            exact k4 h5 hp
theorem kind_m {x : Int32} {post : Int32 → Prop} (hp : post (if srt x = true then nI (kindS x) else 0)) : wpX12_kindOf x post := by
  unfold wpX12_kindOf
  unfold kindS at hp
  by_cases h1 : x = 102
  · rw [show srt x = true from decide_eq_true (Or.inl h1), if_pos rfl, if_pos h1] at hp
    exact k3 h1 hp
  · refine k4 h1 ?_
    by_cases h2 : x = 103
    · rw [show srt x = true from decide_eq_true (Or.inr (Or.inl h2)), if_pos rfl, if_neg h1, if_pos h2] at hp
      exact k3 h2 hp
    · refine k4 h2 ?_
      by_cases h3 : x = 115
      · rw [show srt x = true from decide_eq_true (Or.inr (Or.inr (Or.inl h3))), if_pos rfl, if_neg h1, if_neg h2, if_pos h3] at hp
        exact k3 h3 hp
      · refine k4 h3 ?_
        by_cases h4 : x = 119
        · rw [show srt x = true from decide_eq_true (Or.inr (Or.inr (Or.inr (Or.inl h4)))), if_pos rfl, if_neg h1, if_neg h2, if_neg h3, if_pos h4] at hp
          exact k3 h4 hp
        · refine k4 h4 ?_
          by_cases h5 : x = 120
          · rw [show srt x = true from decide_eq_true (Or.inr (Or.inr (Or.inr (Or.inr h5)))), if_pos rfl, if_neg h1, if_neg h2, if_neg h3, if_neg h4] at hp
            exact k3 h5 hp
          · rw [show srt x = false from decide_eq_false (by rintro (h | h | h | h | h) <;> contradiction)] at hp
            exact k4 h5 hp
theorem kindS_b (x : Int32) : 1 ≤ kindS x ∧ kindS x ≤ 5 := by
  unfold kindS
  by_cases h1 : x = 102
  · rw [if_pos h1]
    omega
  · rw [if_neg h1]
    by_cases h2 : x = 103
    · rw [if_pos h2]
      omega
    · rw [if_neg h2]
      by_cases h3 : x = 115
      · rw [if_pos h3]
        omega
      · rw [if_neg h3]
        by_cases h4 : x = 119
        · rw [if_pos h4]
          omega
        · rw [if_neg h4]
          omega
theorem srt_l {x : Int32} (h : srt x = true) : ∃ y : Nat, (y = 102 ∨ y = 103 ∨ y = 115 ∨ y = 119 ∨ y = 120) ∧ x = nI y := by
  rcases of_decide_eq_true h with h | h | h | h | h
  · exact ⟨102, by omega, h⟩
  · exact ⟨103, by omega, h⟩
  · exact ⟨115, by omega, h⟩
  · exact ⟨119, by omega, h⟩
  · exact ⟨120, by omega, h⟩
theorem tkc_s {x : Int32} (h : srt x = true) : tkc x = 1 := by
  rcases of_decide_eq_true h with h | h | h | h | h <;> (rw [h]; decide)
section tape
variable {len : Nat} {c : Nat → Nat} {bytes : Nat → Int32}
theorem cc4_f {st : Nat × Nat} (h : ¬ st.2 = 0) : cc4 len c st = st := by
  have e1 : (cc1 len c st).2 = st := by rw [cc1, nm_f h]
  have e2 : (cc2 len c st).2 = st := by rw [cc2, e1, sg_f h, nm_f h]
  have e3 : (cc3 len c st).2 = st := by rw [cc3, e2, sg_f h, nm_f h]
  rw [cc4, e3, sg_f h]
theorem cc_0 {st : Nat × Nat} (h : (cc4 len c st).2 = 0) : (cc1 len c st).2.2 = 0 ∧ (cc2 len c st).2.2 = 0 ∧ (cc3 len c st).2.2 = 0 := by
  have h3 : (cc3 len c st).2.2 = 0 := sg_0 h
  have h2 : (cc2 len c st).2.2 = 0 := sg_0 (nm_0 h3)
  exact ⟨sg_0 (nm_0 h2), h2, h3⟩
theorem cc1_ok (hl : len ≤ 60) {st : Nat × Nat} (h : Ok len st) : Ok len (cc1 len c st).2 := nm_ok hl 10 h
theorem cc2_ok (hl : len ≤ 60) {st : Nat × Nat} (h : Ok len st) : Ok len (cc2 len c st).2 := nm_ok hl 99 (sg_ok (by omega) (cc1_ok hl h))
theorem cc3_ok (hl : len ≤ 60) {st : Nat × Nat} (h : Ok len st) : Ok len (cc3 len c st).2 := nm_ok hl 99 (sg_ok (by omega) (cc2_ok hl h))
theorem cc4_ok (hl : len ≤ 60) {st : Nat × Nat} (h : Ok len st) : Ok len (cc4 len c st) := sg_ok (by omega) (cc3_ok hl h)
def tF (len : Nat) (c : Nat → Nat) (i k : Nat) : PT := (kindS (bA len c k), nI i, nI (cc1 len c (k + 1, 0)).1, nI (cc2 len c (k + 1, 0)).1, nI (cc3 len c (k + 1, 0)).1)
-- the class
theorem tail_c (hl : len ≤ 60) (hc : ∀ k, k < len → c k < 256) (hb : ∀ k, k < 60 → bytes k = nI (c k)) {l1 : Int32} {x : Nat} {st : Nat × Nat} (hs : Ok len st) (hx : x < 1000) {post : Option PT → Int32 → Int32 → Prop}
    (h0 : (cc4 len c (sg len c x st)).2 = 0 → post (some (kindS (nI x), l1, nI (cc1 len c (sg len c x st)).1, nI (cc2 len c (sg len c x st)).1, nI (cc3 len c (sg len c x st)).1)) (nI (cc4 len c (sg len c x st)).1) 0)
    (h1 : ¬ (cc4 len c (sg len c x st)).2 = 0 → post none (nI (cc4 len c (sg len c x st)).1) (nI (cc4 len c (sg len c x st)).2)) : wjX7_readPerson_34 (nI len) bytes post l1 (nI x) (nI st.1) (nI st.2) := by
  unfold wjX7_readPerson_34
  have hs1 : Ok len (sg len c x st) := sg_ok hx hs
  refine sign_c hl hb hs ?_
  refine number_c hl hc hb (x := 10) (by omega) hs1 (fun v1 e1 => ?_)
  refine sign_c hl hb (x := 44) (cc1_ok hl hs1) ?_
  refine number_c hl hc hb (x := 99) (by omega) (sg_ok (by omega) (cc1_ok hl hs1)) (fun v2 e2 => ?_)
  refine sign_c hl hb (x := 44) (cc2_ok hl hs1) ?_
  refine number_c hl hc hb (x := 99) (by omega) (sg_ok (by omega) (cc2_ok hl hs1)) (fun v3 e3 => ?_)
  refine sign_c hl hb (x := 59) (cc3_ok hl hs1) ?_
  have h4 := cc4_ok (c := c) hl hs1
  by_cases q : (cc4 len c (sg len c x st)).2 = 0
  · obtain ⟨g1, g2, g3⟩ := cc_0 q
    have e1 : v1 = nI (cc1 len c (sg len c x st)).1 := e1 g1
    have e2 : v2 = nI (cc2 len c (sg len c x st)).1 := e2 g2
    have e3 : v3 = nI (cc3 len c (sg len c x st)).1 := e3 g3
    have p0 := h0 q
    rw [← e1, ← e2, ← e3] at p0
    have q' : nI (sg len c 59 (cc3 len c (sg len c x st)).2).2 = 0 := by
      show nI (cc4 len c (sg len c x st)).2 = 0
      rw [q]
      rfl
    refine k1 q' ?_
    show post _ (nI (cc4 len c (sg len c x st)).1) (nI (cc4 len c (sg len c x st)).2)
    rw [q]
    exact p0
  · exact k2 (nI_nz q h4.2) (h1 q)
theorem person_c (hl : len ≤ 60) (hc : ∀ k, k < len → c k < 256) (hb : ∀ k, k < 60 → bytes k = nI (c k)) {i k : Nat} (hi : i ≤ 3) (hk : k < len) {post : Option PT → Int32 → Int32 → Prop}
    (h1 : srt (bA len c k) = false → post none (nI k) 1)
    (h2 : srt (bA len c k) = true → i = 3 → post none (nI k) 3)
    (h3 : srt (bA len c k) = true → i < 3 → ¬ (cc4 len c (k + 1, 0)).2 = 0 → post none (nI (cc4 len c (k + 1, 0)).1) (nI (cc4 len c (k + 1, 0)).2))
    (h4 : srt (bA len c k) = true → i < 3 → (cc4 len c (k + 1, 0)).2 = 0 → post (some (tF len c i k)) (nI (cc4 len c (k + 1, 0)).1) 0) : wpX7_readPerson (nI i) (nI len) (nI k) 0 bytes post := by
  have hck := hc k hk
  unfold wpX7_readPerson
  refine byte_c hl hb (by omega) (sort_c ?_)
  rw [bA_in hk]
  rw [bA_in hk] at h1 h2 h3 h4
  have flawed : ∀ f : Nat, ¬ f = 0 → f ≤ 3 → post none (nI k) (nI f) → wjX7_readPerson_34 (nI len) bytes post (nI i) (nI (c k)) (nI k) (nI f) := by
    intro f hf hf3 hp
    have e : sg len c (c k) (k, f) = (k, f) := sg_f hf
    have e4 : cc4 len c (sg len c (c k) (k, f)) = (k, f) := by rw [e, cc4_f hf]
    refine tail_c hl hc hb (st := (k, f)) ⟨Nat.le_of_lt hk, hf3⟩ (by omega) (fun z => ?_) (fun z => ?_)
    · rw [e4] at z
      exact absurd z hf
    · rw [e4]
      exact hp
  cases e : srt (nI (c k)) with
  | false => exact kf (flawed 1 (by decide) (by decide) (h1 e))
  | true =>
    refine kt ?_
    by_cases q : i < 3
    · refine k1 (nI_lt (b := 3) q (by decide)) ?_
      have e1 : sg len c (c k) (k, 0) = (k + 1, 0) := sg_y rfl (bA_in hk)
      refine tail_c hl hc hb (st := (k, 0)) ⟨Nat.le_of_lt hk, Nat.zero_le _⟩ (by omega) (fun z => ?_) (fun z => ?_)
      · rw [e1] at z ⊢
        have := h4 e q z
        unfold tF at this
        rw [bA_in hk] at this
        exact this
      · rw [e1] at z ⊢
        exact h3 e q z
    · exact k2 (nI_nlt (b := 3) (by omega) (by omega)) (flawed 3 (by decide) (by decide) (h2 e (by omega)))
-- the reference
/-- what a person that is read adds to the draft -/
def DN (len : Nat) (c : Nat → Nat) (i k : Nat) (d d' : Nat → Int32) : Prop :=
  d' (6 + 6 * i) = nI (kindS (bA len c k)) ∧ d' (7 + 6 * i) = nI (cc1 len c (k + 1, 0)).1 ∧ d' (8 + 6 * i) = nI (cc2 len c (k + 1, 0)).1 ∧ d' (9 + 6 * i) = nI (cc3 len c (k + 1, 0)).1 ∧
  d' 2 = (if kindS (bA len c k) = 5 then d 2 else d 2 ||| ((1 : Int32) <<< (nI i &&& 31))) ∧ d' 1 = nI (i + 1) ∧ ∀ j, j ≠ 1 → j ≠ 2 → j ≠ 6 + 6 * i → j ≠ 7 + 6 * i → j ≠ 8 + 6 * i → j ≠ 9 + 6 * i → d' j = d j
theorem DN_of {i k : Nat} (hi : i < 3) {d : Nat → Int32} (hd : d 1 = nI i) {v1 v2 v3 v4 : Int32} (e1 : v1 = nI (kindS (bA len c k))) (e2 : v2 = nI (cc1 len c (k + 1, 0)).1) (e3 : v3 = nI (cc2 len c (k + 1, 0)).1) (e4 : v4 = nI (cc3 len c (k + 1, 0)).1) {x y z : Int32} (hx : x = (if kindS (bA len c k) = 5 then 0 else ((1 : Int32) <<< (nI i &&& 31)))) (hy : y = d 2) (hz : z = nI i + 1) :
    DN len c i k d (upd (upd (upd (upd (upd (upd d (6 + 6 * i) v1) (7 + 6 * i) v2) (8 + 6 * i) v3) (9 + 6 * i) v4) 2 (y ||| x)) 1 z) := by
  refine ⟨?_, ?_, ?_, ?_, ?_, ?_, fun j j1 j2 j3 j4 j5 j6 => ?_⟩
  · rw [upd_n (by omega), upd_n (by omega), upd_n (by omega), upd_n (by omega), upd_n (by omega), upd_s, e1]
  · rw [upd_n (by omega), upd_n (by omega), upd_n (by omega), upd_n (by omega), upd_s, e2]
  · rw [upd_n (by omega), upd_n (by omega), upd_n (by omega), upd_s, e3]
  · rw [upd_n (by omega), upd_n (by omega), upd_s, e4]
  · rw [upd_n (by omega), upd_s, hx, hy]
    by_cases q : kindS (bA len c k) = 5
    · rw [if_pos q, if_pos q]
      exact Int32.or_zero
    · rw [if_neg q, if_neg q]
  · rw [upd_s, hz, nI_1]
  · rw [upd_n j1, upd_n j2, upd_n j6, upd_n j5, upd_n j4, upd_n j3]
theorem tail_m (hl : len ≤ 60) (hc : ∀ k, k < len → c k < 256) (hb : ∀ k, k < 60 → bytes k = nI (c k)) {i k : Nat} (hi : i ≤ 3) {st : Nat × Nat} (hs : Ok len st) (hst : st.2 = 0 → i < 3 ∧ st = (k + 1, 0)) {j : Nat} (hj : j = (if i < 3 then i else 0)) {fk0 fk fp aft start tok val : Int32} (hR : RMs len c st fk0 fk fp aft start tok val) {d : Nat → Int32} (hd : d 1 = nI i) {post : Unit → Int32 → Int32 → Int32 → Int32 → Int32 → Int32 → (Nat → Int32) → Prop}
    (h3 : ¬ (cc4 len c st).2 = 0 → ∀ aft' start' tok' val', post () (nI (cc4 len c st).2) (nI (cc4 len c st).1) aft' start' tok' val' d)
    (h4 : st.2 = 0 → (cc4 len c st).2 = 0 → ∀ aft' start' tok' val' d', RMs len c (cc4 len c st) fk0 fk0 (-1) aft' start' tok' val' → DN len c i k d d' → post () fk0 (-1) aft' start' tok' val' d') : wjX12_readsPerson_53 (nI len) bytes post (nI (kindS (bA len c k))) (nI j) 6 6 fk fp aft start tok val d := by
  unfold wjX12_readsPerson_53
  rw [ix6]
  refine number_m hl hc hb (x := 10) (by omega) hs hR (fun v1 fk1 fp1 aft1 start1 tok1 val1 hR1 e1 => ?_)
  unfold wjX12_readsPerson_77
  refine sign_m hl hc hb (t := 3) (x := 44) (Or.inr ⟨rfl, rfl⟩) (cc1_ok hl hs) hR1 (fun w1 fk2 fp2 aft2 start2 tok2 val2 hR2 => ?_)
  refine number_m hl hc hb (x := 99) (by omega) (sg_ok (by omega) (cc1_ok hl hs)) hR2 (fun v2 fk3 fp3 aft3 start3 tok3 val3 hR3 e2 => ?_)
  unfold wjX12_readsPerson_104
  refine sign_m hl hc hb (t := 3) (x := 44) (Or.inr ⟨rfl, rfl⟩) (cc2_ok hl hs) hR3 (fun w2 fk4 fp4 aft4 start4 tok4 val4 hR4 => ?_)
  refine number_m hl hc hb (x := 99) (by omega) (sg_ok (by omega) (cc2_ok hl hs)) hR4 (fun v3 fk5 fp5 aft5 start5 tok5 val5 hR5 e3 => ?_)
  unfold wjX12_readsPerson_131 wjX12_readsPerson_203
  refine sign_m hl hc hb (t := 4) (x := 59) (Or.inl ⟨rfl, rfl⟩) (cc3_ok hl hs) hR5 (fun w3 fk6 fp6 aft6 start6 tok6 val6 hR6 => ?_)
  have hR6 : RMs len c (cc4 len c st) fk0 fk6 fp6 aft6 start6 tok6 val6 := hR6
  have h4ok := cc4_ok (c := c) hl hs
  by_cases q : (cc4 len c st).2 = 0
  · obtain ⟨g1, g2, g3⟩ := cc_0 q
    have s0 : st.2 = 0 := nm_0 g1
    obtain ⟨i3, es⟩ := hst s0
    rw [if_pos i3] at hj
    rw [hj]
    have e1 : v1 = nI (cc1 len c st).1 := e1 g1
    have e2 : v2 = nI (cc2 len c st).1 := e2 g2
    have e3 : v3 = nI (cc3 len c st).1 := e3 g3
    obtain ⟨r1, r2, r3, r4⟩ := hR6.1 q
    have a1 : nI (6 + 6 * i) + 1 = nI (7 + 6 * i) := by rw [nI_1]; congr 1; omega
    have a2 : nI (6 + 6 * i) + 2 = nI (8 + 6 * i) := by rw [show (2 : Int32) = nI 2 from rfl, nI_add]; congr 1; omega
    have a3 : nI (6 + 6 * i) + 3 = nI (9 + 6 * i) := by rw [show (3 : Int32) = nI 3 from rfl, nI_add]; congr 1; omega
    rw [a1, a2, a3, nI_clamp (show 6 + 6 * i < 2 ^ 31 by omega), nI_clamp (show 7 + 6 * i < 2 ^ 31 by omega), nI_clamp (show 8 + 6 * i < 2 ^ 31 by omega), nI_clamp (show 9 + 6 * i < 2 ^ 31 by omega), show (2 : Int32).toNatClampNeg = 2 from rfl]
    have v2' : vp_in (2 : Int32) 124 := vp_in_nI (n := 2) (by decide) (by decide)
    have d1 : upd (upd (upd (upd d (6 + 6 * i) (nI (kindS (bA len c k)))) (7 + 6 * i) v1) (8 + 6 * i) v2) (9 + 6 * i) v3 1 = nI i := by
      rw [upd_n (by omega), upd_n (by omega), upd_n (by omega), upd_n (by omega), hd]
    have d2 : upd (upd (upd (upd d (6 + 6 * i) (nI (kindS (bA len c k)))) (7 + 6 * i) v1) (8 + 6 * i) v2) (9 + 6 * i) v3 2 = d 2 := by
      rw [upd_n (by omega), upd_n (by omega), upd_n (by omega), upd_n (by omega)]
    rw [es] at e1 e2 e3
    have kb := kindS_b (bA len c k)
    have fin : ∀ x, x = (if kindS (bA len c k) = 5 then 0 else ((1 : Int32) <<< (nI i &&& 31))) → post () fk0 (-1) aft6 start6 tok6 val6 (upd (upd (upd (upd (upd (upd d (6 + 6 * i) (nI (kindS (bA len c k)))) (7 + 6 * i) v1) (8 + 6 * i) v2) (9 + 6 * i) v3) 2 (upd (upd (upd (upd d (6 + 6 * i) (nI (kindS (bA len c k)))) (7 + 6 * i) v1) (8 + 6 * i) v2) (9 + 6 * i) v3 2 ||| x)) 1 (upd (upd (upd (upd (upd d (6 + 6 * i) (nI (kindS (bA len c k)))) (7 + 6 * i) v1) (8 + 6 * i) v2) (9 + 6 * i) v3) 2 (upd (upd (upd (upd d (6 + 6 * i) (nI (kindS (bA len c k)))) (7 + 6 * i) v1) (8 + 6 * i) v2) (9 + 6 * i) v3 2 ||| x) 1 + 1)) := by
      intro x hx
      refine h4 s0 q _ _ _ _ _ ⟨fun z => ⟨rfl, rfl, r3, r4⟩, fun z => absurd q z⟩ (DN_of i3 hd rfl e1 e2 e3 hx d2 ?_)
      rw [upd_n (by omega), d1]
    rw [r1, r2]
    refine well_t (kt' ⟨vp_in_nI (by omega) (by decide), vp_in_nI (by omega) (by decide), vp_in_nI (by omega) (by decide), vp_in_nI (by omega) (by decide), fun z => ⟨v2', fin _ ?_⟩, fun z => ⟨v2', fin _ ?_⟩⟩)
    · rw [d1, if_neg (fun y => z (by rw [y]; rfl))]
    · rw [if_pos ((nI_eq (b := 5) (by omega) (by decide)).mp z)]
  · obtain ⟨r1, r2⟩ := hR6.2 q
    rw [r1, r2]
    have := h4ok.1
    exact well_f (by omega) (kf' (h3 q _ _ _ _))
theorem person_m (hl : len ≤ 60) (hc : ∀ k, k < len → c k < 256) (hb : ∀ k, k < 60 → bytes k = nI (c k)) {i k : Nat} (hi : i ≤ 3) (hk : k < len) (hsr : srt (bA len c k) = true) {fk0 aft start tok val : Int32} (hR : RMs len c (k, 0) fk0 fk0 (-1) aft start tok val) {d : Nat → Int32} (hd : d 1 = nI i) {post : Unit → Int32 → Int32 → Int32 → Int32 → Int32 → Int32 → (Nat → Int32) → Prop}
    (h2 : i = 3 → ∀ aft' start' tok' val', post () 3 (nI k) aft' start' tok' val' d)
    (h3 : i < 3 → ¬ (cc4 len c (k + 1, 0)).2 = 0 → ∀ aft' start' tok' val', post () (nI (cc4 len c (k + 1, 0)).2) (nI (cc4 len c (k + 1, 0)).1) aft' start' tok' val' d)
    (h4 : i < 3 → (cc4 len c (k + 1, 0)).2 = 0 → ∀ aft' start' tok' val' d', RMs len c (cc4 len c (k + 1, 0)) fk0 fk0 (-1) aft' start' tok' val' → DN len c i k d d' → post () fk0 (-1) aft' start' tok' val' d') : wpX12_readsPerson (nI len) fk0 (-1) aft start tok val d bytes post := by
  obtain ⟨y, hy, ey⟩ := srt_l hsr
  obtain ⟨r1, r2, r3, r4⟩ := hR.1 rfl
  obtain ⟨t1, t2, t3⟩ := TK_1 hl (x := y) (by omega) (by omega) ey r4
  unfold wpX12_readsPerson
  rw [t1]
  refine kind_m ?_
  rw [if_pos hsr, hd]
  unfold wjX12_readsPerson_24 wpX12_takes
  rw [hd]
  by_cases q : i < 3
  · refine k2 (nI_ge (b := 3) q (by decide)) (well_t (kt (kt ?_)))
    rw [t3]
    refine adv_m hl hc hb (by omega) (fun tok' val' aft' hT => k2 (nI_ge (b := 3) q (by decide)) ?_)
    refine tail_m hl hc hb hi (st := (k + 1, 0)) ⟨hk, Nat.zero_le _⟩ (fun _ => ⟨q, rfl⟩) (by rw [if_pos q]) ⟨fun _ => ⟨rfl, rfl, rfl, hT⟩, fun z => absurd rfl z⟩ hd (fun z => h3 q z) (fun _ z => h4 q z)
  · have i3 : i = 3 := by omega
    refine k1 (nI_le (a := 3) (by omega) (by omega)) (well_t (kt (kf (k1 (nI_le (a := 3) (by omega) (by omega)) ?_))))
    rw [r3]
    have e4 : cc4 len c (k, 3) = (k, 3) := cc4_f (show ¬ (3 : Nat) = 0 by decide)
    refine tail_m hl hc hb hi (st := (k, 3)) (fk0 := fk0) (j := 0) ⟨Nat.le_of_lt hk, Nat.le_refl _⟩ (fun z => by cases z) (by rw [if_neg q]) ⟨(fun z => by cases z), fun z => ⟨rfl, rfl⟩⟩ hd (fun z => ?_) (fun z => by cases z)
    rw [e4]
    exact h2 i3
end tape
