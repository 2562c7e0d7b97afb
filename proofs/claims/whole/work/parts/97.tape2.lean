-- the reading's states: a place and a flaw; signs and numbers
def sg (len : Nat) (c : Nat → Nat) (x : Nat) (st : Nat × Nat) : Nat × Nat := if st.2 = 0 then (if bA len c st.1 = nI x then (st.1 + 1, 0) else (st.1, 1)) else st
def nm (len : Nat) (c : Nat → Nat) (most : Nat) (st : Nat × Nat) : Nat × (Nat × Nat) :=
  if st.2 = 0 then (if run len c st.1 = 1 ∨ run len c st.1 = 2 then (if vl c (run len c st.1) st.1 ≤ most then (vl c (run len c st.1) st.1, (st.1 + run len c st.1, 0)) else (0, (st.1, 2))) else (0, (st.1, 1))) else (0, st)
def Ok (len : Nat) (st : Nat × Nat) : Prop := st.1 ≤ len ∧ st.2 ≤ 3
section tape
variable {len : Nat} {c : Nat → Nat} {bytes : Nat → Int32}
theorem sg_f {x : Nat} {st : Nat × Nat} (h : ¬ st.2 = 0) : sg len c x st = st := if_neg h
theorem nm_f {x : Nat} {st : Nat × Nat} (h : ¬ st.2 = 0) : nm len c x st = (0, st) := if_neg h
theorem sg_y {x : Nat} {st : Nat × Nat} (h : st.2 = 0) (h2 : bA len c st.1 = nI x) : sg len c x st = (st.1 + 1, 0) := by rw [sg, if_pos h, if_pos h2]
theorem sg_n {x : Nat} {st : Nat × Nat} (h : st.2 = 0) (h2 : ¬ bA len c st.1 = nI x) : sg len c x st = (st.1, 1) := by rw [sg, if_pos h, if_neg h2]
theorem nm_y {x : Nat} {st : Nat × Nat} (h : st.2 = 0) (h2 : run len c st.1 = 1 ∨ run len c st.1 = 2) (h3 : vl c (run len c st.1) st.1 ≤ x) : nm len c x st = (vl c (run len c st.1) st.1, (st.1 + run len c st.1, 0)) := by rw [nm, if_pos h, if_pos h2, if_pos h3]
theorem nm_2 {x : Nat} {st : Nat × Nat} (h : st.2 = 0) (h2 : run len c st.1 = 1 ∨ run len c st.1 = 2) (h3 : ¬ vl c (run len c st.1) st.1 ≤ x) : nm len c x st = (0, (st.1, 2)) := by rw [nm, if_pos h, if_pos h2, if_neg h3]
theorem nm_1 {x : Nat} {st : Nat × Nat} (h : st.2 = 0) (h2 : ¬ (run len c st.1 = 1 ∨ run len c st.1 = 2)) : nm len c x st = (0, (st.1, 1)) := by rw [nm, if_pos h, if_neg h2]
theorem bA_lt {k x : Nat} (hx : x < 1000) (h : bA len c k = nI x) : k < len := by
  by_cases q : k < len
  · exact q
  · rw [bA_out (by omega)] at h
    exact absurd h.symm (m1_ne (by omega))
theorem sg_0 {x : Nat} {st : Nat × Nat} (h : (sg len c x st).2 = 0) : st.2 = 0 := by
  by_cases q : st.2 = 0
  · exact q
  · rw [sg_f q] at h
    exact h
theorem nm_0 {x : Nat} {st : Nat × Nat} (h : (nm len c x st).2.2 = 0) : st.2 = 0 := by
  by_cases q : st.2 = 0
  · exact q
  · rw [nm_f q] at h
    exact h
theorem nm_le (x : Nat) (st : Nat × Nat) : (nm len c x st).1 ≤ x := by
  by_cases q : st.2 = 0
  · by_cases q2 : run len c st.1 = 1 ∨ run len c st.1 = 2
    · by_cases q3 : vl c (run len c st.1) st.1 ≤ x
      · rw [nm_y q q2 q3]
        exact q3
      · rw [nm_2 q q2 q3]
        exact Nat.zero_le _
    · rw [nm_1 q q2]
      exact Nat.zero_le _
  · rw [nm_f q]
    exact Nat.zero_le _
theorem sg_ok {x : Nat} (hx : x < 1000) {st : Nat × Nat} (h : Ok len st) : Ok len (sg len c x st) := by
  obtain ⟨h1, h2⟩ := h
  by_cases q : st.2 = 0
  · by_cases q2 : bA len c st.1 = nI x
    · rw [sg_y q q2]
      have := bA_lt hx q2
      exact ⟨this, Nat.zero_le _⟩
    · rw [sg_n q q2]
      exact ⟨h1, show 1 ≤ 3 by decide⟩
  · rw [sg_f q]
    exact ⟨h1, h2⟩
theorem nm_ok (hl : len ≤ 60) (x : Nat) {st : Nat × Nat} (h : Ok len st) : Ok len (nm len c x st).2 := by
  obtain ⟨h1, h2⟩ := h
  by_cases q : st.2 = 0
  · by_cases q2 : run len c st.1 = 1 ∨ run len c st.1 = 2
    · by_cases q3 : vl c (run len c st.1) st.1 ≤ x
      · rw [nm_y q q2 q3]
        exact ⟨run_len hl h1, Nat.zero_le _⟩
      · rw [nm_2 q q2 q3]
        exact ⟨h1, show 2 ≤ 3 by decide⟩
    · rw [nm_1 q q2]
      exact ⟨h1, show 1 ≤ 3 by decide⟩
  · rw [nm_f q]
    exact ⟨h1, h2⟩
theorem nI_nz {x : Nat} (h : ¬ x = 0) (h3 : x ≤ 3) : ¬ nI x = 0 := nI_ne0 (by omega) (by omega)
-- the class
theorem sign_c (hl : len ≤ 60) (hb : ∀ k, k < 60 → bytes k = nI (c k)) {x : Nat} {st : Nat × Nat} (hs : Ok len st) {post : Unit → Int32 → Int32 → Prop} (hp : post () (nI (sg len c x st).1) (nI (sg len c x st).2)) : wpX7_readSign (nI x) (nI len) (nI st.1) (nI st.2) bytes post := by
  obtain ⟨h1, h2⟩ := hs
  unfold wpX7_readSign
  by_cases q : st.2 = 0
  · refine k1 (by rw [q]; rfl) (byte_c hl hb (by omega) ?_)
    by_cases q2 : bA len c st.1 = nI x
    · rw [sg_y q q2] at hp
      refine k3 q2 ?_
      rw [nI_1, q]
      exact hp
    · rw [sg_n q q2] at hp
      exact k4 q2 hp
  · rw [sg_f q] at hp
    exact k2 (nI_nz q h2) hp
theorem number_c (hl : len ≤ 60) (hc : ∀ k, k < len → c k < 256) (hb : ∀ k, k < 60 → bytes k = nI (c k)) {x : Nat} (hx : x ≤ 99) {st : Nat × Nat} (hs : Ok len st) {post : Int32 → Int32 → Int32 → Prop} (hp : ∀ v, ((nm len c x st).2.2 = 0 → v = nI (nm len c x st).1) → post v (nI (nm len c x st).2.1) (nI (nm len c x st).2.2)) : wpX7_readNumber (nI x) (nI len) (nI st.1) (nI st.2) bytes post := by
  obtain ⟨h1, h2⟩ := hs
  by_cases q : st.2 = 0
  · rw [q]
    refine num_c hl hc hb hx (by omega) (fun r v => ?_) (fun r w v => ?_) (fun r w => ?_)
    · rw [nm_1 q (by omega)] at hp
      exact hp v (fun z => by cases z)
    · rw [nm_2 q r (by omega)] at hp
      exact hp v (fun z => by cases z)
    · rw [nm_y q r w] at hp
      exact hp _ (fun _ => rfl)
  · unfold wpX7_readNumber
    rw [nm_f q] at hp
    exact k2 (nI_nz q h2) (hp 0 (fun z => absurd z q))
-- the reference
def RMs (len : Nat) (c : Nat → Nat) (st : Nat × Nat) (fk0 fk fp aft start tok val : Int32) : Prop := (st.2 = 0 → fk = fk0 ∧ fp = -1 ∧ start = nI st.1 ∧ TK len c st.1 tok val aft) ∧ (¬ st.2 = 0 → fk = nI st.2 ∧ fp = nI st.1)
theorem well_t {post : Bool → Prop} (hp : post true) : wpX12_isWell (-1) post := k2 (by decide) hp
theorem well_f {k : Nat} (hk : k ≤ 60) {post : Bool → Prop} (hp : post false) : wpX12_isWell (nI k) post := k1 (nI_pos' (by omega)) hp
theorem tkc_4 (x : Int32) : tkc x = 4 ↔ x = 59 := by
  refine ⟨fun h => ?_, fun h => by rw [h]; decide⟩
  unfold tkc at h
  by_cases q : 0 ≤ x
  · rw [if_pos q] at h
    by_cases q1 : ¬ x < 97 ∧ ¬ 122 < x
    · rw [if_pos q1] at h
      exact absurd h (by decide)
    · rw [if_neg q1] at h
      by_cases q2 : x = 44
      · rw [if_pos q2] at h
        exact absurd h (by decide)
      · rw [if_neg q2] at h
        by_cases q3 : x = 59
        · exact q3
        · rw [if_neg q3] at h
          exact absurd h (by decide)
  · rw [if_neg q] at h
    exact absurd h (by decide)
theorem tkc_3 (x : Int32) : tkc x = 3 ↔ x = 44 := by
  refine ⟨fun h => ?_, fun h => by rw [h]; decide⟩
  unfold tkc at h
  by_cases q : 0 ≤ x
  · rw [if_pos q] at h
    by_cases q1 : ¬ x < 97 ∧ ¬ 122 < x
    · rw [if_pos q1] at h
      exact absurd h (by decide)
    · rw [if_neg q1] at h
      by_cases q2 : x = 44
      · exact q2
      · rw [if_neg q2] at h
        by_cases q3 : x = 59
        · rw [if_pos q3] at h
          exact absurd h (by decide)
        · rw [if_neg q3] at h
          exact absurd h (by decide)
  · rw [if_neg q] at h
    exact absurd h (by decide)
theorem tkc_1 (x : Int32) : tkc x = 1 ↔ (¬ x < 97 ∧ ¬ 122 < x) := by
  constructor
  · intro h
    unfold tkc at h
    by_cases q : 0 ≤ x
    · rw [if_pos q] at h
      by_cases q1 : ¬ x < 97 ∧ ¬ 122 < x
      · exact q1
      · rw [if_neg q1] at h
        by_cases q2 : x = 44
        · rw [if_pos q2] at h
          exact absurd h (by decide)
        · rw [if_neg q2] at h
          by_cases q3 : x = 59
          · rw [if_pos q3] at h
            exact absurd h (by decide)
          · rw [if_neg q3] at h
            exact absurd h (by decide)
    · rw [if_neg q] at h
      exact absurd h (by decide)
  · intro h
    have q : 0 ≤ x := Int32.le_trans (show (0 : Int32) ≤ 97 by decide) (Int32.not_lt.mp h.1)
    unfold tkc
    rw [if_pos q, if_pos h]
theorem tkc_0 (x : Int32) : tkc x = 0 ↔ ¬ 0 ≤ x := by
  unfold tkc
  by_cases q : 0 ≤ x
  · rw [if_pos q]
    refine ⟨fun h => ?_, fun h => absurd q h⟩
    by_cases q1 : ¬ x < 97 ∧ ¬ 122 < x
    · rw [if_pos q1] at h
      exact absurd h (by decide)
    · rw [if_neg q1] at h
      by_cases q2 : x = 44
      · rw [if_pos q2] at h
        exact absurd h (by decide)
      · rw [if_neg q2] at h
        by_cases q3 : x = 59
        · rw [if_pos q3] at h
          exact absurd h (by decide)
        · rw [if_neg q3] at h
          exact absurd h (by decide)
  · rw [if_neg q]
    exact ⟨fun _ => q, fun _ => rfl⟩
/-- with a figure there: neither sign, letter nor end -/
theorem TK_num {k : Nat} {tok val aft : Int32} (h : TK len c k tok val aft) (hr : 0 < run len c k) : tok = 2 ∨ tok = 5 := by
  have := (h.2 hr).1
  by_cases q : run len c k < 3
  · rw [if_pos q] at this
    exact Or.inl this
  · rw [if_neg q] at this
    exact Or.inr this
theorem bA_run (hl : len ≤ 60) {k x : Nat} (hx : x < 1000) (hxx : x < 48 ∨ 57 < x) (h : bA len c k = nI x) : run len c k = 0 := by
  have hk := bA_lt hx h
  refine run_0 hl (decide_eq_false (fun q => ?_))
  rw [bA_in hk] at h
  have := (nI_eq (by omega) (by omega)).mp h
  omega
/-- a sign, and its token -/
def SgT (t : Int32) (x : Nat) : Prop := (t = 4 ∧ x = 59) ∨ (t = 3 ∧ x = 44)
theorem tok_sg (hl : len ≤ 60) {t : Int32} {x : Nat} (ht : SgT t x) {k : Nat} {tok val aft : Int32} (h : TK len c k tok val aft) : tok = t ↔ bA len c k = nI x := by
  by_cases hr : run len c k = 0
  · rw [(h.1 hr).2.1]
    rcases ht with ⟨rfl, rfl⟩ | ⟨rfl, rfl⟩
    · exact tkc_4 _
    · exact tkc_3 _
  · constructor
    · intro e
      rcases TK_num h (by omega) with q | q <;> rcases ht with ⟨rfl, rfl⟩ | ⟨rfl, rfl⟩ <;> (rw [e] at q; exact absurd q (by decide))
    · intro e
      refine absurd (bA_run hl ?_ ?_ e) hr <;> rcases ht with ⟨-, rfl⟩ | ⟨-, rfl⟩ <;> omega
theorem TK_1 (hl : len ≤ 60) {k x : Nat} (hx : x < 1000) (hxx : x < 48 ∨ 57 < x) (e : bA len c k = nI x) {tok val aft : Int32} (h : TK len c k tok val aft) : val = bA len c k ∧ tok = tkc (bA len c k) ∧ aft = nI (k + 1) := by
  have := h.1 (bA_run hl hx hxx e)
  rw [if_pos (bA_lt hx e)] at this
  exact this
/-- a sign is taken, with what is asked of its token given -/
theorem take_s (hl : len ≤ 60) (hc : ∀ k, k < len → c k < 256) (hb : ∀ k, k < 60 → bytes k = nI (c k)) {x : Nat} (hx : x < 1000) (hxx : x < 48 ∨ 57 < x) {st : Nat × Nat} (hs : Ok len st) {fk0 fk fp aft start tok val : Int32} (hR : RMs len c st fk0 fk fp aft start tok val) {b : Bool} (hB : st.2 = 0 → (b = true ↔ bA len c st.1 = nI x)) {post : Int32 → Int32 → Int32 → Int32 → Int32 → Int32 → Int32 → Prop}
    (hp : ∀ v fk' fp' aft' start' tok' val', RMs len c (sg len c x st) fk0 fk' fp' aft' start' tok' val' → post v fk' fp' aft' start' tok' val') : wpX12_takes b 1 (nI len) fk fp aft start tok val bytes post := by
  obtain ⟨h1, h2⟩ := hs
  unfold wpX12_takes
  by_cases q : st.2 = 0
  · obtain ⟨r1, r2, r3, r4⟩ := hR.1 q
    subst r2
    refine well_t (kt ?_)
    by_cases q2 : bA len c st.1 = nI x
    · have := (hB q).mpr q2
      subst this
      obtain ⟨t1, t2, t3⟩ := TK_1 hl hx hxx q2 r4
      have := bA_lt hx q2
      rw [t3]
      refine kt (adv_m hl hc hb (by omega) (fun tok' val' aft' hT => hp _ _ _ _ _ _ _ ?_))
      rw [sg_y q q2]
      exact ⟨fun _ => ⟨r1, rfl, rfl, hT⟩, fun z => absurd rfl z⟩
    · have : b = false := by
        cases b with
        | false => rfl
        | true => exact absurd ((hB q).mp rfl) q2
      subst this
      refine kf (hp _ _ _ _ _ _ _ ?_)
      rw [sg_n q q2]
      exact ⟨(fun z => by cases z), fun _ => ⟨rfl, r3⟩⟩
  · obtain ⟨r1, r2⟩ := hR.2 q
    subst r2
    refine well_f (by omega) (kf (hp _ _ _ _ _ _ _ ?_))
    rw [sg_f q]
    exact hR
theorem sign_m (hl : len ≤ 60) (hc : ∀ k, k < len → c k < 256) (hb : ∀ k, k < 60 → bytes k = nI (c k)) {t : Int32} {x : Nat} (ht : SgT t x) {st : Nat × Nat} (hs : Ok len st) {fk0 fk fp aft start tok val : Int32} (hR : RMs len c st fk0 fk fp aft start tok val) {post : Int32 → Int32 → Int32 → Int32 → Int32 → Int32 → Int32 → Prop}
    (hp : ∀ v fk' fp' aft' start' tok' val', RMs len c (sg len c x st) fk0 fk' fp' aft' start' tok' val' → post v fk' fp' aft' start' tok' val') : (¬ tok = t → wpX12_takes false 1 (nI len) fk fp aft start tok val bytes post) ∧ (tok = t → wpX12_takes true 1 (nI len) fk fp aft start tok val bytes post) := by
  have hx : x < 1000 ∧ (x < 48 ∨ 57 < x) := by
    rcases ht with ⟨-, rfl⟩ | ⟨-, rfl⟩ <;> omega
  refine ⟨fun n => take_s hl hc hb hx.1 hx.2 hs hR (fun q => ⟨(fun z => by cases z), fun z => absurd ((tok_sg hl ht (hR.1 q).2.2.2).mpr z) n⟩) hp, fun n => take_s hl hc hb hx.1 hx.2 hs hR (fun q => ⟨fun _ => (tok_sg hl ht (hR.1 q).2.2.2).mp n, fun _ => rfl⟩) hp⟩
theorem number_m (hl : len ≤ 60) (hc : ∀ k, k < len → c k < 256) (hb : ∀ k, k < 60 → bytes k = nI (c k)) {x : Nat} (hx : x ≤ 99) {st : Nat × Nat} (hs : Ok len st) {fk0 fk fp aft start tok val : Int32} (hR : RMs len c st fk0 fk fp aft start tok val) {post : Int32 → Int32 → Int32 → Int32 → Int32 → Int32 → Int32 → Prop}
    (hp : ∀ v fk' fp' aft' start' tok' val', RMs len c (nm len c x st).2 fk0 fk' fp' aft' start' tok' val' → ((nm len c x st).2.2 = 0 → v = nI (nm len c x st).1) → post v fk' fp' aft' start' tok' val') : wpX12_figure (nI x) (nI len) fk fp aft start tok val bytes post := by
  obtain ⟨h1, h2⟩ := hs
  unfold wpX12_figure
  by_cases q : st.2 = 0
  · obtain ⟨r1, r2, r3, r4⟩ := hR.1 q
    subst r2
    refine well_t (kt' ?_)
    by_cases q2 : run len c st.1 = 1 ∨ run len c st.1 = 2
    · obtain ⟨t1, t2, t3⟩ := r4.2 (by omega)
      rw [if_pos (by omega)] at t1
      have t2 := t2 (by omega)
      have vb := vl_b hl q2
      refine k1 t1 ?_
      unfold wjX12_figure_22 wjX12_figure_36 wpX12_takes
      rw [t2]
      by_cases q3 : vl c (run len c st.1) st.1 ≤ x
      · rw [nm_y q q2 q3] at hp
        refine k2 (nI_nlt q3 (by omega)) (well_t (kt (kt ?_)))
        have := run_len (c := c) hl h1
        rw [t3]
        exact adv_m hl hc hb (by omega) (fun tok' val' aft' hT => hp _ _ _ _ _ _ _ ⟨fun _ => ⟨r1, rfl, rfl, hT⟩, fun z => absurd rfl z⟩ (fun _ => rfl))
      · rw [nm_2 q q2 q3] at hp
        exact k1 (nI_lt (by omega) (by omega)) (well_t (kt (kf (hp _ _ _ _ _ _ _ ⟨(fun z => by cases z), fun _ => ⟨rfl, r3⟩⟩ (fun z => by cases z)))))
    · have tn : ¬ tok = 2 := by
        by_cases hr : run len c st.1 = 0
        · rw [(r4.1 hr).2.1]
          unfold tkc
          by_cases z : 0 ≤ bA len c st.1
          · rw [if_pos z]
            by_cases q1 : ¬ bA len c st.1 < 97 ∧ ¬ 122 < bA len c st.1
            · rw [if_pos q1]
              decide
            · rw [if_neg q1]
              by_cases q4 : bA len c st.1 = 44
              · rw [if_pos q4]
                decide
              · rw [if_neg q4]
                by_cases q5 : bA len c st.1 = 59
                · rw [if_pos q5]
                  decide
                · rw [if_neg q5]
                  decide
          · rw [if_neg z]
            decide
        · rw [(r4.2 (by omega)).1, if_neg (by omega)]
          decide
      rw [nm_1 q q2] at hp
      unfold wpX12_takes
      exact k2 tn (well_t (kt (kf (hp _ _ _ _ _ _ _ ⟨(fun z => by cases z), fun _ => ⟨rfl, r3⟩⟩ (fun z => by cases z)))))
  · obtain ⟨r1, r2⟩ := hR.2 q
    subst r2
    rw [nm_f q] at hp
    unfold wjX12_figure_22 wjX12_figure_36 wpX12_takes
    exact well_f (by omega) (kf' ⟨fun _ => well_f (by omega) (kf (hp _ _ _ _ _ _ _ hR (fun z => absurd z q))), fun _ => well_f (by omega) (kf (hp _ _ _ _ _ _ _ hR (fun z => absurd z q)))⟩)
end tape
