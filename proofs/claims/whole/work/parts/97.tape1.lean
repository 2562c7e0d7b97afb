-- the tape: bytes, runs of figures, tokens
def bA (len : Nat) (c : Nat → Nat) (k : Nat) : Int32 := if k < len then nI (c k) else -1
def fg (len : Nat) (c : Nat → Nat) (k : Nat) : Bool := decide (k < len ∧ 48 ≤ c k ∧ c k ≤ 57)
def rl (len : Nat) (c : Nat → Nat) : Nat → Nat → Nat
  | 0, _ => 0
  | f + 1, k => if fg len c k = true then rl len c f (k + 1) + 1 else 0
theorem fg_out {len : Nat} {c : Nat → Nat} {k : Nat} (h : len ≤ k) : fg len c k = false := decide_eq_false (by omega)
theorem rl_spec {len : Nat} {c : Nat → Nat} : ∀ f k, len ≤ k + f → (∀ j, j < rl len c f k → fg len c (k + j) = true) ∧ fg len c (k + rl len c f k) = false ∧ rl len c f k ≤ f
  | 0, k, h => ⟨fun j hj => absurd hj (Nat.not_lt_zero j), fg_out h, Nat.le_refl _⟩
  | f + 1, k, h => by
    rw [rl]
    by_cases q : fg len c k = true
    · rw [if_pos q]
      obtain ⟨h1, h2, h3⟩ := rl_spec (len := len) (c := c) f (k + 1) (by omega)
      refine ⟨fun j hj => ?_, ?_, by omega⟩
      · cases j with
        | zero => exact q
        | succ j =>
          have := h1 j (by omega)
          rw [show k + (j + 1) = k + 1 + j by omega]
          exact this
      · rw [show k + (rl len c f (k + 1) + 1) = k + 1 + rl len c f (k + 1) by omega]
        exact h2
    · rw [if_neg q]
      refine ⟨fun j hj => absurd hj (Nat.not_lt_zero j), ?_, Nat.zero_le _⟩
      cases e : fg len c k with
      | true => exact absurd e q
      | false => rfl
def run (len : Nat) (c : Nat → Nat) (k : Nat) : Nat := rl len c 60 k
def dg (c : Nat → Nat) (k : Nat) : Nat := c k - 48
def vl (c : Nat → Nat) (m k : Nat) : Nat := if m = 1 then dg c k else 10 * dg c k + dg c (k + 1)
section tape
variable {len : Nat} {c : Nat → Nat} {bytes : Nat → Int32}
theorem run_in (hl : len ≤ 60) (k j : Nat) (hj : j < run len c k) : fg len c (k + j) = true := (rl_spec 60 k (by omega)).1 j hj
theorem run_end (hl : len ≤ 60) (k : Nat) : fg len c (k + run len c k) = false := (rl_spec 60 k (by omega)).2.1
theorem run_60 (hl : len ≤ 60) (k : Nat) : run len c k ≤ 60 := (rl_spec 60 k (by omega)).2.2
theorem fg_lt {k : Nat} (h : fg len c k = true) : k < len ∧ 48 ≤ c k ∧ c k ≤ 57 := of_decide_eq_true h
theorem run_len (hl : len ≤ 60) {k : Nat} (hk : k ≤ len) : k + run len c k ≤ len := by
  by_cases h : run len c k = 0
  · omega
  · have := (fg_lt (run_in (c := c) hl k (run len c k - 1) (by omega))).1
    omega
theorem run_0 (hl : len ≤ 60) {k : Nat} (h : fg len c k = false) : run len c k = 0 := by
  by_cases q : run len c k = 0
  · exact q
  · have := run_in (c := c) hl k 0 (by omega)
    rw [Nat.add_zero, h] at this
    cases this
theorem run_1 (hl : len ≤ 60) {k : Nat} (h : fg len c k = true) : 0 < run len c k := by
  by_cases q : run len c k = 0
  · have := run_end (c := c) hl k
    rw [q, Nat.add_zero, h] at this
    cases this
  · omega
theorem bA_in {k : Nat} (h : k < len) : bA len c k = nI (c k) := if_pos h
theorem bA_out {k : Nat} (h : len ≤ k) : bA len c k = -1 := if_neg (by omega)
theorem bA_fg {k : Nat} (h : fg len c k = true) : bA len c k = nI (c k) := bA_in (fg_lt h).1
theorem fgt {k : Nat} (h : fg len c k = true) : ¬ bA len c k < 48 ∧ ¬ 57 < bA len c k := by
  obtain ⟨h1, h2, h3⟩ := fg_lt h
  rw [bA_in h1]
  exact ⟨nI_nlt (b := 48) h2 (by omega), nI_nlt (a := 57) h3 (by decide)⟩
theorem fgf (hc : ∀ k, k < len → c k < 256) {k : Nat} (h : fg len c k = false) : bA len c k < 48 ∨ 57 < bA len c k := by
  have h := of_decide_eq_false h
  by_cases q : k < len
  · have := hc k q
    rw [bA_in q]
    by_cases q2 : c k < 48
    · exact Or.inl (nI_lt (b := 48) q2 (by decide))
    · exact Or.inr (nI_lt (a := 57) (by omega) (by omega))
  · rw [bA_out (by omega)]
    exact Or.inl (by decide)
theorem byte_c (hl : len ≤ 60) (hb : ∀ k, k < 60 → bytes k = nI (c k)) {k : Nat} (hk : k < 2 ^ 30) {post : Int32 → Prop} (hp : post (bA len c k)) : wpX7_byteAt (nI k) (nI len) bytes post := by
  unfold wpX7_byteAt
  by_cases h : k < len
  · rw [bA_in h] at hp
    refine k2 (nI_ge h (by omega)) ⟨vp_in_nI (by omega) (by decide), ?_⟩
    rw [nI_clamp (by omega), hb k (by omega)]
    exact hp
  · rw [bA_out (by omega)] at hp
    exact k1 (nI_le (by omega) (by omega)) hp
theorem byte_m (hl : len ≤ 60) (hb : ∀ k, k < 60 → bytes k = nI (c k)) {k : Nat} (hk : k < 2 ^ 30) {post : Int32 → Prop} (hp : post (bA len c k)) : wpX12_byteAt (nI k) (nI len) bytes post := by
  unfold wpX12_byteAt
  by_cases h : k < len
  · rw [bA_in h] at hp
    refine k2 (nI_ge h (by omega)) ⟨vp_in_nI (by omega) (by decide), ?_⟩
    rw [nI_clamp (by omega), hb k (by omega)]
    exact hp
  · rw [bA_out (by omega)] at hp
    exact k1 (nI_le (by omega) (by omega)) hp
theorem fig_c (hc : ∀ k, k < len → c k < 256) {k : Nat} {post : Bool → Prop} (hp : post (fg len c k)) : wpX7_isFigure (bA len c k) post := by
  unfold wpX7_isFigure
  cases e : fg len c k with
  | true =>
    rw [e] at hp
    exact k2 (fgt e).1 (k2 (fgt e).2 hp)
  | false =>
    rw [e] at hp
    by_cases q : bA len c k < 48
    · exact k1 q hp
    · rcases fgf hc e with h | h
      · exact absurd h q
      · exact k2 q (k1 h hp)
theorem fig_m (hc : ∀ k, k < len → c k < 256) {k : Nat} {post : Bool → Prop} (hp : post (fg len c k)) : wpX12_in (bA len c k) 48 57 post := by
  cases e : fg len c k with
  | true =>
    rw [e] at hp
    exact in_t (fgt e).1 (fgt e).2 hp
  | false =>
    rw [e] at hp
    exact in_f (fgf hc e) hp
/-- what the figures so far are worth -/
def VW (c : Nat → Nat) (k j : Nat) (s : Int32) : Prop := (j = 0 → s = 0) ∧ (j = 1 → s = nI (dg c k)) ∧ (j = 2 → s = nI (10 * dg c k + dg c (k + 1)))
theorem VW_vl {k j : Nat} {s : Int32} (h : VW c k j s) (hj : j = 1 ∨ j = 2) : s = nI (vl c j k) := by
  unfold vl
  rcases hj with rfl | rfl
  · rw [if_pos rfl]
    exact h.2.1 rfl
  · rw [if_neg (by decide)]
    exact h.2.2 rfl
theorem VW_s {k j : Nat} {s : Int32} (h : VW c k j s) (hg : fg len c (k + j) = true) : VW c k (j + 1) (s * 10 + bA len c (k + j) - 48) := by
  obtain ⟨g1, g2, g3⟩ := fg_lt hg
  rw [bA_in g1]
  refine ⟨(fun q => by omega), fun q => ?_, fun q => ?_⟩
  · have : j = 0 := by omega
    subst this
    rw [h.1 rfl, Int32.zero_mul, Int32.zero_add, show (48 : Int32) = nI 48 from rfl, pk_sub g2]
    rfl
  · have : j = 1 := by omega
    subst this
    rw [h.2.1 rfl, show (48 : Int32) = nI 48 from rfl, show (10 : Int32) = nI 10 from rfl, pk_mul, nI_add, pk_sub (by omega)]
    unfold dg
    congr 1
    omega
theorem vl_b (hl : len ≤ 60) {k : Nat} (h : run len c k = 1 ∨ run len c k = 2) : vl c (run len c k) k ≤ 99 := by
  have h0 := fg_lt (run_in (c := c) hl k 0 (by omega))
  rw [Nat.add_zero] at h0
  unfold vl dg
  by_cases q : run len c k = 1
  · rw [if_pos q]
    omega
  · rw [if_neg q]
    have h1 := fg_lt (run_in (c := c) hl k 1 (by omega))
    omega
theorem num_c (hl : len ≤ 60) (hc : ∀ k, k < len → c k < 256) (hb : ∀ k, k < 60 → bytes k = nI (c k)) {most : Nat} (hm : most ≤ 99) {k : Nat} (hk : k ≤ 60) {post : Int32 → Int32 → Int32 → Prop}
    (h1 : (run len c k = 0 ∨ 2 < run len c k) → ∀ v, post v (nI k) 1)
    (h2 : (run len c k = 1 ∨ run len c k = 2) → most < vl c (run len c k) k → ∀ v, post v (nI k) 2)
    (h3 : (run len c k = 1 ∨ run len c k = 2) → vl c (run len c k) k ≤ most → post (nI (vl c (run len c k) k)) (nI (k + run len c k)) 0) : wpX7_readNumber (nI most) (nI len) (nI k) 0 bytes post := by
  have r60 := run_60 (c := c) hl k
  unfold wpX7_readNumber
  refine k1 rfl ?_
  refine lp (σ := Int32) (fun m j s => wlX7_readNumber_13 (nI len) bytes post m (nI most) (nI j) s (nI k) 0) (fun j s => VW c k j s) (run len c k) (fun m s q => ?_) (fun m j s hj q kk => ?_) fu 0 0 (Nat.zero_le _) (by unfold fu; omega) ⟨fun _ => rfl, (fun q => by cases q), (fun q => by cases q)⟩
  · unfold wlX7_readNumber_13 wjX7_readNumber_60 wjX7_readNumber_70
    rw [nI_add]
    refine k2 (nI_nlt (a := 60) r60 (by decide)) (byte_c hl hb (by omega) (fig_c hc ?_))
    rw [run_end hl k]
    refine kf' ?_
    by_cases q0 : run len c k = 0
    · exact k1 (nI_lt (b := 1) (by omega) (by decide)) (h1 (Or.inl q0) _)
    · refine k2 (nI_nlt (b := 1) (by omega) (by omega)) ?_
      by_cases q3 : run len c k ≤ 2
      · have q4 : run len c k = 1 ∨ run len c k = 2 := by omega
        have hv := vl_b hl q4
        rw [VW_vl q q4]
        refine k1 (nI_le (b := 2) q3 (by decide)) ?_
        by_cases q5 : vl c (run len c k) k ≤ most
        · exact k1 (nI_le q5 (by omega)) (h3 q4 q5)
        · exact k2 (nI_ge (by omega) (by omega)) (h2 q4 (by omega) _)
      · exact k2 (nI_ge (a := 2) (by omega) (by omega)) (h1 (Or.inr (by omega)) _)
  · unfold wlX7_readNumber_13
    have g := run_in hl k j hj
    rw [nI_add, nI_1]
    refine k2 (nI_nlt (a := 60) (by omega) (by decide)) (byte_c hl hb (by omega) (fig_c hc ?_))
    rw [g]
    exact kt' (byte_c hl hb (by omega) (kk _ (VW_s q g)))
-- the reference's tokens
def tkc (x : Int32) : Int32 := if 0 ≤ x then (if ¬ x < 97 ∧ ¬ 122 < x then 1 else if x = 44 then 3 else if x = 59 then 4 else 5) else 0
def TK (len : Nat) (c : Nat → Nat) (k : Nat) (tok val aft : Int32) : Prop := (run len c k = 0 → val = bA len c k ∧ tok = tkc (bA len c k) ∧ aft = nI (k + (if k < len then 1 else 0))) ∧ (0 < run len c k → tok = (if run len c k < 3 then 2 else 5) ∧ (run len c k ≤ 2 → val = nI (vl c (run len c k) k)) ∧ aft = nI (k + run len c k))
theorem adv_m (hl : len ≤ 60) (hc : ∀ k, k < len → c k < 256) (hb : ∀ k, k < 60 → bytes k = nI (c k)) {k : Nat} (hk : k ≤ 60) {w_start w_token w_value : Int32} {post : Unit → Int32 → Int32 → Int32 → Int32 → Prop} (hp : ∀ tok val aft, TK len c k tok val aft → post () aft (nI k) tok val) : wpX12_advances (nI len) (nI k) w_start w_token w_value bytes post := by
  have r60 := run_60 (c := c) hl k
  unfold wpX12_advances
  refine byte_m hl hb (by omega) (fig_m hc ?_)
  cases e : fg len c k with
  | true =>
    have r1 := run_1 hl e
    refine kt' ?_
    refine lp (σ := Int32) (fun m j s => wlX12_advances_38 (nI len) bytes post m (nI (k + j)) (nI k) w_token s) (fun j s => (j ≤ 2 → VW c k j s) ∧ (2 ≤ j → s = nI (10 * dg c k + dg c (k + 1)))) (run len c k) (fun m s q => ?_) (fun m j s hj q kk => ?_) fu 0 0 (Nat.zero_le _) (by unfold fu; omega) ⟨fun _ => ⟨fun _ => rfl, (fun q => by cases q), (fun q => by cases q)⟩, fun q => absurd q (by decide)⟩
    · unfold wlX12_advances_38
      rw [pk_sub (Nat.le_add_right _ _), Nat.add_sub_cancel_left]
      refine byte_m hl hb (by omega) (fig_m hc ?_)
      rw [run_end hl k]
      have fin : ∀ t, t = (if run len c k < 3 then (2 : Int32) else 5) → TK len c k t s (nI (k + run len c k)) := fun t ht => ⟨fun z => absurd z (by omega), fun _ => ⟨ht, fun z => VW_vl (q.1 z) (by omega), rfl⟩⟩
      refine kf' ?_
      by_cases q3 : 3 ≤ run len c k
      · exact k1 (nI_le (a := 3) q3 (by omega)) (hp _ _ _ (fin _ (by rw [if_neg (by omega)])))
      · exact k2 (nI_ge (b := 3) (by omega) (by decide)) (hp _ _ _ (fin _ (by rw [if_pos (by omega)])))
    · unfold wlX12_advances_38 wjX12_advances_96
      have g := run_in hl k j hj
      rw [pk_sub (Nat.le_add_right _ _), Nat.add_sub_cancel_left, nI_1]
      refine byte_m hl hb (by omega) (fig_m hc ?_)
      rw [g]
      refine kt' ?_
      by_cases q3 : 2 ≤ j
      · refine k1 (nI_le (a := 2) q3 (by omega)) ?_
        exact kk s ⟨fun z => absurd z (by omega), fun _ => q.2 q3⟩
      · refine k2 (nI_ge (b := 2) (by omega) (by decide)) (byte_m hl hb (by omega) ?_)
        rw [show (10 : Int32) * s = s * 10 from Int32.mul_comm _ _]
        have := VW_s (q.1 (by omega)) g
        exact kk _ ⟨fun _ => this, fun z => this.2.2 (by omega)⟩
  | false =>
    have r0 := run_0 hl e
    have fin : ∀ t, t = tkc (bA len c k) → ∀ a, a = nI (k + (if k < len then 1 else 0)) → TK len c k t (bA len c k) a := fun t ht a ha => ⟨fun _ => ⟨rfl, ht, ha⟩, fun z => absurd z (by omega)⟩
    refine kf' ?_
    unfold wjX12_advances_180
    by_cases hlt : k < len
    · have hge : 0 ≤ bA len c k := by
        rw [bA_in hlt]
        exact nI_pos' (by have := hc k hlt; omega)
      have ea : nI k + 1 = nI (k + (if k < len then 1 else 0)) := by rw [if_pos hlt, nI_1]
      refine k1 hge ?_
      by_cases q1 : bA len c k < 97
      · refine in_f (Or.inl q1) (kf' ?_)
        have et : tkc (bA len c k) = (if bA len c k = 44 then 3 else if bA len c k = 59 then 4 else 5) := by
          unfold tkc
          rw [if_pos hge, if_neg (fun z => z.1 q1)]
        by_cases q4 : bA len c k = 44
        · exact k3 q4 (k4 (by decide) (hp _ _ _ (fin _ (by rw [et, if_pos q4]) _ ea)))
        · refine k4 q4 ?_
          by_cases q5 : bA len c k = 59
          · exact k3 q5 (k4 (by decide) (hp _ _ _ (fin _ (by rw [et, if_neg q4, if_pos q5]) _ ea)))
          · exact k4 q5 (k4 (by decide) (hp _ _ _ (fin _ (by rw [et, if_neg q4, if_neg q5]) _ ea)))
      · by_cases q2 : 122 < bA len c k
        · refine in_f (Or.inr q2) (kf' ?_)
          have et : tkc (bA len c k) = (if bA len c k = 44 then 3 else if bA len c k = 59 then 4 else 5) := by
            unfold tkc
            rw [if_pos hge, if_neg (fun z => z.2 q2)]
          by_cases q4 : bA len c k = 44
          · exact k3 q4 (k4 (by decide) (hp _ _ _ (fin _ (by rw [et, if_pos q4]) _ ea)))
          · refine k4 q4 ?_
            by_cases q5 : bA len c k = 59
            · exact k3 q5 (k4 (by decide) (hp _ _ _ (fin _ (by rw [et, if_neg q4, if_pos q5]) _ ea)))
            · exact k4 q5 (k4 (by decide) (hp _ _ _ (fin _ (by rw [et, if_neg q4, if_neg q5]) _ ea)))
        · refine in_t q1 q2 (kt' (k4 (by decide) (hp _ _ _ (fin _ ?_ _ ea))))
          unfold tkc
          rw [if_pos hge, if_pos ⟨q1, q2⟩]
    · have ho := bA_out (c := c) (k := k) (len := len) (by omega)
      rw [ho]
      rw [ho] at fin
      refine k2 (by decide) (k3 rfl (hp _ _ _ (fin _ (by decide) _ ?_)))
      rw [if_neg hlt]
      exact Int32.add_zero _
end tape
