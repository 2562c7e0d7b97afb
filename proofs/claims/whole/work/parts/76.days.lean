-- a day is lived, stands
def ax (x : Int64) : Int64 := (x * 16807) - (x * 16807) / 2147483647 * 2147483647
def pdS (kd ch : Nat → Nat) (mem : Nat → Int32) : Nat → Int64 × Int32 → Int64 × Int32
  | 0, s => s
  | i + 1, s => (ax (pdS kd ch mem i s).1, if (oF (kd i) (ch i) (mem i)).toInt64 ≤ ax (pdS kd ch mem i s).1 - ax (pdS kd ch mem i s).1 / 10 * 10 then (pdS kd ch mem i s).2 else (pdS kd ch mem i s).2 ||| ((1 : Int32) <<< (nI i &&& 31)))
theorem pass_c {pe : Pe} {people : Nat → Option Nat} {n : Nat} {A kd ch ga lo : Nat → Nat} (hn : n ≤ 3) (hc : PCl pe people n A kd ch ga lo) {x : Int64} {ev : Bool} {we : Int32} {mem : Nat → Int32} {post : Int64 → Bool → Int32 → Prop} (hp : post (pdS kd ch mem n (x, 0)).1 true (pdS kd ch mem n (x, 0)).2) : wpX9_passDay x (nI n) ev we people mem pe post := by
  unfold wpX9_passDay
  refine lp (σ := Int64 × Int32) (fun m i s => wlX9_passDay_10 (nI n) people mem pe post m s.1 (nI i) ev s.2) (fun i s => s = pdS kd ch mem i (x, 0)) n (fun m s h => ?_) (fun m i s hi h k => ?_) fu 0 (x, 0) (by omega) (by unfold fu; omega) rfl
  · subst h
    unfold wlX9_passDay_10
    exact k1 (nI_le (Nat.le_refl _) (by omega)) hp
  · subst h
    unfold wlX9_passDay_10 wjX9_passDay_78
    have vi : vp_in (nI i) 3 := vp_in_nI (by omega) (by decide)
    obtain ⟨p1, p2, p3, p4, p5⟩ := hc i hi
    rw [nI_clamp (show i < 2 ^ 31 by omega), p1, nI_1]
    refine k2 (nI_ge hi (by omega)) ⟨vi, ks ⟨p2, vi, ?_⟩⟩
    rw [p3]
    refine v_odds p4 p5 ⟨fun q => k (_, _) ?_, fun q => k (_, _) ?_⟩
    · show _ = pdS kd ch mem (i + 1) (x, 0)
      rw [pdS, if_pos (by exact q)]
      rfl
    · show _ = pdS kd ch mem (i + 1) (x, 0)
      rw [pdS, if_neg (by exact q)]
      rfl
theorem pass_m {f : Nat → Int32} {n : Nat} {kd ch ga lo : Nat → Nat} (hn : n ≤ 3) (e1 : f 1 = nI n) (hm : PMo f n kd ch ga lo) {mem : Nat → Int32} (he : ∀ i, i < n → f (11 + 6 * i) = mem i) {x : Int64} {post : Int64 → (Nat → Int32) → Prop} (hp : ∀ f' : Nat → Int32, f' 3 = (pdS kd ch mem n (x, 0)).2 → f' 4 = 1 → (∀ j, j ≠ 3 → j ≠ 4 → f' j = f j) → post (pdS kd ch mem n (x, 0)).1 f') : wpX12_passes x f post := by
  unfold wpX12_passes
  refine lp (σ := Int64 × (Nat → Int32)) (fun m i s => wlX12_passes_9 post m s.1 (nI i) s.2) (fun i s => s.1 = (pdS kd ch mem i (x, 0)).1 ∧ s.2 3 = (pdS kd ch mem i (x, 0)).2 ∧ ∀ j, j ≠ 3 → s.2 j = f j) n (fun m s h => ?_) (fun m i s hi h k => ?_) fu 0 (x, upd f 3 0) (by omega) (by unfold fu; omega) ⟨rfl, (show upd f 3 0 3 = 0 from upd_s), fun j hj => upd_n hj⟩
  · obtain ⟨h1, h2, h3⟩ := h
    unfold wlX12_passes_9
    rw [h3 1 (by decide), e1, h1]
    refine k1 (nI_le (Nat.le_refl _) (by omega)) (hp _ ?_ upd_s (fun j hj1 hj2 => ?_))
    · rw [upd_n (by decide), h2]
    · rw [upd_n hj2, h3 j hj1]
  · obtain ⟨h1, h2, h3⟩ := h
    unfold wlX12_passes_9 wjX12_passes_62 wpX12_after
    have i5 : (6 : Int32) + 6 * nI i + 5 = nI (11 + 6 * i) := by rw [show (5 : Int32) = nI 5 from rfl, ix6a]; congr 1; omega
    rw [h3 1 (by decide), e1, h1, i5, nI_clamp (show 11 + 6 * i < 2 ^ 31 by omega), h3 (11 + 6 * i) (by omega), he i hi, nI_1, h2, show (3 : Int32).toNatClampNeg = 3 from rfl]
    refine k2 (nI_ge hi (by omega)) ⟨vp_in_nI (by omega) (by decide), ?_⟩
    obtain ⟨m1, m2, m3, m4, m5, m6⟩ := hm i hi
    refine m_odds (by omega) m6 (by rw [h3 _ (by omega)]; exact m1) (by rw [h3 _ (by omega)]; exact m2) ⟨fun q => ⟨vp_in_nI (n := 3) (by decide) (by decide), k (_, _) ⟨rfl, ?_, fun j hj => ?_⟩⟩, fun q => ⟨vp_in_nI (n := 3) (by decide) (by decide), k (_, _) ⟨rfl, ?_, fun j hj => ?_⟩⟩⟩
    · show upd s.2 3 _ 3 = _
      rw [upd_s, pdS, if_pos (by exact q), Int32.or_zero]
      rfl
    · show upd s.2 3 _ j = _
      rw [upd_n hj]
      exact h3 j hj
    · show upd s.2 3 _ 3 = _
      rw [upd_s, pdS, if_neg (by exact q)]
      rfl
    · show upd s.2 3 _ j = _
      rw [upd_n hj]
      exact h3 j hj
theorem or_bit : ∀ i, i < 3 → ∀ w, w < 8 → w < 2 ^ i → nI w ||| ((1 : Int32) <<< (nI i &&& 31)) = nI (w + 2 ^ i) := by decide +kernel
theorem pd_well {kd ch : Nat → Nat} {mem : Nat → Int32} {x : Int64} : ∀ n, n ≤ 3 → ∃ w, w < 2 ^ n ∧ (pdS kd ch mem n (x, 0)).2 = nI w
  | 0, _ => ⟨0, by decide, rfl⟩
  | i + 1, h => by
    obtain ⟨w, h1, h2⟩ := pd_well (kd := kd) (ch := ch) (mem := mem) (x := x) i (by omega)
    have h8 : 2 ^ i ≤ 2 ^ 2 := Nat.pow_le_pow_right (by decide) (by omega)
    have e2 : 2 ^ (i + 1) = 2 ^ i + 2 ^ i := by rw [Nat.pow_succ]; omega
    rw [pdS]
    by_cases q : (oF (kd i) (ch i) (mem i)).toInt64 ≤ ax (pdS kd ch mem i (x, 0)).1 - ax (pdS kd ch mem i (x, 0)).1 / 10 * 10
    · refine ⟨w, by omega, ?_⟩
      rw [if_pos q]
      exact h2
    · refine ⟨w + 2 ^ i, by omega, ?_⟩
      rw [if_neg q, h2]
      exact or_bit i (by omega) w (by omega) h1
theorem bit_hi {w n i : Nat} (h : w < 2 ^ n) (hi : n ≤ i) : w.testBit i = false := Nat.testBit_lt_two_pow (Nat.lt_of_lt_of_le h (Nat.pow_le_pow_right (by decide) hi))
def hb (x : Int32) (i : Nat) : Bool := decide (((x >>> (nI i &&& 31)) &&& 1) = 1)
theorem close_c {pe : Pe} {people : Nat → Option Nat} {n : Nat} {A kd ch ga lo : Nat → Nat} (hn : n ≤ 3) (hc : PCl pe people n A kd ch ga lo) {ev : Bool} {we : Int32} {mem pur : Nat → Int32} {post : Unit → Bool → Int32 → (Nat → Int32) → (Nat → Int32) → Prop} (hp : ∀ pur' : Nat → Int32, (∀ i, i < n → pur' i = pur i + bF (kd i) (ga i) (lo i) (hb we i)) → (∀ i, n ≤ i → pur' i = pur i) → post () false 0 (fl 3 0 mem) pur') : wpX9_closeDay (nI n) ev we mem people pur pe post := by
  unfold wpX9_closeDay
  refine lp (σ := Nat → Int32) (fun m i s => wlX9_closeDay_2 (nI n) people pe post m (nI i) ev we mem s) (fun i s => (∀ j, j < i → s j = pur j + bF (kd j) (ga j) (lo j) (hb we j)) ∧ ∀ j, i ≤ j → s j = pur j) n (fun m s h => ?_) (fun m i s hi h k => ?_) fu 0 pur (by omega) (by unfold fu; omega) ⟨(fun j hj => absurd hj (Nat.not_lt_zero j)), fun _ _ => rfl⟩
  · unfold wlX9_closeDay_2 wp_fillI
    exact k1 (nI_le (Nat.le_refl _) (by omega)) (hp s h.1 h.2)
  · unfold wlX9_closeDay_2 wjX9_closeDay_46 wjX9_closeDay_51
    have vi : vp_in (nI i) 3 := vp_in_nI (by omega) (by decide)
    obtain ⟨p1, p2, p3, p4, p5⟩ := hc i hi
    have fin : ∀ b : Bool, hb we i = b → wv_bringsBy b (pe.2 (A i)) (fun r1 => vp_in (nI i) 3 ∧ wlX9_closeDay_2 (nI n) people pe post m (nI (i + 1)) ev we mem (upd s i (s i + r1))) := by
      intro b hb'
      rw [p3]
      refine v_brings p4 p5 ⟨vi, k _ ⟨fun j hj => ?_, fun j hj => ?_⟩⟩
      · by_cases e : j = i
        · subst e
          rw [upd_s, h.2 j (Nat.le_refl _), hb']
        · rw [upd_n e]
          exact h.1 j (by omega)
      · rw [upd_n (by omega)]
        exact h.2 j (by omega)
    rw [nI_clamp (show i < 2 ^ 31 by omega), p1, nI_1]
    exact k2 (nI_ge hi (by omega)) ⟨vi, ks ⟨p2, vi, fun q => fin false (decide_eq_false q), fun q => fin true (decide_eq_true q)⟩⟩
theorem stands_m {f : Nat → Int32} {n : Nat} {kd ch ga lo : Nat → Nat} (hn : n ≤ 3) (e1 : f 1 = nI n) (hm : PMo f n kd ch ga lo) {post : Unit → (Nat → Int32) → Prop} (hp : ∀ f' : Nat → Int32, (∀ i, i < n → f' (10 + 6 * i) = f (10 + 6 * i) + bF (kd i) (ga i) (lo i) (hb (f 3) i) ∧ f' (11 + 6 * i) = 0) → f' 3 = 0 → f' 4 = 0 → (∀ j, j ≠ 3 → j ≠ 4 → (∀ i, i < n → j ≠ 10 + 6 * i ∧ j ≠ 11 + 6 * i) → f' j = f j) → post () f') : wpX12_stands f post := by
  unfold wpX12_stands
  refine lp (σ := Nat → Int32) (fun m i s => wlX12_stands_2 post m (nI i) s) (fun i s => (∀ j, j < i → s (10 + 6 * j) = f (10 + 6 * j) + bF (kd j) (ga j) (lo j) (hb (f 3) j) ∧ s (11 + 6 * j) = 0) ∧ ∀ j, (∀ i', i' < i → j ≠ 10 + 6 * i' ∧ j ≠ 11 + 6 * i') → s j = f j) n (fun m s h => ?_) (fun m i s hi h k => ?_) fu 0 f (by omega) (by unfold fu; omega) ⟨(fun j hj => absurd hj (Nat.not_lt_zero j)), fun _ _ => rfl⟩
  · unfold wlX12_stands_2
    rw [h.2 1 (fun i' _ => ⟨by omega, by omega⟩), e1]
    refine k1 (nI_le (Nat.le_refl _) (by omega)) (hp _ (fun i hi => ⟨?_, ?_⟩) upd_s (by rw [upd_n (by decide), upd_s]) (fun j h3 h4 hj => ?_))
    · rw [upd_n (by omega), upd_n (by omega)]
      exact (h.1 i hi).1
    · rw [upd_n (by omega), upd_n (by omega)]
      exact (h.1 i hi).2
    · rw [upd_n h3, upd_n h4]
      exact h.2 j hj
  · unfold wlX12_stands_2 wpX12_has
    have i4 : (6 : Int32) + 6 * nI i + 4 = nI (10 + 6 * i) := by rw [show (4 : Int32) = nI 4 from rfl, ix6a]; congr 1; omega
    have i5 : (6 : Int32) + 6 * nI i + 5 = nI (11 + 6 * i) := by rw [show (5 : Int32) = nI 5 from rfl, ix6a]; congr 1; omega
    have v4 : vp_in (nI (10 + 6 * i)) 124 := vp_in_nI (by omega) (by decide)
    have v5 : vp_in (nI (11 + 6 * i)) 124 := vp_in_nI (by omega) (by decide)
    have g : ∀ j, j < 10 ∨ (10 + 6 * i ≤ j) ∨ (∃ i' c, c < 4 ∧ j = 6 + 6 * i' + c) → s j = f j := fun j hj => h.2 j (fun i' hi' => by
      rcases hj with hj | hj | ⟨i2, c, hc, hj⟩
      · omega
      · omega
      · omega)
    rw [g 1 (Or.inl (by decide)), e1, i4, i5, nI_clamp (show 10 + 6 * i < 2 ^ 31 by omega), nI_clamp (show 11 + 6 * i < 2 ^ 31 by omega), g 3 (Or.inl (by decide)), g (10 + 6 * i) (Or.inr (Or.inl (by omega))), nI_1]
    obtain ⟨m1, m2, m3, m4, m5, m6⟩ := hm i hi
    have fin : ∀ b : Bool, hb (f 3) i = b → wpX12_brings (nI i) b s (fun r3 => vp_in (nI (10 + 6 * i)) 124 ∧ (vp_in (nI (11 + 6 * i)) 124 ∧ wlX12_stands_2 post m (nI (i + 1)) (upd (upd s (10 + 6 * i) (f (10 + 6 * i) + r3)) (11 + 6 * i) 0))) := by
      intro b hb'
      refine m_brings (by omega) m6 (by rw [g _ (Or.inr (Or.inr ⟨i, 0, by decide, by omega⟩))]; exact m1) (by rw [g _ (Or.inr (Or.inr ⟨i, 2, by decide, by omega⟩))]; exact m3) (by rw [g _ (Or.inr (Or.inr ⟨i, 3, by decide, by omega⟩))]; exact m4) ⟨v4, v5, k _ ⟨fun j hj => ?_, fun j hj => ?_⟩⟩
      · by_cases e : j = i
        · subst e
          rw [upd_s, upd_n (by omega), upd_s, hb']
          exact ⟨rfl, rfl⟩
        · rw [upd_n (by omega), upd_n (by omega), upd_n (by omega), upd_n (by omega)]
          exact h.1 j (by omega)
      · have := hj i (by omega)
        rw [upd_n this.2, upd_n this.1]
        exact h.2 j (fun i' hi' => hj i' (by omega))
    exact k2 (nI_ge hi (by omega)) ⟨v4, fun q => fin false (decide_eq_false q), fun q => fin true (decide_eq_true q)⟩
