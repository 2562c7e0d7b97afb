theorem ms_b {o : Nat} (ho : o ≤ 10) {x y X : Int} (hx : -X ≤ x ∧ x ≤ X) (hy : -X ≤ y ∧ y ≤ X) : -(10 * X) ≤ (o : Int) * x + ((10 - o : Nat) : Int) * y ∧ (o : Int) * x + ((10 - o : Nat) : Int) * y ≤ 10 * X := by
  rcases o_cases ho with rfl | rfl | rfl | rfl | rfl | rfl | rfl | rfl | rfl | rfl | rfl <;> simp <;> omega
theorem mx_b {a b X : Int} (ha : -X ≤ a ∧ a ≤ X) (hb : -X ≤ b ∧ b ≤ X) : -X ≤ mx a b ∧ mx a b ≤ X := by
  unfold mx
  split <;> omega
theorem mH_b {o : Nat} (ho : o ≤ 10) {G B a D : Int} (hG : -198 ≤ G ∧ G ≤ 198) (hB : -198 ≤ B ∧ B ≤ 198) (ha : -1980 ≤ a ∧ a ≤ 1980) (hD : -1980 ≤ D ∧ D ≤ 1980) : ∀ d, d ≤ 3 → -6000000 ≤ mH o G B a D d ∧ mH o G B a D d ≤ 6000000 := by
  have h1 : -20000 ≤ mH o G B a D 1 ∧ mH o G B a D 1 ≤ 20000 := by
    have := ms_b ho (X := 2000) (mx_b (a := (a + (0 : Nat) * D) * 10 ^ 0) (b := G * 10 ^ (0 + 1) + mH o G B a D 0) (X := 2000) (by simp; omega) (by simp [mH]; omega)) (mx_b (a := (a + (0 : Nat) * D) * 10 ^ 0) (b := B * 10 ^ (0 + 1) + mH o G B a D 0) (X := 2000) (by simp; omega) (by simp [mH]; omega))
    exact ⟨by have := this.1; exact this, by have := this.2; exact this⟩
  have h2 : -400000 ≤ mH o G B a D 2 ∧ mH o G B a D 2 ≤ 400000 := by
    have := ms_b ho (X := 40000) (mx_b (a := (a + (1 : Nat) * D) * 10 ^ 1) (b := G * 10 ^ (1 + 1) + mH o G B a D 1) (X := 40000) (by simp; omega) (by simp; omega)) (mx_b (a := (a + (1 : Nat) * D) * 10 ^ 1) (b := B * 10 ^ (1 + 1) + mH o G B a D 1) (X := 40000) (by simp; omega) (by simp; omega))
    exact ⟨by have := this.1; exact this, by have := this.2; exact this⟩
  have h3 : -6000000 ≤ mH o G B a D 3 ∧ mH o G B a D 3 ≤ 6000000 := by
    have := ms_b ho (X := 600000) (mx_b (a := (a + (2 : Nat) * D) * 10 ^ 2) (b := G * 10 ^ (2 + 1) + mH o G B a D 2) (X := 600000) (by simp; omega) (by simp; omega)) (mx_b (a := (a + (2 : Nat) * D) * 10 ^ 2) (b := B * 10 ^ (2 + 1) + mH o G B a D 2) (X := 600000) (by simp; omega) (by simp; omega))
    exact ⟨by have := this.1; exact this, by have := this.2; exact this⟩
  intro d hd
  have hc : d = 0 ∨ d = 1 ∨ d = 2 ∨ d = 3 := by omega
  rcases hc with rfl | rfl | rfl | rfl
  · simp [mH]
  · omega
  · omega
  · exact h3
theorem p10 {d : Nat} (hd : d ≤ 4) : lN (10 ^ d) = iL (10 ^ d) := by
  have hc : d = 0 ∨ d = 1 ∨ d = 2 ∨ d = 3 ∨ d = 4 := by omega
  rcases hc with rfl | rfl | rfl | rfl | rfl <;> rfl
theorem worth_m {f : Nat → Int32} {post : Int64 → Prop} {n o : Nat} {u : Bool} {G B a D : Int} (hn1 : 1 ≤ n) (hn : n ≤ 3) (ho : o ≤ 10) (hG : -198 ≤ G ∧ G ≤ 198) (hB : -198 ≤ B ∧ B ≤ 198) (ha : -1980 ≤ a ∧ a ≤ 1980) (hD : -1980 ≤ D ∧ D ≤ 1980) (hp : post (iL (rd (mH o G B a D n - n * D * 10 ^ n) (10 ^ (n + 1)) u))) : wlX12_worth_127 f post fu (nI n) u (nI o) (jI G) (jI B) (iL D) (iL a) 0 1 := by
  have bd := mH_b ho hG hB ha hD
  refine lp (σ := Int64) (fun m i s => wlX12_worth_127 f post m (nI n) u (nI o) (jI G) (jI B) (iL D) (iL a) s (nI (i + 1))) (fun i s => s = iL (mH o G B a D i)) n (fun m s h => ?_) (fun m i s hi h k => ?_) fu 0 0 (by omega) (by unfold fu; omega) rfl
  · subst h
    unfold wlX12_worth_127
    rw [nI_1]
    refine k1 (nI_lt (Nat.lt_succ_self n) (by omega)) (power_m (by omega) (power_m (by omega) ?_))
    rw [nI_l (show n < 2 ^ 31 by omega), ← iL_N (show n < 2 ^ 62 by omega), iL_mul, p10 (show n ≤ 4 by omega), iL_mul, iL_sub]
    have b3 := bd n hn
    have hc : n = 1 ∨ n = 2 ∨ n = 3 := by omega
    rcases hc with rfl | rfl | rfl
    · exact tells_m ⟨by simp; omega, by simp; omega⟩ (by decide) (by decide) hp
    · exact tells_m ⟨by simp; omega, by simp; omega⟩ (by decide) (by decide) hp
    · exact tells_m ⟨by simp; omega, by simp; omega⟩ (by decide) (by decide) hp
  · subst h
    unfold wlX12_worth_127 wjX12_worth_200 wjX12_worth_222
    rw [show nI (i + 1) - 1 = nI i from nI_pred i]
    refine k2 (nI_nlt (by omega) (by omega)) (power_m (by omega) (power_m (by omega) (power_m (by omega) ?_)))
    rw [nI_l (show i < 2 ^ 31 by omega), ← iL_N (show i < 2 ^ 62 by omega), iL_mul, iL_add, p10 (show i ≤ 4 by omega), p10 (show i + 1 ≤ 4 by omega), iL_mul, jI_L (by omega) (by omega), jI_L (by omega) (by omega), iL_mul, iL_mul, iL_add, iL_add, ten_sub ho, nI_l (show o < 2 ^ 31 by omega), nI_l (show 10 - o < 2 ^ 31 by omega), ← iL_N (show o < 2 ^ 62 by omega), ← iL_N (show 10 - o < 2 ^ 62 by omega), nI_1 (i + 1)]
    have b3 := bd i (by omega)
    have step : ∀ x y : Int64, x = iL (mx ((a + i * D) * 10 ^ i) (G * 10 ^ (i + 1) + mH o G B a D i)) → y = iL (mx ((a + i * D) * 10 ^ i) (B * 10 ^ (i + 1) + mH o G B a D i)) → wlX12_worth_127 f post m (nI n) u (nI o) (jI G) (jI B) (iL D) (iL a) (iL (o : Int) * x + iL ((10 - o : Nat) : Int) * y) (nI (i + 1 + 1)) := by
      intro x y hx hy
      refine k _ ?_
      rw [hx, hy, iL_mul, iL_mul, iL_add]
      rfl
    have rA : Rg ((a + i * D) * 10 ^ i) ∧ Rg (G * 10 ^ (i + 1) + mH o G B a D i) ∧ Rg (B * 10 ^ (i + 1) + mH o G B a D i) := by
      have hc : i = 0 ∨ i = 1 ∨ i = 2 := by omega
      unfold Rg
      rcases hc with rfl | rfl | rfl <;> simp <;> omega
    obtain ⟨r1, r2, r3⟩ := rA
    rw [iL_le r1 r2, iL_le r1 r3]
    have mxl : ∀ x y : Int, x ≤ y → iL y = iL (mx x y) := fun x y h => by
      unfold mx
      by_cases e : x < y
      · rw [if_pos e]
      · rw [if_neg e, show x = y by omega]
    have mxg : ∀ x y : Int, ¬ x ≤ y → iL x = iL (mx x y) := fun x y h => by
      unfold mx
      rw [if_neg (by omega)]
    exact ⟨fun q1 => ⟨fun q2 => step _ _ (mxl _ _ q1) (mxl _ _ q2), fun q2 => step _ _ (mxl _ _ q1) (mxg _ _ q2)⟩, fun q1 => ⟨fun q2 => step _ _ (mxg _ _ q1) (mxl _ _ q2), fun q2 => step _ _ (mxg _ _ q1) (mxg _ _ q2)⟩⟩
theorem mt_J {kd ch ga lo m : Nat} (hg : ga ≤ 99) (hl : lo ≤ 99) : (nI (on kd ch m) * jI (bI kd ga lo true) + (10 - nI (on kd ch m)) * jI (bI kd ga lo false)).toInt64 = iL (mt kd ch ga lo m) := by
  have y := on_le kd ch m
  have b := mt_b (kd := kd) (ch := ch) (m := m) hg hl
  rw [ten_sub y, ← jI_N (show on kd ch m < 2 ^ 31 by omega), ← jI_N (show 10 - on kd ch m < 2 ^ 31 by omega), jI_mul, jI_mul, jI_add]
  exact jI_L (z := mt kd ch ga lo m) (by omega) (by omega)
theorem rd_0 {b : Bool} : rd 0 10000 b = if b = true then 0 else 1 := by cases b <;> rfl
theorem pu_worth : Pu_worth Inv := by
  intro S M ns hV p0 p1 p2
  obtain ⟨n, d, w, r, A, kd, ch, ga, lo, hN, hc, hm, hb, -⟩ := VI_to hV.2.2.2.2.1
  obtain ⟨a1, a2, a3, a4, a5, a6, a7, a8, a9, b1, -⟩ := hN
  unfold wpX11_worth wpX12_worth
  rw [a5]
  rcases pa_case a1 hc b1 p0 with ⟨qc, qm⟩ | ⟨i, hi, rfl, qc, qm⟩
  · exact qc _ (kn (qm _ (kf' ⟨rfl, hV⟩)))
  refine qc _ (ks ⟨(hc i hi).2.1, ?_⟩)
  rcases ix_case p1 4 (by decide) with h | ⟨h, h1⟩ | ⟨t, ht, rfl⟩
  · have h1 : p1 < 1 := Int32.lt_trans h (by decide)
    exact k1 h1 (qm _ (kt' (in_f (Or.inl h1) (kf ⟨rfl, hV⟩))))
  · have h2 := gt_of_ge (n := 3) h1 (by decide)
    have h3 : ¬ p1 < 1 := fun q => h (by
      have := Int32.lt_trans h2 q
      exact absurd this (by decide))
    exact k2 h3 (k2 (Int32.not_le.mpr h2) (qm _ (kt' (in_f (Or.inr h2) (kf ⟨rfl, hV⟩)))))
  by_cases t0 : t = 0
  · subst t0
    exact k1 (by decide) (qm _ (kt' (in_f (Or.inl (by decide)) (kf ⟨rfl, hV⟩))))
  have t1 : ¬ nI t < (1 : Int32) := nI_nlt (b := 1) (by omega) (by omega)
  have t3 : nI t ≤ (3 : Int32) := nI_le (b := 3) (by omega) (by decide)
  refine k2 t1 (k1 t3 ?_)
  obtain ⟨p1', p2', p3', p4, p5⟩ := hc i hi
  obtain ⟨m1, m2, m3, m4, m5, m6⟩ := hm i hi
  obtain ⟨u1, u2, u3⟩ := hb i hi
  have i3 : i < 3 := by omega
  rw [p3']
  refine worth_c p4 p5 u1 u2 u3 (by omega) ?_
  have gin : ∀ {q : Bool → Prop}, q true → wpX12_in (nI t) 1 3 q := fun hq => in_t t1 (Int32.not_lt.mpr t3) hq
  have hk4 : nI (kd i) = 4 ↔ kd i = 4 := eq3 (c := 4) p5 (by decide)
  by_cases h4 : kd i = 4
  · rw [if_pos h4]
    refine part_c (u := 0) (l := 10000) ⟨by decide, by decide⟩ (by decide) (by decide) (qm _ (kt' (gin (kt (m_kind i3 m1 (k3 (hk4.mpr h4) ?_))))))
    rw [rd_0]
    exact ⟨fun e => ⟨by rw [e]; rfl, hV⟩, fun e => ⟨by rw [e]; rfl, hV⟩⟩
  · rw [if_neg h4]
    have G := bI_b (kd := kd i) (b := true) u2 u3
    have B := bI_b (kd := kd i) (b := false) u2 u3
    have q1 := mt_b (kd := kd i) (ch := ch i) (m := 1) u2 u3
    have q0 := mt_b (kd := kd i) (ch := ch i) (m := 0) u2 u3
    have wb := wI_b (on_le (kd i) (ch i) 0) (A := mt (kd i) (ch i) (ga i) (lo i) 1 * 1000) (P := mt (kd i) (ch i) (ga i) (lo i) 0 * 1000) G B (by omega) (by omega) t
    refine part_c (l := 10000) ⟨by omega, by omega⟩ (by decide) (by decide) (qm _ (kt' (gin (kt (m_kind i3 m1 (k4 (fun e => h4 (hk4.mp e)) (m_odds i3 m6 m1 m2 (m_odds i3 m6 m1 m2 (m_brings i3 m6 m1 m3 m4 (m_brings i3 m6 m1 m3 m4 ?_))))))))))
    rw [bF_j u2 u3, bF_j u2 u3, show oF (kd i) (ch i) 0 = nI (on (kd i) (ch i) 0) from oF_n u1 (by decide), show oF (kd i) (ch i) 1 = nI (on (kd i) (ch i) 1) from oF_n u1 (by decide), mt_J u2 u3, mt_J u2 u3]
    refine worth_m (by omega) (by omega) (on_le _ _ _) G B q1 q0 ⟨?_, hV⟩
    obtain ⟨e1, e2, e3⟩ := w_rel (on_le (kd i) (ch i) 0) (bI (kd i) (ga i) (lo i) true) (bI (kd i) (ga i) (lo i) false) (mt (kd i) (ch i) (ga i) (lo i) 1) (mt (kd i) (ch i) (ga i) (lo i) 0)
    have hcs : t = 1 ∨ t = 2 ∨ t = 3 := by omega
    rcases hcs with rfl | rfl | rfl
    · rw [e1]
      have := rd_s (u := mH (on (kd i) (ch i) 0) (bI (kd i) (ga i) (lo i) true) (bI (kd i) (ga i) (lo i) false) (mt (kd i) (ch i) (ga i) (lo i) 1) (mt (kd i) (ch i) (ga i) (lo i) 0) 1 - mt (kd i) (ch i) (ga i) (lo i) 0 * 10) (l := 100) (c := 100) (b := p2) (by decide) (by decide)
      simpa using congrArg iL this
    · rw [e2]
      have := rd_s (u := mH (on (kd i) (ch i) 0) (bI (kd i) (ga i) (lo i) true) (bI (kd i) (ga i) (lo i) false) (mt (kd i) (ch i) (ga i) (lo i) 1) (mt (kd i) (ch i) (ga i) (lo i) 0) 2 - 2 * mt (kd i) (ch i) (ga i) (lo i) 0 * 100) (l := 1000) (c := 10) (b := p2) (by decide) (by decide)
      simpa using congrArg iL this
    · rw [e3]
      rfl
