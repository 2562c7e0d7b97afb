theorem pu_stand : Pu_stand Inv := by
  intro S M ns hV
  obtain ⟨n, d, w, r, A, kd, ch, ga, lo, hN, hc, hm, hb1, hb2⟩ := VI_to hV.2.2.2.2.1
  obtain ⟨a1, a2, a3, a4, a5, a6, a7, a8, a9, b1, b2, b3, b4, b5, b6, b7, b8, c1, c2, c3⟩ := hN
  have hA := hV.2.2.2.2.2.2.1
  rw [a5, a6, nI_clamp (show n < 2 ^ 31 by omega), nI_clamp (show d < 2 ^ 31 by omega)] at hA
  obtain ⟨q, l, q1, q2, q3, q4, q5, q6, q7, q8⟩ := hA
  unfold wpX11_stand wpX12_stand
  refine ⟨fun hth => vil (b := false) (by rw [a9, hth]) (kf' ⟨rfl, hV⟩), fun hth => ?_⟩
  have hvl : ∀ {post : Bool → Prop}, post true → wpX12_isVillage M.2.1.2.2.2.2.2.1 post := fun hp => vil (b := true) (by rw [a9, hth]) hp
  refine ⟨fun hev => ?_, fun hev => hvl (kt' (k3 (by rw [b4, hev]; rfl) ⟨rfl, hV⟩))⟩
  have n0 : ¬ M.2.1.2.2.2.2.2.1 4 = 0 := by rw [b4, hev]; decide
  by_cases hd : d = 99
  · refine k2 (by rw [a6, hd]; decide) (hvl (kt' (k4 n0 (k3 (by rw [b5, hd]; rfl) ⟨rfl, hV⟩))))
  refine k1 (by rw [a6]; exact nI_lt (b := 99) (by omega) (by decide)) ?_
  rw [a5, a6, a7, a8, q3, q4, q5]
  refine keep_c q1 q2 a2 (fun nx kp ac hC => ⟨vp_in_nI (by omega) (by decide), close_c a1 hc (fun pur' g1 g2 => hvl (kt' (k4 n0 (k4 (by rw [b5]; exact fun e => hd ((nI_eq (b := 99) (by omega) (by decide)).mp e)) (keep_m q2 a2 b2 b3 b4 b5 (b7 d (by omega)) b6 (fun i a' g => (q6 i a' g).2) (fun ma pa hM => stands_m a1 b1 hm (fun f' f1 f3 f4 fo => ?_)))))))⟩)
  have f5 : f' 5 = nI d := (fo 5 (by decide) (by decide) (fun i hi => ⟨by omega, by omega⟩)).trans b5
  rw [upd_s, f5, nI_1, show (24 : Int32) + nI (d + 1) - 1 = nI (24 + d) by rw [show (24 : Int32) = nI 24 from rfl, nI_add, sub1 (by omega)]; congr 1, nI_clamp (show 24 + d < 2 ^ 31 by omega), nI_clamp (show d < 2 ^ 31 by omega)]
  have fl0 : ∀ j, 24 ≤ j → f' j = M.2.1.2.2.2.2.2.1 j := fun j hj => fo j (by omega) (by omega) (fun i hi => ⟨by omega, by omega⟩)
  refine ⟨vp_in_nI (by omega) (by decide), ?_, hV.1, hV.2.1, hV.2.2.1, hV.2.2.2.1, ?_, hV.2.2.2.2.2.1, ?_, hV.2.2.2.2.2.2.2⟩
  · rw [upd_n (by omega), fl0 _ (by omega), b7 d (by omega)]
  · have fz : ∀ j, j ≠ 5 → upd f' 5 (nI (d + 1)) j = f' j := fun j hj => upd_n hj
    refine VI_of (n := n) (d := d + 1) (w := 0) (r := r) ⟨a1, by omega, by decide, a4, rfl, rfl, rfl, rfl, ?_, ?_, ?_, ?_, ?_, ?_, fun i hi => ?_, fun k hk => ?_, fun k h1 h2 => ?_, fun i h1 h2 => ?_, fun i h1 h2 => ⟨(c2 i h1 h2).1, Nat.zero_testBit i⟩, fun h => ?_⟩ hc (fun i hi => ?_) hb1 hb2
    · exact (fz 0 (by decide)).trans ((fo 0 (by decide) (by decide) (fun i hi => ⟨by omega, by omega⟩)).trans a9)
    · exact (fz 1 (by decide)).trans ((fo 1 (by decide) (by decide) (fun i hi => ⟨by omega, by omega⟩)).trans b1)
    · exact (fz 2 (by decide)).trans ((fo 2 (by decide) (by decide) (fun i hi => ⟨by omega, by omega⟩)).trans b2)
    · exact (fz 3 (by decide)).trans f3
    · exact (fz 4 (by decide)).trans f4
    · rfl
    · show fl 3 0 S.2.2.2.1.2.2.2.2.2.2.2.1 i = upd f' 5 (nI (d + 1)) (11 + 6 * i) ∧ pur' i = upd f' 5 (nI (d + 1)) (10 + 6 * i)
      rw [fz _ (by omega), fz _ (by omega)]
      have e0 : fl 3 0 S.2.2.2.1.2.2.2.2.2.2.2.1 i = (0 : Int32) := if_pos hi
      rw [e0]
      by_cases hin : i < n
      · rw [(f1 i hin).2, (f1 i hin).1, g1 i hin, (b6 i hi).2, b3]
        exact ⟨rfl, rfl⟩
      · rw [fo _ (by omega) (by omega) (fun i' hi' => ⟨by omega, by omega⟩), fo _ (by omega) (by omega) (fun i' hi' => ⟨by omega, by omega⟩), g2 i (by omega), (b6 i hi).2, (c1 i (by omega) hi).1]
        exact ⟨rfl, rfl⟩
    · exact (b7 k hk).trans ((fz _ (by omega)).trans (fl0 _ (by omega))).symm
    · exact ((fz _ (by omega)).trans (fl0 _ (by omega))).trans (b8 k (by omega) h2)
    · exact ⟨(fz _ (by omega)).trans ((fo _ (by omega) (by omega) (fun i' hi' => ⟨by omega, by omega⟩)).trans (c1 i h1 h2).1), (fz _ (by omega)).trans ((fo _ (by omega) (by omega) (fun i' hi' => ⟨by omega, by omega⟩)).trans (c1 i h1 h2).2)⟩
    · exact absurd (hth.symm.trans h) (by decide)
    · obtain ⟨m1, m2, m3, m4, m5⟩ := hm i hi
      have go : ∀ c, c < 4 → upd f' 5 (nI (d + 1)) (6 + 6 * i + c) = M.2.1.2.2.2.2.2.1 (6 + 6 * i + c) := fun c hc => (fz _ (by omega)).trans (fo _ (by omega) (by omega) (fun i' hi' => ⟨by omega, by omega⟩))
      refine ⟨(go 0 (by decide)).trans m1, ?_, ?_, ?_, m5⟩
      · rw [show 7 + 6 * i = 6 + 6 * i + 1 by omega] at m2 ⊢
        exact (go 1 (by decide)).trans m2
      · rw [show 8 + 6 * i = 6 + 6 * i + 2 by omega] at m3 ⊢
        exact (go 2 (by decide)).trans m3
      · rw [show 9 + 6 * i = 6 + 6 * i + 3 by omega] at m4 ⊢
        exact (go 3 (by decide)).trans m4
  · show AI nx kp ac ma pa S.2.2.2.1.1 (nI n).toNatClampNeg (nI (d + 1)).toNatClampNeg (S.2.2.2.1.2.2.2.2.2.2.2.2.2 (nI (d + 1)).toNatClampNeg)
    rw [hth, nI_clamp (show n < 2 ^ 31 by omega), nI_clamp (show d + 1 < 2 ^ 31 by omega)]
    exact keep_j q1 q2 a2 a3 a4 (fun i h1 h2 => ⟨(c2 i h1 h2).2, (c2 i h1 h2).1, by rw [(b6 i h2).1]; exact (c1 i h1 h2).1, by rw [(b6 i h2).2]; exact (c1 i h1 h2).2⟩) q6 q7 hC hM (Or.inr ⟨rfl, by rw [b7 (d + 1) (by omega)]; exact b8 (d + 1) (by omega) (by omega)⟩)
theorem pu_will : Pu_will Inv := by
  intro S M ns hV p0 p1
  obtain ⟨n, d, w, r, A, kd, ch, ga, lo, hN, hc, hm, hb1, hb2⟩ := VI_to hV.2.2.2.2.1
  obtain ⟨a1, a2, a3, a4, a5, a6, a7, a8, a9, b1, b2, b3, b4, b5, b6, b7, b8, c1, c2, c3⟩ := hN
  have hA := hV.2.2.2.2.2.2.1
  rw [a5, a6, nI_clamp (show n < 2 ^ 31 by omega), nI_clamp (show d < 2 ^ 31 by omega)] at hA
  obtain ⟨q, l, q1, q2, q3, q4, q5, q6, q7, q8⟩ := hA
  unfold wpX11_will wpX12_will wpX9_hasRight wpX12_has
  have pc := pa_case a1 hc b1 p0
  have pc1 := pa_case a1 hc b1 p1
  rw [← a5] at pc pc1
  rcases pc with ⟨qc, qm⟩ | ⟨i, hi, rfl, qc, qm⟩
  · exact qc _ (kn (qm _ (kf' ⟨rfl, hV⟩)))
  refine qc _ (ks ⟨(hc i hi).2.1, ?_⟩)
  rcases pc1 with ⟨tc, tm⟩ | ⟨o, ho, rfl, tc, tm⟩
  · exact tc _ (kn (qm _ (kt' (tm _ (kf' ⟨rfl, hV⟩)))))
  refine tc _ (ks ⟨(hc o ho).2.1, ?_⟩)
  refine ⟨fun hne => ?_, fun he => qm _ (kt' (tm _ (kt' (k3 he ⟨rfl, hV⟩))))⟩
  rw [b2, ← a8]
  refine ⟨fun h1 => kf' (qm _ (kt' (tm _ (kt' (k4 hne (k4 h1 (kf' ⟨rfl, hV⟩))))))), fun h1 => kt' ?_⟩
  refine ⟨fun h2 => kf' ?_, fun h2 => kt' (qm _ (kt' (tm _ (kt' (k4 hne (k3 h1 (kt' (k3 h2 (kt' ⟨rfl, hV⟩)))))))))⟩
  have hth : S.2.2.2.1.1 = true := by
    cases h : S.2.2.2.1.1
    · have := (c3 h).1
      omega
    · rfl
  rw [a8] at h1 h2
  rw [a6, a7, a8, q3, q4, q5]
  obtain ⟨x1, x2⟩ := xr_bit r a4 i (by omega) o (by omega)
  refine keep_c q1 q2 a2 (fun nx kp ac hC => ?_)
  have hbc := bc8 _ x2
  rw [← x1] at hbc
  unfold wpJ6_bitCount_0f7a4 wpX12_ones at hbc
  unfold wpJ6_bitCount_0f7a4
  refine qm _ (kt' (tm _ (kt' (k4 hne (k3 h1 (kt' (k4 h2 (kf' (keep_m q2 a2 b2 b3 b4 b5 (b7 d (by omega)) b6 (fun i a' g => (q6 i a' g).2) (fun ma pa hM => ?_))))))))))
  unfold wpX12_ones
  rw [upd_s]
  refine ⟨hbc, hV.1, hV.2.1, hV.2.2.1, hV.2.2.2.1, ?_, hV.2.2.2.2.2.1, ?_, hV.2.2.2.2.2.2.2⟩
  · rw [x1]
    have fz : ∀ j, j ≠ 2 → upd M.2.1.2.2.2.2.2.1 2 (nI (r ^^^ (2 ^ i ||| 2 ^ o))) j = M.2.1.2.2.2.2.2.1 j := fun j hj => upd_n hj
    refine VI_of (n := n) (d := d) (w := w) (r := r ^^^ (2 ^ i ||| 2 ^ o)) ⟨a1, a2, a3, x2, a5, rfl, rfl, rfl, (fz 0 (by decide)).trans a9, (fz 1 (by decide)).trans b1, ?_, (fz 3 (by decide)).trans b3, (fz 4 (by decide)).trans b4, (fz 5 (by decide)).trans b5, fun j hj => ⟨(b6 j hj).1.trans (fz _ (by omega)).symm, (b6 j hj).2.trans (fz _ (by omega)).symm⟩, fun k hk => (b7 k hk).trans (fz _ (by omega)).symm, fun k h1 h2 => (fz _ (by omega)).trans (b8 k h1 h2), fun j h1 h2 => ⟨(fz _ (by omega)).trans (c1 j h1 h2).1, (fz _ (by omega)).trans (c1 j h1 h2).2⟩, fun j h1 h2 => ⟨?_, (c2 j h1 h2).2⟩, fun h => absurd (hth.symm.trans h) (by decide)⟩ hc (fun j hj => ?_) hb1 hb2
    · rfl
    · rw [xr_tb (by omega) (by omega)]
      exact (c2 j h1 h2).1
    · obtain ⟨m1, m2, m3, m4, m5⟩ := hm j hj
      exact ⟨(fz _ (by omega)).trans m1, (fz _ (by omega)).trans m2, (fz _ (by omega)).trans m3, (fz _ (by omega)).trans m4, m5⟩
  · show AI nx kp ac ma pa S.2.2.2.1.1 (S.2.2.2.1.2.1).toNatClampNeg (nI d).toNatClampNeg _
    rw [hth, a5, nI_clamp (show n < 2 ^ 31 by omega), nI_clamp (show d < 2 ^ 31 by omega)]
    exact keep_j q1 q2 a2 a3 a4 (fun i h1 h2 => ⟨(c2 i h1 h2).2, (c2 i h1 h2).1, by rw [(b6 i h2).1]; exact (c1 i h1 h2).1, by rw [(b6 i h2).2]; exact (c1 i h1 h2).2⟩) q6 q7 hC hM (Or.inl rfl)
theorem undo_m {e d2 : Nat} (he : e < 24) (hd2 : d2 < 100) {ac : Int32} {past f : Nat → Int32} {post : Int32 → Int32 → (Nat → Int32) → Prop} (hp : ∀ f' : Nat → Int32, (∀ i, i < 3 → f' (10 + 6 * i) = past (11 * e + 5 + i) ∧ f' (11 + 6 * i) = past (11 * e + 8 + i)) → (∀ j, (∀ i, i < 3 → j ≠ 10 + 6 * i ∧ j ≠ 11 + 6 * i) → f' j = f j) → post ac ac f') : wlX12_undo_121 past post fu (nI (11 * e)) 0 ac f := by
  refine lp (σ := Nat → Int32) (fun m i s => wlX12_undo_121 past post m (nI (11 * e)) (nI i) ac s) (fun i s => (∀ j, j < i → s (10 + 6 * j) = past (11 * e + 5 + j) ∧ s (11 + 6 * j) = past (11 * e + 8 + j)) ∧ ∀ j, (∀ i', i' < i → j ≠ 10 + 6 * i' ∧ j ≠ 11 + 6 * i') → s j = f j) 3 (fun m s h => ?_) (fun m i s hi h k => ?_) fu 0 f (by omega) (by unfold fu; omega) ⟨(fun j hj => absurd hj (Nat.not_lt_zero j)), fun _ _ => rfl⟩
  · unfold wlX12_undo_121
    exact k1 (nI_le (a := 3) (Nat.le_refl _) (by decide)) (hp s h.1 h.2)
  · unfold wlX12_undo_121
    have g5 : nI (11 * e) + 5 + nI i = nI (11 * e + 5 + i) := by rw [show (5 : Int32) = nI 5 from rfl, nI_add, nI_add]
    have g8 : nI (11 * e) + 8 + nI i = nI (11 * e + 8 + i) := by rw [show (8 : Int32) = nI 8 from rfl, nI_add, nI_add]
    have i4 : (6 : Int32) + 6 * nI i + 4 = nI (10 + 6 * i) := by rw [show (4 : Int32) = nI 4 from rfl, ix6a]; congr 1; omega
    have i5 : (6 : Int32) + 6 * nI i + 5 = nI (11 + 6 * i) := by rw [show (5 : Int32) = nI 5 from rfl, ix6a]; congr 1; omega
    rw [g5, g8, i4, i5, nI_1 i]
    rw [nI_clamp (show 11 * e + 5 + i < 2 ^ 31 by omega), nI_clamp (show 11 * e + 8 + i < 2 ^ 31 by omega), nI_clamp (show 10 + 6 * i < 2 ^ 31 by omega), nI_clamp (show 11 + 6 * i < 2 ^ 31 by omega)]
    have v : ∀ k, k < 264 → vp_in (nI k) 264 := fun k hk => vp_in_nI hk (by decide)
    have v2 : ∀ k, k < 124 → vp_in (nI k) 124 := fun k hk => vp_in_nI hk (by decide)
    refine k2 (nI_ge (b := 3) hi (by decide)) ⟨v _ (by omega), v2 _ (by omega), v _ (by omega), v2 _ (by omega), k _ ⟨fun j hj => ?_, fun j hj => ?_⟩⟩
    · by_cases e : j = i
      · subst e
        rw [upd_s, upd_n (by omega), upd_s]
        exact ⟨rfl, rfl⟩
      · rw [upd_n (by omega), upd_n (by omega), upd_n (by omega), upd_n (by omega)]
        exact h.1 j (by omega)
    · have := hj i (by omega)
      rw [upd_n this.2, upd_n this.1]
      exact h.2 j (fun i' hi' => hj i' (by omega))
theorem take_back {o d : Nat} (ho : o + 11 ≤ 264) (hd : d < 100) {da : Int32} {ev ev2 : Bool} {we ri : Int32} {acts lv me pu : Nat → Int32} {post : Unit → Int32 → Bool → Int32 → Int32 → (Nat → Int32) → (Nat → Int32) → (Nat → Int32) → Prop} (e0 : acts o = nI d) (e1 : acts (o + 1) = bz ev2)
    (hp : ∀ me' pu' : Nat → Int32, (∀ i, i < 3 → me' i = acts (o + 5 + i) ∧ pu' i = acts (o + 8 + i)) → post () (nI d) ev2 (acts (o + 2)) (acts (o + 3)) (upd lv d (acts (o + 4))) me' pu') : wpX9_takeBack (nI o) da ev we ri acts lv me pu post := by
  have h5 : nI o + 5 = nI (o + 5) := nI_add o 5
  have h8 : nI (o + 5) + 3 = nI (o + 8) := nI_add (o + 5) 3
  have h4 : nI o + 4 = nI (o + 4) := nI_add o 4
  have h3 : nI o + 3 = nI (o + 3) := nI_add o 3
  have h2 : nI o + 2 = nI (o + 2) := nI_add o 2
  have c3 : (3 : Int32).toNatClampNeg = 3 := rfl
  have c0 : (0 : Int32).toNatClampNeg = 0 := rfl
  have v : ∀ k, k < 264 → vp_in (nI k) 264 := fun k hk => vp_in_nI hk (by decide)
  have J : ∀ b : Bool, ev2 = b → wjX9_takeBack_22 acts post (nI o) b (nI d) ev we ri lv me pu := by
    intro b hb
    subst hb
    unfold wjX9_takeBack_22
    rw [h5, h8, h4, h3, h2, c3, c0]
    rw [nI_clamp (show o + 5 < 2 ^ 31 by omega), nI_clamp (show o + 8 < 2 ^ 31 by omega), nI_clamp (show o + 4 < 2 ^ 31 by omega), nI_clamp (show o + 3 < 2 ^ 31 by omega), nI_clamp (show o + 2 < 2 ^ 31 by omega), nI_clamp (show d < 2 ^ 31 by omega)]
    refine ⟨v _ (by omega), v _ (by omega), v _ (by omega), vp_in_nI hd (by decide), nI_pos (by omega), by omega, nI_pos (by omega), by omega, hp _ _ (fun i hi => ⟨?_, ?_⟩)⟩
    · rw [pk_cpy_in (by omega) (by omega)]
      congr 1
    · rw [pk_cpy_in (by omega) (by omega)]
      congr 1
  unfold wpX9_takeBack
  rw [nI_1 o, nI_clamp (show o + 1 < 2 ^ 31 by omega), nI_clamp (show o < 2 ^ 31 by omega), e0, e1]
  refine ⟨v _ (by omega), v _ (by omega), fun h => J false ?_, fun h => J true ?_⟩
  · cases ev2
    · rfl
    · exact absurd rfl h
  · cases ev2
    · exact absurd h (by decide)
    · rfl
theorem pu_undo : Pu_undo Inv := by
  intro S M ns hV
  obtain ⟨n, d, w, r, A, kd, ch, ga, lo, hN, hc, hm, hb1, hb2⟩ := VI_to hV.2.2.2.2.1
  obtain ⟨a1, a2, a3, a4, a5, a6, a7, a8, a9, b1, b2, b3, b4, b5, b6, b7, b8, c1, c2, c3⟩ := hN
  have hA := hV.2.2.2.2.2.2.1
  rw [a5, a6, nI_clamp (show n < 2 ^ 31 by omega), nI_clamp (show d < 2 ^ 31 by omega)] at hA
  obtain ⟨q, l, q1, q2, q3, q4, q5, q6, q7, q8⟩ := hA
  unfold wpX11_undo wpX12_undo
  cases l with
  | nil =>
    exact k2 (by rw [q4]; decide) (k3 (by rw [q5]; rfl) ⟨rfl, hV⟩)
  | cons a l =>
    have hlen : (a :: l).length = l.length + 1 := List.length_cons
    rw [hlen] at q4 q5 q2
    have hth : S.2.2.2.1.1 = true := by
      cases h : S.2.2.2.1.1
      · exact absurd (q8 h) (by simp)
      · rfl
    obtain ⟨z1, z2⟩ := q6 0 a rfl
    rw [hlen] at z2
    obtain ⟨⟨y1, y2, y3, y4, y5⟩, y6⟩ := q7
    rw [show 11 * (l.length + 1 - 1 - 0) = 11 * l.length by omega] at z2
    rw [show (q + 23 - 0) % 24 = (q + 23) % 24 by omega] at z1
    have eq1 : S.1.1 + 24 - 1 - (S.1.1 + 24 - 1) / 24 * 24 = nI ((q + 23) % 24) := by
      rw [q3, show nI q + 24 - 1 = nI (q + 23) by rw [show (24 : Int32) = nI 24 from rfl, nI_add, sub1 (by omega)]; congr 1, mod24 (by omega)]
    have hq2 : (q + 23) % 24 < 24 := Nat.mod_lt _ (by decide)
    rw [eq1, show nI ((q + 23) % 24) * 11 = nI (11 * ((q + 23) % 24)) by rw [show (11 : Int32) = nI 11 from rfl, pk_mul, Nat.mul_comm], q4, q5, show nI (l.length + 1) - 1 = nI l.length from nI_pred _]
    obtain ⟨u1, u2, u3, u4, u5, u6⟩ := z1
    obtain ⟨w1, w2, w3, w4, w5, w6⟩ := z2
    refine k1 (nI_le (a := 1) (by omega) (by omega)) (take_back (o := 11 * ((q + 23) % 24)) (d := a.1) (by omega) (by omega) u1 u2 (fun me' pu' g => k4 (nI_ne0 (by omega) (by omega)) ?_))
    rw [b5, show (11 : Int32) * nI l.length = nI (11 * l.length) from pk_mul 11 _, show (24 : Int32) + nI d = nI (24 + d) from nI_add 24 d, nI_1 (11 * l.length), show nI (11 * l.length) + 2 = nI (11 * l.length + 2) from nI_add _ 2, show nI (11 * l.length) + 3 = nI (11 * l.length + 3) from nI_add _ 3, show nI (11 * l.length) + 4 = nI (11 * l.length + 4) from nI_add _ 4]
    rw [nI_clamp (show 24 + d < 2 ^ 31 by omega), nI_clamp (show 11 * l.length < 2 ^ 31 by omega), nI_clamp (show 11 * l.length + 1 < 2 ^ 31 by omega), nI_clamp (show 11 * l.length + 2 < 2 ^ 31 by omega), nI_clamp (show 11 * l.length + 3 < 2 ^ 31 by omega), nI_clamp (show 11 * l.length + 4 < 2 ^ 31 by omega), w1, w2, w3, w4, w5]
    have e5 : ∀ g : Nat → Int32, upd g 5 (nI a.1) 5 = nI a.1 := fun g => upd_s
    rw [e5, show (24 : Int32) + nI a.1 = nI (24 + a.1) from nI_add 24 a.1, nI_clamp (show 24 + a.1 < 2 ^ 31 by omega)]
    have v : ∀ k, k < 264 → vp_in (nI k) 264 := fun k hk => vp_in_nI hk (by decide)
    refine ⟨vp_in_nI (by omega) (by decide), v _ (by omega), v _ (by omega), v _ (by omega), v _ (by omega), v _ (by omega), vp_in_nI (by omega) (by decide), undo_m (e := l.length) (d2 := a.1) (by omega) (by omega) (fun f' s1 s2 => ⟨rfl, hV.1, hV.2.1, hV.2.2.1, hV.2.2.2.1, ?_, hV.2.2.2.2.2.1, ?_, hV.2.2.2.2.2.2.2⟩)⟩
    · rw [u3, u4, u5]
      have so : ∀ j, j ≠ 2 → j ≠ 3 → j ≠ 4 → j ≠ 5 → j ≠ 24 + d → j ≠ 24 + a.1 → (∀ i, i < 3 → j ≠ 10 + 6 * i ∧ j ≠ 11 + 6 * i) → f' j = M.2.1.2.2.2.2.2.1 j := fun j j2 j3 j4 j5 jd ja jo => by
        rw [s2 j jo, upd_n ja, upd_n j5, upd_n j4, upd_n j3, upd_n j2, upd_n jd]
      have lowj : ∀ j, j < 10 → ∀ i, i < 3 → j ≠ 10 + 6 * i ∧ j ≠ 11 + 6 * i := fun j hj i hi => ⟨by omega, by omega⟩
      have highj : ∀ j, 24 ≤ j → ∀ i, i < 3 → j ≠ 10 + 6 * i ∧ j ≠ 11 + 6 * i := fun j hj i hi => ⟨by omega, by omega⟩
      refine VI_of (n := n) (d := a.1) (w := a.2.2.1) (r := a.2.2.2.1) ⟨a1, y1, y2, y3, a5, rfl, rfl, rfl, ?_, ?_, ?_, ?_, ?_, ?_, fun i hi => ?_, fun k hk => ?_, fun k h1 h2 => ?_, fun i h1 h2 => ?_, fun i h1 h2 => ⟨(y4 i h1 h2).2.1, (y4 i h1 h2).1⟩, fun h => absurd (hth.symm.trans h) (by decide)⟩ hc (fun i hi => ?_) hb1 hb2
      · exact (so 0 (by omega) (by omega) (by omega) (by omega) (by omega) (by omega) (lowj 0 (by decide))).trans a9
      · exact (so 1 (by omega) (by omega) (by omega) (by omega) (by omega) (by omega) (lowj 1 (by decide))).trans b1
      · show f' 2 = _
        rw [s2 2 (lowj 2 (by decide)), upd_n (by omega), upd_n (by omega), upd_n (by omega), upd_n (by omega), upd_s]
      · show f' 3 = _
        rw [s2 3 (lowj 3 (by decide)), upd_n (by omega), upd_n (by omega), upd_n (by omega), upd_s]
      · show f' 4 = _
        rw [s2 4 (lowj 4 (by decide)), upd_n (by omega), upd_n (by omega), upd_s]
      · show f' 5 = _
        rw [s2 5 (lowj 5 (by decide)), upd_n (by omega), upd_s]
      · show me' i = f' (11 + 6 * i) ∧ pu' i = f' (10 + 6 * i)
        rw [(g i hi).1, (g i hi).2, (s1 i hi).1, (s1 i hi).2, (u6 i hi).1, (u6 i hi).2, (w6 i hi).1, (w6 i hi).2]
        exact ⟨rfl, rfl⟩
      · show upd S.2.2.2.1.2.2.2.2.2.2.2.2.2 a.1 a.2.2.2.2.1 k = f' (24 + k)
        rw [s2 _ (highj _ (by omega))]
        by_cases e : k = a.1
        · rw [e, upd_s, upd_s]
        · rw [upd_n e, upd_n (by omega), upd_n (by omega), upd_n (by omega), upd_n (by omega), upd_n (by omega), b7 k hk]
          by_cases e2 : k = d
          · rw [e2, upd_s]
            rcases y5 with h | ⟨h, hx⟩
            · omega
            · rw [← b7 d (by omega)]
              exact hx
          · rw [upd_n (by omega)]
      · show f' (24 + k) = 0
        rw [s2 _ (highj _ (by omega)), upd_n (by omega), upd_n (by omega), upd_n (by omega), upd_n (by omega), upd_n (by omega)]
        by_cases e2 : k = d
        · rw [e2, upd_s]
        · rw [upd_n (by omega)]
          exact b8 k (by rcases y5 with h | ⟨h, hx⟩ <;> omega) h2
      · show f' (11 + 6 * i) = 0 ∧ f' (10 + 6 * i) = 0
        rw [(s1 i h2).1, (s1 i h2).2, (w6 i h2).1, (w6 i h2).2]
        exact ⟨(y4 i h1 h2).2.2.1, (y4 i h1 h2).2.2.2⟩
      · obtain ⟨m1, m2, m3, m4, m5⟩ := hm i hi
        have go : ∀ c, c < 4 → f' (6 + 6 * i + c) = M.2.1.2.2.2.2.2.1 (6 + 6 * i + c) := fun c hc => so _ (by omega) (by omega) (by omega) (by omega) (by omega) (by omega) (fun i' hi' => ⟨by omega, by omega⟩)
        refine ⟨(go 0 (by decide)).trans m1, ?_, ?_, ?_, m5⟩
        · rw [show 7 + 6 * i = 6 + 6 * i + 1 by omega] at m2 ⊢
          exact (go 1 (by decide)).trans m2
        · rw [show 8 + 6 * i = 6 + 6 * i + 2 by omega] at m3 ⊢
          exact (go 2 (by decide)).trans m3
        · rw [show 9 + 6 * i = 6 + 6 * i + 3 by omega] at m4 ⊢
          exact (go 3 (by decide)).trans m4
    · show AI (nI ((q + 23) % 24)) (nI l.length) S.2.2.2.2.2.2.2.2.2 (nI l.length) M.2.1.2.2.2.2.2.2.2.2.1 S.2.2.2.1.1 (S.2.2.2.1.2.1).toNatClampNeg (nI a.1).toNatClampNeg (upd S.2.2.2.1.2.2.2.2.2.2.2.2.2 a.1 _ (nI a.1).toNatClampNeg)
      rw [hth, a5, nI_clamp (show n < 2 ^ 31 by omega), nI_clamp (show a.1 < 2 ^ 31 by omega), upd_s, u5]
      refine ⟨(q + 23) % 24, l, hq2, by omega, rfl, rfl, rfl, fun i a' h => ?_, y6, fun h => by cases h⟩
      have hi : i < l.length := (List.getElem?_eq_some_iff.mp h).1
      have := q6 (i + 1) a' (by rw [List.getElem?_cons_succ]; exact h)
      rw [hlen, show (q + 23 - (i + 1)) % 24 = ((q + 23) % 24 + 23 - i) % 24 by omega, show l.length + 1 - 1 - (i + 1) = l.length - 1 - i by omega] at this
      exact this
