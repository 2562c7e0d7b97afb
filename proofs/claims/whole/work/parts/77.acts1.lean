-- acts: live, again, stand, will, undo
theorem bc8 : ∀ u, u < 8 → wpJ6_bitCount_0f7a4 (nI u) (fun x => wpX12_ones (nI u) (fun y => x = y)) := by
  unfold wpJ6_bitCount_0f7a4 wpX12_ones
  decide +kernel
theorem nb_bit : ∀ r, r < 8 → ∀ i, i < 3 → ∃ r2, r2 < 8 ∧ nI r &&& (((1 : Int32) <<< (nI i &&& 31)) ^^^ (-1)) = nI r2 ∧ ∀ j, j < 3 → r.testBit j = false → r2.testBit j = false := by
  have h : ∀ r, r < 8 → ∀ i, i < 3 → nI r &&& (((1 : Int32) <<< (nI i &&& 31)) ^^^ (-1)) = nI (r &&& (7 - 2 ^ i)) := by decide +kernel
  intro r hr i hi
  refine ⟨r &&& (7 - 2 ^ i), Nat.lt_of_le_of_lt Nat.and_le_left hr, h r hr i hi, fun j _ hj => ?_⟩
  rw [Nat.testBit_and, hj, Bool.false_and]
theorem xr_bit : ∀ r, r < 8 → ∀ p, p < 3 → ∀ o, o < 3 → nI r ^^^ (((1 : Int32) <<< (nI p &&& 31)) ||| ((1 : Int32) <<< (nI o &&& 31))) = nI (r ^^^ (2 ^ p ||| 2 ^ o)) ∧ r ^^^ (2 ^ p ||| 2 ^ o) < 8 := by decide +kernel
theorem xr_tb {r p o j : Nat} (h1 : j ≠ p) (h2 : j ≠ o) : (r ^^^ (2 ^ p ||| 2 ^ o)).testBit j = r.testBit j := by
  rw [Nat.testBit_xor, Nat.testBit_or, Nat.testBit_two_pow, Nat.testBit_two_pow, decide_eq_false (Ne.symm h1), decide_eq_false (Ne.symm h2)]
  simp
theorem pow_le8 {n w : Nat} (hn : n ≤ 3) (h : w < 2 ^ n) : w < 8 := Nat.lt_of_lt_of_le h (Nat.pow_le_pow_right (by decide) hn)
theorem pu_live : Pu_live Inv := by
  intro S M ns hV p0
  obtain ⟨n, d, w, r, A, kd, ch, ga, lo, hN, hc, hm, hb1, hb2⟩ := VI_to hV.2.2.2.2.1
  obtain ⟨a1, a2, a3, a4, a5, a6, a7, a8, a9, b1, b2, b3, b4, b5, b6, b7, b8, c1, c2, c3⟩ := hN
  have hA := hV.2.2.2.2.2.2.1
  rw [a5, a6, nI_clamp (show n < 2 ^ 31 by omega), nI_clamp (show d < 2 ^ 31 by omega)] at hA
  obtain ⟨q, l, q1, q2, q3, q4, q5, q6, q7, q8⟩ := hA
  unfold wpX11_live wpX12_live
  have hvl : ∀ (b : Bool) {post : Bool → Prop}, S.2.2.2.1.1 = b → post b → wpX12_isVillage M.2.1.2.2.2.2.2.1 post := by
    intro b post hb hp
    unfold wpX12_isVillage
    rw [a9, hb]
    cases b
    · exact k4 (by decide) hp
    · exact k3 rfl hp
  refine ⟨fun hth => ?_, fun hth => ?_⟩
  rotate_left
  · exact hvl false hth (kf ⟨rfl, hV⟩)
  have hseed : ((∀ post : Bool → Prop, post false → wpX11_isSeed p0 post) ∧ (∀ post : Bool → Prop, post false → wpX12_in p0 1 999999 post)) ∨ ((∀ post : Bool → Prop, post true → wpX11_isSeed p0 post) ∧ (∀ post : Bool → Prop, post true → wpX12_in p0 1 999999 post)) := by
    unfold wpX11_isSeed wpX12_in
    by_cases h1 : p0 < 1
    · exact Or.inl ⟨fun post hp => k1 h1 hp, fun post hp => k1 h1 hp⟩
    · by_cases h2 : (999999 : Int32) < p0
      · exact Or.inl ⟨fun post hp => k2 h1 (k1 h2 hp), fun post hp => k2 h1 (k1 h2 hp)⟩
      · exact Or.inr ⟨fun post hp => k2 h1 (k2 h2 hp), fun post hp => k2 h1 (k2 h2 hp)⟩
  rcases hseed with ⟨s1, s2⟩ | ⟨s1, s2⟩
  · exact s1 _ (kf (hvl true hth (kt (s2 _ (kf ⟨rfl, hV⟩)))))
  · refine s1 _ (kt ⟨fun hev => ?_, fun hev => ?_⟩)
    rotate_left
    · exact hvl true hth (kt (s2 _ (kt (k3 (by rw [b4, hev]; rfl) ⟨rfl, hV⟩))))
    rw [a5, a6, a7, a8, q3, q4, q5]
    refine keep_c q1 q2 a2 (fun nx kp ac hC => pass_c a1 hc ⟨vp_in_nI (by omega) (by decide), vp_in_nI (by omega) (by decide), hvl true hth (kt (s2 _ (kt (k4 (by rw [b4, hev]; decide) (keep_m q2 a2 b2 b3 b4 b5 (b7 d (by omega)) b6 (fun i a' g => (q6 i a' g).2) (fun ma pa hM => pass_m a1 b1 hm (mem := S.2.2.2.1.2.2.2.2.2.2.2.1) (fun i hi => (b6 i (by omega)).1.symm) (fun f' f3 f4 fo => ?_)))))))⟩)
    have g5 : f' 5 = nI d := (fo 5 (by decide) (by decide)).trans b5
    rw [g5, show (24 : Int32) + nI d = nI (24 + d) from nI_add 24 d, nI_clamp (show 24 + d < 2 ^ 31 by omega), nI_clamp (show d < 2 ^ 31 by omega)]
    refine ⟨vp_in_nI (by omega) (by decide), vp_in_nI (by omega) (by decide), ?_, hV.1, hV.2.1, hV.2.2.1, hV.2.2.2.1, ?_, hV.2.2.2.2.2.1, ?_, hV.2.2.2.2.2.2.2⟩
    · rw [upd_n (by omega), f3]
    · obtain ⟨w', w1, w2⟩ := pd_well (kd := kd) (ch := ch) (mem := S.2.2.2.1.2.2.2.2.2.2.2.1) (x := p0.toInt64) n a1
      refine VI_of (n := n) (d := d) (w := w') (r := r) ⟨a1, a2, pow_le8 a1 w1, a4, rfl, rfl, w2, rfl, ?_, ?_, ?_, ?_, ?_, ?_, fun i hi => ?_, fun k hk => ?_, fun k h1 h2 => ?_, fun i h1 h2 => ?_, fun i h1 h2 => ⟨(c2 i h1 h2).1, bit_hi w1 h1⟩, fun h => ?_⟩ hc (fun i hi => ?_) hb1 hb2
      · show upd f' (24 + d) _ 0 = _
        rw [upd_n (by omega), fo 0 (by decide) (by decide), a9]
      · show upd f' (24 + d) _ 1 = _
        rw [upd_n (by omega), fo 1 (by decide) (by decide), b1]
      · show upd f' (24 + d) _ 2 = _
        rw [upd_n (by omega), fo 2 (by decide) (by decide), b2]
      · show upd f' (24 + d) _ 3 = _
        rw [upd_n (by omega), f3, w2]
      · show upd f' (24 + d) _ 4 = _
        rw [upd_n (by omega), f4]
        rfl
      · show upd f' (24 + d) _ 5 = _
        rw [upd_n (by omega), g5]
      · show _ = upd f' (24 + d) _ (11 + 6 * i) ∧ _ = upd f' (24 + d) _ (10 + 6 * i)
        rw [upd_n (by omega), upd_n (by omega), fo _ (by omega) (by omega), fo _ (by omega) (by omega)]
        exact b6 i hi
      · show upd S.2.2.2.1.2.2.2.2.2.2.2.2.2 d _ k = upd f' (24 + d) _ (24 + k)
        by_cases e : k = d
        · subst e
          rw [upd_s, upd_s, fo _ (by omega) (by omega), b7 k (by omega)]
        · rw [upd_n e, upd_n (by omega), fo _ (by omega) (by omega), b7 k hk]
      · show upd f' (24 + d) _ (24 + k) = 0
        rw [upd_n (by omega), fo _ (by omega) (by omega), b8 k h1 h2]
      · show upd f' (24 + d) _ (11 + 6 * i) = 0 ∧ upd f' (24 + d) _ (10 + 6 * i) = 0
        rw [upd_n (by omega), upd_n (by omega), fo _ (by omega) (by omega), fo _ (by omega) (by omega)]
        exact c1 i h1 h2
      · exact absurd (hth.symm.trans h) (by decide)
      · show upd f' (24 + d) _ (6 + 6 * i) = _ ∧ upd f' (24 + d) _ (7 + 6 * i) = _ ∧ upd f' (24 + d) _ (8 + 6 * i) = _ ∧ upd f' (24 + d) _ (9 + 6 * i) = _ ∧ _
        rw [upd_n (by omega), upd_n (by omega), upd_n (by omega), upd_n (by omega), fo _ (by omega) (by omega), fo _ (by omega) (by omega), fo _ (by omega) (by omega), fo _ (by omega) (by omega)]
        exact hm i hi
    · show AI nx kp ac ma pa S.2.2.2.1.1 (nI n).toNatClampNeg (nI d).toNatClampNeg _
      rw [hth, nI_clamp (show n < 2 ^ 31 by omega), nI_clamp (show d < 2 ^ 31 by omega)]
      exact keep_j q1 q2 a2 a3 a4 (fun i h1 h2 => ⟨(c2 i h1 h2).2, (c2 i h1 h2).1, by rw [(b6 i h2).1]; exact (c1 i h1 h2).1, by rw [(b6 i h2).2]; exact (c1 i h1 h2).2⟩) q6 q7 hC hM (Or.inl rfl)
theorem vil {f : Nat → Int32} {b : Bool} (h0 : f 0 = bz b) {post : Bool → Prop} (hp : post b) : wpX12_isVillage f post := by
  unfold wpX12_isVillage
  rw [h0]
  cases b
  · exact k4 (by decide) hp
  · exact k3 rfl hp
theorem may_c {pe : Pe} {people : Nat → Option Nat} {n i : Nat} {A kd ch ga lo : Nat → Nat} (hn : n ≤ 3) (hc : PCl pe people n A kd ch ga lo) (hi : i < n) {x : Int32} {post : Bool → Prop} (hp : post (hb x i && decide (kd i ≠ 4))) : wpX9_mayRepeat (nI i) x (nI n) people pe post := by
  obtain ⟨p1, p2, p3, p4, p5⟩ := hc i hi
  unfold wpX9_mayRepeat wpX9_personAt
  refine k2 (nI_pos (by omega)) (k1 (nI_lt hi (by omega)) ⟨vp_in_nI (by omega) (by decide), ?_⟩)
  rw [nI_clamp (by omega), p1]
  refine ks ⟨p2, ks ⟨p2, fun q => ?_, fun q => ?_⟩⟩
  · rw [show hb x i = false from decide_eq_false q] at hp
    exact hp
  · rw [show hb x i = true from decide_eq_true q, Bool.true_and] at hp
    rw [p3]
    exact v_may p4 p5 ⟨fun e => by rw [e] at hp; exact hp, fun e => by rw [e] at hp; exact hp⟩
theorem pu_again : Pu_again Inv := by
  intro S M ns hV p0
  obtain ⟨n, d, w, r, A, kd, ch, ga, lo, hN, hc, hm, hb1, hb2⟩ := VI_to hV.2.2.2.2.1
  obtain ⟨a1, a2, a3, a4, a5, a6, a7, a8, a9, b1, b2, b3, b4, b5, b6, b7, b8, c1, c2, c3⟩ := hN
  have hA := hV.2.2.2.2.2.2.1
  rw [a5, a6, nI_clamp (show n < 2 ^ 31 by omega), nI_clamp (show d < 2 ^ 31 by omega)] at hA
  obtain ⟨q, l, q1, q2, q3, q4, q5, q6, q7, q8⟩ := hA
  unfold wpX11_again wpX12_again
  rw [a5]
  have pc := pa_case a1 hc b1 p0
  rcases pc with ⟨qc, qm⟩ | ⟨i, hi, rfl, qc, qm⟩
  · refine qc _ (kn (qm _ (kf ⟨rfl, ?_⟩)))
    rw [← a5]
    exact hV
  · refine qc _ (ks ⟨(hc i hi).2.1, fun hev => qm _ (kt (k1 (by rw [b4, hev]; rfl) ⟨rfl, ?_⟩)), fun hev => ?_⟩)
    · rw [← a5]
      exact hV
    have n0 : ¬ M.2.1.2.2.2.2.2.1 4 = 0 := by rw [b4, hev]; decide
    have i3 : i < 3 := by omega
    refine may_c a1 hc hi ?_
    by_cases hr : hb S.2.2.2.1.2.2.2.2.2.1 i = true
    · have hr' : ((S.2.2.2.1.2.2.2.2.2.1 >>> (nI i &&& 31)) &&& 1) = 1 := of_decide_eq_true hr
      rw [hr, Bool.true_and]
      have hk4 : nI (kd i) = 4 ↔ kd i = 4 := eq3 (c := 4) (hc i hi).2.2.2.2 (by decide)
      by_cases h4 : kd i = 4
      · rw [decide_eq_false (by simpa using h4)]
        refine kf (qm _ (kt (k2 n0 ?_)))
        unfold wpX12_has
        rw [b2, ← a8]
        refine k3 hr' (kt' (m_kind i3 (hm i hi).1 (k3 (hk4.mpr h4) ⟨rfl, ?_⟩)))
        rw [← a5]
        exact hV
      · rw [decide_eq_true (by simpa using h4)]
        refine kt ?_
        have hth : S.2.2.2.1.1 = true := by
          cases h : S.2.2.2.1.1
          · have := (c3 h).1
            omega
          · rfl
        rw [a6, a7, a8, q3, q4, q5]
        rw [a8] at hr'
        refine keep_c q1 q2 a2 (fun nx kp ac hC => ?_)
        unfold wpX9_repeatDay
        rw [nI_clamp (show i < 2 ^ 31 by omega)]
        have vi : vp_in (nI i) 3 := vp_in_nI i3 (by decide)
        refine ⟨vi, vi, vi, qm _ (kt (k2 n0 ?_))⟩
        unfold wpX12_has
        rw [b2]
        refine k3 hr' (kt' (m_kind i3 (hm i hi).1 (k4 (fun e => h4 (hk4.mp e)) (keep_m q2 a2 b2 b3 b4 b5 (b7 d (by omega)) b6 (fun i a' g => (q6 i a' g).2) (fun ma pa hM => ?_)))))
        unfold wpX12_againBy
        have i5 : (6 : Int32) + 6 * nI i + 5 = nI (11 + 6 * i) := by rw [show (5 : Int32) = nI 5 from rfl, ix6a]; congr 1; omega
        have v5 : vp_in (nI (11 + 6 * i)) 124 := vp_in_nI (by omega) (by decide)
        rw [i5, nI_clamp (show 11 + 6 * i < 2 ^ 31 by omega), b2]
        obtain ⟨r2, r3, r4, r5⟩ := nb_bit r a4 i i3
        rw [r4]
        refine ⟨v5, v5, v5, ?_, hV.1, hV.2.1, hV.2.2.1, hV.2.2.2.1, ?_, hV.2.2.2.2.2.1, ?_, hV.2.2.2.2.2.2.2⟩
        · rw [upd_s, upd_n (by omega), upd_n (by omega), upd_s, upd_n (by omega), (b6 i i3).1]
        · have fo : ∀ j, j ≠ 2 → j ≠ 3 → j ≠ 4 → j ≠ 11 + 6 * i → upd (upd (upd (upd M.2.1.2.2.2.2.2.1 2 (nI r2)) (11 + 6 * i) ((upd M.2.1.2.2.2.2.2.1 2 (nI r2)) (11 + 6 * i) + 1)) 4 0) 3 0 j = M.2.1.2.2.2.2.2.1 j := fun j j2 j3 j4 j5 => by
            rw [upd_n j3, upd_n j4, upd_n j5, upd_n j2]
          refine VI_of (n := n) (d := d) (w := 0) (r := r2) ⟨a1, a2, by decide, r3, rfl, rfl, rfl, rfl, ?_, ?_, ?_, ?_, ?_, ?_, fun j hj => ?_, fun k hk => ?_, fun k h1 h2 => ?_, fun j h1 h2 => ?_, fun j h1 h2 => ⟨r5 j h2 (c2 j h1 h2).1, Nat.zero_testBit j⟩, fun h => ?_⟩ hc (fun j hj => ?_) hb1 hb2
          · exact (fo 0 (by omega) (by omega) (by omega) (by omega)).trans a9
          · exact (fo 1 (by omega) (by omega) (by omega) (by omega)).trans b1
          · show upd (upd (upd (upd M.2.1.2.2.2.2.2.1 2 (nI r2)) (11 + 6 * i) _) 4 0) 3 0 2 = _
            rw [upd_n (by omega), upd_n (by omega), upd_n (by omega), upd_s]
          · rfl
          · rfl
          · exact (fo 5 (by omega) (by omega) (by omega) (by omega)).trans b5
          · refine ⟨?_, ?_⟩
            · by_cases e : j = i
              · subst e
                show upd S.2.2.2.1.2.2.2.2.2.2.2.1 j _ j = upd (upd (upd (upd M.2.1.2.2.2.2.2.1 2 (nI r2)) (11 + 6 * j) _) 4 0) 3 0 (11 + 6 * j)
                rw [upd_s, upd_n (by omega), upd_n (by omega), upd_s, upd_n (by omega), (b6 j hj).1]
              · exact (upd_n e).trans ((b6 j hj).1.trans (fo _ (by omega) (by omega) (by omega) (by omega)).symm)
            · exact (b6 j hj).2.trans (fo _ (by omega) (by omega) (by omega) (by omega)).symm
          · exact (b7 k hk).trans (fo _ (by omega) (by omega) (by omega) (by omega)).symm
          · exact (fo _ (by omega) (by omega) (by omega) (by omega)).trans (b8 k h1 h2)
          · exact ⟨(fo _ (by omega) (by omega) (by omega) (by omega)).trans (c1 j h1 h2).1, (fo _ (by omega) (by omega) (by omega) (by omega)).trans (c1 j h1 h2).2⟩
          · exact absurd (hth.symm.trans h) (by decide)
          · obtain ⟨m1, m2, m3, m4, m5⟩ := hm j hj
            exact ⟨(fo _ (by omega) (by omega) (by omega) (by omega)).trans m1, (fo _ (by omega) (by omega) (by omega) (by omega)).trans m2, (fo _ (by omega) (by omega) (by omega) (by omega)).trans m3, (fo _ (by omega) (by omega) (by omega) (by omega)).trans m4, m5⟩
        · show AI nx kp ac ma pa S.2.2.2.1.1 (nI n).toNatClampNeg (nI d).toNatClampNeg _
          rw [hth, nI_clamp (show n < 2 ^ 31 by omega), nI_clamp (show d < 2 ^ 31 by omega)]
          exact keep_j q1 q2 a2 a3 a4 (fun i h1 h2 => ⟨(c2 i h1 h2).2, (c2 i h1 h2).1, by rw [(b6 i h2).1]; exact (c1 i h1 h2).1, by rw [(b6 i h2).2]; exact (c1 i h1 h2).2⟩) q6 q7 hC hM (Or.inl rfl)
    · rw [show hb S.2.2.2.1.2.2.2.2.2.1 i = false by simpa using hr]
      have hr' : ¬ ((S.2.2.2.1.2.2.2.2.2.1 >>> (nI i &&& 31)) &&& 1) = 1 := fun e => hr (decide_eq_true e)
      refine kf (qm _ (kt (k2 n0 ?_)))
      unfold wpX12_has
      rw [b2, ← a8]
      refine k4 hr' (kf' ⟨rfl, ?_⟩)
      rw [← a5]
      exact hV
