-- the reference lays
def GM (G : Pg) (f H : Nat → Int32) : Prop := G.1 ≤ 3 ∧ G.2.1 < 8 ∧ f 1 = nI G.1 ∧ f 2 = nI G.2.1 ∧ PMo f G.1 G.2.2.1 G.2.2.2.1 G.2.2.2.2.1 G.2.2.2.2.2.1 ∧ (∀ i, i < G.1 → G.2.2.2.1 i ≤ 10 ∧ G.2.2.2.2.1 i ≤ 99 ∧ G.2.2.2.2.2.1 i ≤ 99) ∧ (∀ i, i < G.1 → H i = nI (G.2.2.2.2.2.2 i)) ∧ (∀ i, i < G.1 → G.2.2.2.2.2.2 i ≤ 2)
def RM (G : Pg) (σ : Sg) (cm st bm : Nat → Int64) : Prop := (∀ v, v < 8 → cm v = lN (σ.1 v)) ∧ (∀ v, v < 8 → st v = lN (σ.2.1 v)) ∧ (∀ v, v < 8 → ∀ i, i < G.1 → bm (3 * v + i) = iL (σ.2.2 v i))
theorem ways_m {G : Pg} {f H : Nat → Int32} (hG : GM G f H) {u w : Nat} (hu : u < 8) {post : Int64 → Prop} (hp : post (lN (wn G.2.2.1 G.2.2.2.1 u w G.1))) : wpX12_ways (nI u) (nI w) f post := by
  obtain ⟨hn, hr, f1, f2, hm, hbd, -⟩ := hG
  unfold wpX12_ways
  refine lp (σ := Int64) (fun m i s => wlX12_ways_5 f post m (nI u) (nI w) s (nI i)) (fun i s => s = lN (wn G.2.2.1 G.2.2.2.1 u w i)) G.1 (fun m s h => ?_) (fun m i s hi h k => ?_) fu 0 _ (by omega) (by unfold fu; omega) rfl
  · subst h
    unfold wlX12_ways_5
    rw [f1]
    exact k1 (nI_le (Nat.le_refl _) (by omega)) hp
  · subst h
    unfold wlX12_ways_5 wjX12_ways_55 wpX12_has
    obtain ⟨m1, m2, m3, m4, m5, m6⟩ := hm i hi
    rw [f1, nI_1, bt_e u hu i (by omega)]
    refine k2 (nI_ge hi (by omega)) (m_odds (by omega) m6 m1 m2 ?_)
    rw [oF_n (hbd i hi).1 (bt_le u i), ten_sub (on_le _ _ _)]
    have o := on_le (G.2.2.1 i) (G.2.2.2.1 i) (btN u i)
    rw [nI_l (by omega), nI_l (by omega), lN_mul, lN_mul]
    refine ⟨fun q => kf' (k _ ?_), fun q => kt' (k _ ?_)⟩
    · rw [wn, show hb (nI w) i = false from decide_eq_false q]
      rfl
    · rw [wn, show hb (nI w) i = true from decide_eq_true q]
      rfl
theorem brought_m {G : Pg} {f H : Nat → Int32} (hG : GM G f H) {u w : Nat} (hu : u < 8) {x : Int64} {cm st bm : Nat → Int64} {post : Unit → (Nat → Int64) → (Nat → Int64) → (Nat → Int64) → Prop} {K69 : Int32 → Int32 → (Nat → Int64) → (Nat → Int64) → (Nat → Int64) → Prop} {K78 : Int32 → Int32 → Int32 → (Nat → Int64) → (Nat → Int64) → (Nat → Int64) → Prop} (hp : ∀ bm' : Nat → Int64, (∀ i, i < G.1 → bm' (3 * u + i) = bm (3 * u + i) + x * iL (bW G i w)) → (∀ j, (∀ i, i < G.1 → j ≠ 3 * u + i) → bm' j = bm j) → K78 (nI G.1) (nI u) (nI (w + 1)) cm st bm') : wlX12_lays_175 f H post K69 K78 fu (nI G.1) (nI u) (nI w) x 0 cm st bm := by
  obtain ⟨hn, hr, f1, f2, hm, hbd, -⟩ := hG
  refine lp (σ := Nat → Int64) (fun m i s => wlX12_lays_175 f H post K69 K78 m (nI G.1) (nI u) (nI w) x (nI i) cm st s) (fun i s => (∀ j, j < i → s (3 * u + j) = bm (3 * u + j) + x * iL (bW G j w)) ∧ ∀ j, (∀ i', i' < i → j ≠ 3 * u + i') → s j = bm j) G.1 (fun m s h => ?_) (fun m i s hi h k => ?_) fu 0 _ (by omega) (by unfold fu; omega) ⟨(fun j hj => absurd hj (Nat.not_lt_zero j)), fun _ _ => rfl⟩
  · unfold wlX12_lays_175 wjX12_lays_220
    rw [nI_1]
    exact k1 (nI_le (Nat.le_refl _) (by omega)) (hp s h.1 h.2)
  · unfold wlX12_lays_175 wpX12_has
    obtain ⟨m1, m2, m3, m4, m5, m6⟩ := hm i hi
    have e3 : (3 : Int32) * nI u + nI i = nI (3 * u + i) := by rw [show (3 : Int32) = nI 3 from rfl, pk_mul, nI_add]
    rw [e3, nI_clamp (show 3 * u + i < 2 ^ 31 by omega), nI_1]
    have v : vp_in (nI (3 * u + i)) 24 := vp_in_nI (by omega) (by decide)
    have bb := bI_b (kd := G.2.2.1 i) (b := hb (nI w) i) (hbd i hi).2.1 (hbd i hi).2.2
    have fin : ∀ b : Bool, hb (nI w) i = b → wpX12_brings (nI i) b f (fun r3 => vp_in (nI (3 * u + i)) 24 ∧ wlX12_lays_175 f H post K69 K78 m (nI G.1) (nI u) (nI w) x (nI (i + 1)) cm st (vp_updL s (3 * u + i) (s (3 * u + i) + x * r3.toInt64))) := by
      intro b hb'
      rw [hb'] at bb
      refine m_brings (by omega) m6 m1 m3 m4 ⟨v, k _ ⟨fun j hj => ?_, fun j hj => ?_⟩⟩
      · by_cases e : j = i
        · subst e
          rw [updL_s, h.2 (3 * u + j) (fun i' hi' => by omega), bF_j (hbd j hi).2.1 (hbd j hi).2.2, jI_L (by omega) (by omega)]
          unfold bW
          rw [hb']
        · rw [updL_n (by omega)]
          exact h.1 j (by omega)
      · have := hj i (by omega)
        rw [updL_n this]
        exact h.2 j (fun i' hi' => hj i' (by omega))
    exact k2 (nI_ge hi (by omega)) ⟨v, fun q => fin false (decide_eq_false q), fun q => fin true (decide_eq_true q)⟩
theorem lays_m {G : Pg} {f H : Nat → Int32} (hG : GM G f H) {cm st bm : Nat → Int64} {post : Unit → (Nat → Int64) → (Nat → Int64) → (Nat → Int64) → Prop} (hp : ∀ cm' st' bm', RM G (fU G (2 ^ G.1)) cm' st' bm' → post () cm' st' bm') : wpX12_lays f cm st H bm post := by
  obtain ⟨hn, hr, f1, f2, hm, hbd, hH, hh⟩ := id hG
  have h8 : 2 ^ G.1 ≤ 2 ^ 3 := Nat.pow_le_pow_right (by decide) hn
  have inv := fU_inv hn hr (fun i hi => (hbd i hi).2)
  have e2 : (1 : Int32) <<< (nI G.1 &&& 31) = nI (2 ^ G.1) := sh1 G.1 (by omega)
  unfold wpX12_lays
  rw [f1]
  -- the first loop: all is 0
  refine lp (σ := (Nat → Int64) × (Nat → Int64) × (Nat → Int64)) (fun m u s => wlX12_lays_9 f H post m (nI G.1) (nI u) s.1 s.2.1 s.2.2) (fun u s => (∀ v, v < u → s.1 v = lN ((fU G 0).1 v) ∧ s.2.1 v = 0) ∧ (∀ v i, v < u → i < 3 → s.2.2 (3 * v + i) = 0)) 8 (fun m s h => ?_) (fun m u s hu h k => ?_) fu 0 (cm, st, bm) (by decide) (by decide) ⟨(fun v hv => absurd hv (Nat.not_lt_zero v)), fun v i hv => absurd hv (Nat.not_lt_zero v)⟩
  · unfold wlX12_lays_9
    refine k1 (nI_le (a := 8) (Nat.le_refl _) (by decide)) ?_
    -- the sets
    refine lp (σ := (Nat → Int64) × (Nat → Int64) × (Nat → Int64)) (fun m u s => wlX12_lays_69 f H post m (nI G.1) (nI u) s.1 s.2.1 s.2.2) (fun u s => RM G (fU G u) s.1 s.2.1 s.2.2) (2 ^ G.1) (fun m s h => ?_) (fun m u s hu h k => ?_) fu 0 s (Nat.zero_le _) (by unfold fu; omega) ⟨fun v hv => (h.1 v hv).1, fun v hv => (h.1 v hv).2, fun v hv i hi => h.2 v i hv (by omega)⟩
    · unfold wlX12_lays_69
      rw [e2]
      exact k1 (nI_le (Nat.le_refl _) (by omega)) (hp _ _ _ h)
    · unfold wlX12_lays_69
      rw [e2]
      refine k2 (nI_ge hu (by omega)) ?_
      obtain ⟨hJ, hM⟩ := inv u (by omega)
      rw [M_step (by omega)] at hM
      have hX : (fU G u).1 u ≤ 10 ^ 12 := by
        have : (fU G u).1 u * 1 ≤ (fU G u).1 u * 10 ^ (12 - G.1 * pc8 u) := Nat.mul_le_mul_left _ (Nat.pow_pos (by decide))
        unfold Xg at hM
        omega
      have vu : vp_in (nI u) 8 := vp_in_nI (by omega) (by decide)
      refine lp (σ := (Nat → Int64) × (Nat → Int64) × (Nat → Int64)) (fun m w s => wlX12_lays_78 f H post (wlX12_lays_69 f H post _) m (nI G.1) (nI u) (nI w) s.1 s.2.1 s.2.2) (fun w s => RM G (if (fU G u).1 u = 0 then fU G u else fW G u w (fU G u)) s.1 s.2.1 s.2.2) (2 ^ G.1) (fun m s h => ?_) (fun m w s hw h kk => ?_) fu 0 s (Nat.zero_le _) (by unfold fu; omega) ?_
      · unfold wlX12_lays_78 wjX12_lays_226
        rw [e2, nI_1]
        exact k1 (nI_le (Nat.le_refl _) (by omega)) (k _ h)
      · unfold wlX12_lays_78 wjX12_lays_226 wjX12_lays_220
        rw [e2, nI_1 u, nI_clamp (show u < 2 ^ 31 by omega)]
        refine k2 (nI_ge hw (by omega)) ⟨vu, ?_⟩
        have hcu : s.1 u = lN ((fU G u).1 u) := by
          have := h.1 u (by omega)
          rw [this]
          by_cases e : (fU G u).1 u = 0
          · rw [if_pos e]
          · rw [if_neg e, fW_u]
        rw [hcu]
        by_cases hc0 : (fU G u).1 u = 0
        · rw [if_pos hc0] at h
          refine k1 ((pk_lLE (b := 0) (by omega) (by decide)).mpr (by omega)) (k _ ?_)
          rw [fU, if_pos hc0]
          exact h
        · rw [if_neg hc0] at h
          refine k2 (fun q => ?_) ⟨vu, ways_m hG (by omega) ?_⟩
          · have := (pk_lLE (b := 0) (by omega) (by decide)).mp q
            omega
          rw [f2]
          refine first_m hn f1 hm hH hh ?_
          obtain ⟨r1, r2, r3⟩ := h
          rw [lN_mul]
          have ei : (fU G u).1 u * wn G.2.2.1 G.2.2.2.1 u w G.1 = its G (fW G u w (fU G u)) u w := by
            unfold its
            rw [fW_u]
          rw [ei]
          cases hf : fR G u w with
          | none =>
            have eo : oI (-1000000) (fs (wP G.2.2.2.2.2.2 G.2.2.1 (nI G.2.1 &&& (nI u ^^^ (-1))) (nI w)) G.1 0) = -1000000 := by
              unfold fR at hf
              rw [hf]
              rfl
            rw [eo]
            refine k1 rfl ⟨vu, vu, brought_m hG (by omega) (fun bm' g1 g2 => kk (s.1, vp_updL s.2.1 u (s.2.1 u + lN (its G (fW G u w (fU G u)) u w)), bm') ?_)⟩
            have e : stp G u w (fW G u w (fU G u)) = ((fW G u w (fU G u)).1, ad (fW G u w (fU G u)).2.1 u (its G (fW G u w (fU G u)) u w), fun v i => if v = u ∧ i < G.1 then (fW G u w (fU G u)).2.2 v i + its G (fW G u w (fU G u)) u w * bW G i w else (fW G u w (fU G u)).2.2 v i) := by
              unfold stp
              rw [hf]
            rw [if_neg hc0, fW, e]
            refine ⟨r1, fun v hv => ?_, fun v hv i hi => ?_⟩
            · show vp_updL s.2.1 u _ v = lN (ad _ u _ v)
              unfold ad
              by_cases q : v = u
              · subst q
                rw [updL_s, if_pos rfl, r2 v hv, lN_add]
              · rw [updL_n q, if_neg q, r2 v hv]
            · show bm' (3 * v + i) = iL (if v = u ∧ i < G.1 then _ else _)
              by_cases q : v = u
              · subst q
                rw [g1 i hi, if_pos ⟨rfl, hi⟩, r3 v hv i hi, ← iLN, iL_mul, iL_add]
              · rw [if_neg (fun q2 : v = u ∧ i < G.1 => q q2.1), g2 _ (fun i' hi' => by omega), r3 v hv i hi]
          | some i =>
            obtain ⟨q1, q2, q3, q4⟩ := fR_some hn hr hu hf
            have eo : oI (-1000000) (fs (wP G.2.2.2.2.2.2 G.2.2.1 (nI G.2.1 &&& (nI u ^^^ (-1))) (nI w)) G.1 0) = nI i := by
              unfold fR at hf
              rw [hf]
              rfl
            rw [eo, q2, nI_clamp (show u + 2 ^ i < 2 ^ 31 by omega), nI_1 w]
            have vi : vp_in (nI (u + 2 ^ i)) 8 := vp_in_nI (by omega) (by decide)
            refine k2 (mN_ne (by omega)) ⟨vi, vi, kk (_, _, _) ?_⟩
            have e : stp G u w (fW G u w (fU G u)) = (ad (fW G u w (fU G u)).1 (u + 2 ^ i) (its G (fW G u w (fU G u)) u w), (fW G u w (fU G u)).2.1, (fW G u w (fU G u)).2.2) := by
              unfold stp
              rw [hf]
            rw [if_neg hc0, fW, e]
            refine ⟨fun v hv => ?_, r2, r3⟩
            show vp_updL s.1 (u + 2 ^ i) _ v = lN (ad _ (u + 2 ^ i) _ v)
            unfold ad
            by_cases q : v = u + 2 ^ i
            · rw [if_pos q, q, updL_s, r1 _ (by omega), lN_add]
            · rw [updL_n q, if_neg q, r1 v hv]
      · show RM G (if (fU G u).1 u = 0 then fU G u else fU G u) _ _ _
        rw [ite_self]
        exact h
  · have in3 : ∀ c : Int64, c = lN ((fU G 0).1 u) → wjX12_lays_29 f H post (wlX12_lays_9 f H post m) (nI G.1) (nI u) c (nI u) s.1 s.2.1 s.2.2 := by
      intro c hc
      unfold wjX12_lays_29
      rw [nI_clamp (show u < 2 ^ 31 by omega)]
      refine ⟨vp_in_nI hu (by decide), vp_in_nI hu (by decide), ?_⟩
      refine lp (σ := Nat → Int64) (fun m' i t => wlX12_lays_39 f H post (wlX12_lays_9 f H post m) m' (nI G.1) (nI u) (nI i) (vp_updL s.1 u c) (vp_updL s.2.1 u 0) t) (fun i t => (∀ j, j < i → t (3 * u + j) = 0) ∧ ∀ j, j < 3 * u → t j = s.2.2 j) 3 (fun m' t q => ?_) (fun m' i t hi q kk => ?_) fu 0 s.2.2 (by decide) (by decide) ⟨(fun v hv => absurd hv (Nat.not_lt_zero v)), fun _ _ => rfl⟩
      · unfold wlX12_lays_39
        rw [nI_1]
        refine k1 (nI_le (a := 3) (Nat.le_refl _) (by decide)) (k (_, _, _) ⟨fun v hv => ⟨?_, ?_⟩, fun v i hv hi => ?_⟩)
        · show vp_updL s.1 u c v = _
          by_cases e : v = u
          · rw [e, updL_s, hc]
          · rw [updL_n e]
            exact (h.1 v (by omega)).1
        · show vp_updL s.2.1 u 0 v = 0
          by_cases e : v = u
          · rw [e, updL_s]
          · rw [updL_n e]
            exact (h.1 v (by omega)).2
        · by_cases e : v = u
          · rw [e]
            exact q.1 i hi
          · show t (3 * v + i) = 0
            rw [q.2 _ (by omega)]
            exact h.2 v i (by omega) hi
      · unfold wlX12_lays_39
        have e3 : (3 : Int32) * nI u + nI i = nI (3 * u + i) := by rw [show (3 : Int32) = nI 3 from rfl, pk_mul, nI_add]
        rw [e3, nI_clamp (show 3 * u + i < 2 ^ 31 by omega), nI_1 i]
        refine k2 (nI_ge (b := 3) hi (by decide)) ⟨vp_in_nI (by omega) (by decide), kk _ ⟨fun j hj => ?_, fun j hj => ?_⟩⟩
        · by_cases e : j = i
          · rw [e, updL_s]
          · rw [updL_n (by omega)]
            exact q.1 j (by omega)
        · rw [updL_n (by omega)]
          exact q.2 j hj
    unfold wlX12_lays_9
    refine k2 (nI_ge (b := 8) hu (by decide)) ⟨fun q => in3 0 ?_, fun q => in3 1 ?_⟩
    · have : u ≠ 0 := fun e => q (by rw [e]; rfl)
      show _ = lN (if u = 0 then 1 else 0)
      rw [if_neg this]
      rfl
    · have : u = 0 := (nI_eq (b := 0) (by omega) (by decide)).mp q
      show _ = lN (if u = 0 then 1 else 0)
      rw [if_pos this]
      rfl
