-- the class tells
def GC (G : Pg) (pe : Pe) (people : Nat → Option Nat) (A : Nat → Nat) (H : Nat → Int32) : Prop := G.1 ≤ 3 ∧ G.2.1 < 8 ∧ PCl pe people G.1 A G.2.2.1 G.2.2.2.1 G.2.2.2.2.1 G.2.2.2.2.2.1 ∧ (∀ i, i < G.1 → G.2.2.2.1 i ≤ 10 ∧ G.2.2.2.2.1 i ≤ 99 ∧ G.2.2.2.2.2.1 i ≤ 99) ∧ (∀ i, i < G.1 → H i = nI (G.2.2.2.2.2.2 i)) ∧ (∀ i, i < G.1 → G.2.2.2.2.2.2 i ≤ 2)
def RC (G : Pg) (σ : Sg) (rc bl br : Nat → Int64) : Prop := (∀ v, v < 8 → rc v = lN (Xg G σ v)) ∧ (∀ k, k < 5 → bl k = lN (s8 (fun v => if pc8 v + 1 = k then Yg G σ v else 0))) ∧ (∀ i, i < G.1 → br i = iL (z8 (fun v => σ.2.2 v i * 10 ^ (12 - G.1 * (pc8 v + 1)))))
theorem bcN : ∀ u, u < 8 → wpJ6_bitCount_0f7a4 (nI u) (fun x => x = nI (pc8 u)) := by
  unfold wpJ6_bitCount_0f7a4 pc8
  decide +kernel
theorem bc_c {u : Nat} (hu : u < 8) {post : Int32 → Prop} (hp : post (nI (pc8 u))) : wpJ6_bitCount_0f7a4 (nI u) post := by
  have h := bcN u hu
  unfold wpJ6_bitCount_0f7a4 at h ⊢
  rw [h]
  exact hp
theorem updL_s {f : Nat → Int64} {k : Nat} {x : Int64} : vp_updL f k x k = x := if_pos rfl
theorem updL_n {f : Nat → Int64} {k j : Nat} {x : Int64} (h : j ≠ k) : vp_updL f k x j = f j := if_neg h
theorem pa_in {pe : Pe} {people : Nat → Option Nat} {n i : Nat} {A kd ch ga lo : Nat → Nat} (hn : n ≤ 3) (hc : PCl pe people n A kd ch ga lo) (hi : i < n) {post : Option Nat → Prop} (hp : post (some (A i))) : wpX9_personAt (nI i) (nI n) people pe post := by
  unfold wpX9_personAt
  refine k2 (nI_pos (by omega)) (k1 (nI_lt hi (by omega)) ⟨vp_in_nI (by omega) (by decide), ?_⟩)
  rw [nI_clamp (by omega), (hc i hi).1]
  exact ks ⟨(hc i hi).2.1, hp⟩
theorem pa_out {pe : Pe} {people : Nat → Option Nat} {n i : Nat} (hi : n ≤ i) (hi3 : i < 3) {post : Option Nat → Prop} (hp : post none) : wpX9_personAt (nI i) (nI n) people pe post := by
  unfold wpX9_personAt wjX9_personAt_12
  exact k2 (nI_pos (by omega)) (k2 (nI_nlt hi (by omega)) hp)
theorem ways_c {G : Pg} {pe : Pe} {people : Nat → Option Nat} {A : Nat → Nat} {H : Nat → Int32} (hG : GC G pe people A H) {u w : Nat} (hu : u < 8) {post : Int64 → Prop} (hp : post (lN (wa G.1 G.2.2.1 G.2.2.2.1 u w 3))) : wpX1_waysOfAll (nI u) (nI w) (nI G.1) people pe post := by
  obtain ⟨hn, hr, hc, hbd, -⟩ := hG
  unfold wpX1_waysOfAll
  refine lp (σ := Int64) (fun m i s => wlX1_waysOfAll_6 (nI G.1) people pe post m (nI u) (nI w) s (nI i)) (fun i s => s = lN (wa G.1 G.2.2.1 G.2.2.2.1 u w i)) 3 (fun m s h => ?_) (fun m i s hi h k => ?_) fu 0 _ (by decide) (by decide) rfl
  · subst h
    unfold wlX1_waysOfAll_6
    exact k1 (nI_le (a := 3) (Nat.le_refl _) (by decide)) hp
  · subst h
    unfold wlX1_waysOfAll_6 wjX1_waysOfAll_35n wjX1_waysOfAll_35 wjX1_waysOfAll_78 wjX1_waysOfAll_81
    refine k2 (nI_ge (b := 3) hi (by decide)) ?_
    rw [nI_1]
    by_cases hin : i < G.1
    · refine pa_in hn hc hin (ks ⟨(hc i hin).2.1, ?_⟩)
      obtain ⟨p1, p2, p3, p4, p5⟩ := hc i hin
      rw [p3, bt_e u hu i hi]
      have fin : ∀ b : Bool, hb (nI w) i = b → wv_waysToGo (nI (btN u i)) b (G.2.2.1 i, nI i, nI (G.2.2.2.1 i), nI (G.2.2.2.2.1 i), nI (G.2.2.2.2.2.1 i)) (fun r1 => wlX1_waysOfAll_6 (nI G.1) people pe post m (nI u) (nI w) (lN (wa G.1 G.2.2.1 G.2.2.2.1 u w i) * r1.toInt64) (nI (i + 1))) := by
        intro b hb'
        refine v_ways p4 p5 ?_
        have y := wy_le (G.2.2.1 i) (G.2.2.2.1 i) (btN u i) b
        rw [wy_n (hbd i hin).1 (bt_le u i), nI_l (by omega), lN_mul]
        refine k _ ?_
        rw [wa, if_pos hin, hb']
      exact ⟨fun q => fin false (decide_eq_false q), fun q => fin true (decide_eq_true q)⟩
    · refine pa_out (by omega) hi (kn ⟨fun q => kf' (k _ ?_), fun q => kt' (k _ ?_)⟩)
      · rw [wa, if_neg hin, show hb (nI w) i = false from decide_eq_false q, show (10 : Int64) = lN 10 from rfl, lN_mul]
        rfl
      · rw [wa, if_neg hin, show hb (nI w) i = true from decide_eq_true q, show (0 : Int64) = lN 0 from rfl, lN_mul]
        rfl
theorem brought_c {G : Pg} {pe : Pe} {people : Nat → Option Nat} {A : Nat → Nat} {H : Nat → Int32} (hG : GC G pe people A H) {w : Nat} {x : Int64} {ri : Int32} {bl rc br : Nat → Int64} {post : Unit → (Nat → Int64) → (Nat → Int64) → (Nat → Int64) → Prop} (hp : ∀ br' : Nat → Int64, (∀ i, i < G.1 → br' i = br i + x * iL (bW G i w)) → post () bl rc br') : wlX1_endDay_60 (nI G.1) ri H people pe post fu (nI w) x 0 bl rc br := by
  obtain ⟨hn, hr, hc, hbd, -⟩ := hG
  refine lp (σ := Nat → Int64) (fun m i s => wlX1_endDay_60 (nI G.1) ri H people pe post m (nI w) x (nI i) bl rc s) (fun i s => (∀ j, j < i → s j = br j + x * iL (bW G j w)) ∧ ∀ j, i ≤ j → s j = br j) G.1 (fun m s h => ?_) (fun m i s hi h k => ?_) fu 0 _ (by omega) (by unfold fu; omega) ⟨(fun j hj => absurd hj (Nat.not_lt_zero j)), fun _ _ => rfl⟩
  · unfold wlX1_endDay_60
    exact k1 (nI_le (Nat.le_refl _) (by omega)) (hp s h.1)
  · unfold wlX1_endDay_60 wjX1_endDay_109 wjX1_endDay_116
    obtain ⟨p1, p2, p3, p4, p5⟩ := hc i hi
    have v3 : vp_in (nI i) 3 := vp_in_nI (by omega) (by decide)
    refine k2 (nI_ge hi (by omega)) (pa_in hn hc hi (ks ⟨p2, v3, ?_⟩))
    rw [p3, nI_clamp (show i < 2 ^ 31 by omega), nI_1]
    have bb := bI_b (kd := G.2.2.1 i) (b := hb (nI w) i) (hbd i hi).2.1 (hbd i hi).2.2
    have fin : ∀ b : Bool, hb (nI w) i = b → wv_bringsBy b (G.2.2.1 i, nI i, nI (G.2.2.2.1 i), nI (G.2.2.2.2.1 i), nI (G.2.2.2.2.2.1 i)) (fun r1 => vp_in (nI i) 3 ∧ wlX1_endDay_60 (nI G.1) ri H people pe post m (nI w) x (nI (i + 1)) bl rc (vp_updL s i (s i + x * r1.toInt64))) := by
      intro b hb'
      rw [hb'] at bb
      refine v_brings p4 p5 ⟨v3, k _ ⟨fun j hj => ?_, fun j hj => ?_⟩⟩
      · by_cases e : j = i
        · subst e
          rw [updL_s, h.2 j (Nat.le_refl _), bF_j (hbd j hi).2.1 (hbd j hi).2.2, jI_L (by omega) (by omega)]
          unfold bW
          rw [hb']
        · rw [updL_n e]
          exact h.1 j (by omega)
      · rw [updL_n (by omega)]
        exact h.2 j (by omega)
    exact ⟨fun q => fin false (decide_eq_false q), fun q => fin true (decide_eq_true q)⟩
/-- what the end of a day does, by whom -/
theorem end_c {G : Pg} {pe : Pe} {people : Nat → Option Nat} {A : Nat → Nat} {H : Nat → Int32} (hG : GC G pe people A H) {u w : Nat} (hu : u < 2 ^ G.1) {x : Int64} {bl rc br : Nat → Int64} {post : Unit → (Nat → Int64) → (Nat → Int64) → (Nat → Int64) → Prop}
    (h0 : fR G u w = none → ∀ br' : Nat → Int64, (∀ i, i < G.1 → br' i = br i + x * iL (bW G i w)) → post () (vp_updL bl (pc8 u + 1) (bl (pc8 u + 1) + x)) rc br')
    (h1 : ∀ i, fR G u w = some i → post () bl (vp_updL rc (u + 2 ^ i) (rc (u + 2 ^ i) + x)) br) : wpX1_endDay (nI u) (nI w) x (nI G.1) (nI G.2.1) H people bl rc br pe post := by
  obtain ⟨hn, hr, hc, hb, hH, hh⟩ := id hG
  have h8 : 2 ^ G.1 ≤ 2 ^ 3 := Nat.pow_le_pow_right (by decide) hn
  unfold wpX1_endDay
  refine first_c hn hc hH hh ?_
  cases h : fR G u w with
  | none =>
    have : oI (-1) (fs (wP G.2.2.2.2.2.2 G.2.2.1 (nI G.2.1 &&& (nI u ^^^ (-1))) (nI w)) G.1 0) = -1 := by
      unfold fR at h
      rw [h]
      rfl
    rw [this]
    have p3 := pc_3 u
    refine k1 (by decide) (bc_c (by omega) ?_)
    rw [nI_1, nI_clamp (by omega)]
    exact ⟨vp_in_nI (by omega) (by decide), vp_in_nI (by omega) (by decide), brought_c hG (fun br' g => h0 h br' g)⟩
  | some i =>
    obtain ⟨f1, f2, f3, f4⟩ := fR_some hn hr hu h
    have : oI (-1) (fs (wP G.2.2.2.2.2.2 G.2.2.1 (nI G.2.1 &&& (nI u ^^^ (-1))) (nI w)) G.1 0) = nI i := by
      unfold fR at h
      rw [h]
      rfl
    rw [this]
    refine k2 (nI_pos (by omega)) ?_
    rw [f2, nI_clamp (by omega)]
    exact ⟨vp_in_nI (by omega) (by decide), vp_in_nI (by omega) (by decide), h1 i h⟩
theorem iLN {n : Nat} : iL (n : Int) = lN n := by
  unfold iL lN
  rfl
theorem rc_step {G : Pg} {pe : Pe} {people : Nat → Option Nat} {A : Nat → Nat} {H : Nat → Int32} (hG : GC G pe people A H) {u w : Nat} (hu : u < 2 ^ G.1) {σ : Sg} {bl rc br : Nat → Int64} (hR : RC G σ rc bl br) {x : Int64} (hx : x = lN (its G σ u w * 10 ^ (12 - G.1 * (pc8 u + 1)))) {post : Unit → (Nat → Int64) → (Nat → Int64) → (Nat → Int64) → Prop} (hp : ∀ bl' rc' br', RC G (stp G u w σ) rc' bl' br' → post () bl' rc' br') : wpX1_endDay (nI u) (nI w) x (nI G.1) (nI G.2.1) H people bl rc br pe post := by
  obtain ⟨hn, hr, -⟩ := id hG
  have h8 : 2 ^ G.1 ≤ 2 ^ 3 := Nat.pow_le_pow_right (by decide) hn
  obtain ⟨r1, r2, r3⟩ := hR
  refine end_c hG hu (fun h br' g => hp _ _ _ ?_) (fun i h => hp _ _ _ ?_)
  · have e : stp G u w σ = (σ.1, ad σ.2.1 u (its G σ u w), fun v i => if v = u ∧ i < G.1 then σ.2.2 v i + its G σ u w * bW G i w else σ.2.2 v i) := by
      unfold stp
      rw [h]
    have eY : ∀ v, Yg G (stp G u w σ) v = ad (Yg G σ) u (its G σ u w * 10 ^ (12 - G.1 * (pc8 u + 1))) v := fun v => by
      rw [e]
      show ad σ.2.1 u (its G σ u w) v * _ = ad (Yg G σ) u _ v
      unfold ad Yg
      by_cases q : v = u
      · rw [if_pos q, if_pos q, Nat.add_mul, q]
      · rw [if_neg q, if_neg q]
    refine ⟨fun v hv => by rw [r1 v hv, e]; rfl, fun k hk => ?_, fun i hi => ?_⟩
    · by_cases q : k = pc8 u + 1
      · subst q
        rw [updL_s, r2 _ hk, hx, lN_add]
        congr 1
        rw [← s8_ad (k := u) (by omega)]
        refine s8_c (fun v hv => ?_)
        rw [eY]
        unfold ad
        by_cases q : v = u
        · rw [q, if_pos rfl, if_pos rfl, if_pos rfl]
          dsimp only
          rw [if_pos rfl]
        · rw [if_neg q, if_neg q]
      · rw [updL_n q, r2 k hk]
        congr 1
        refine s8_c (fun v hv => ?_)
        rw [eY]
        unfold ad
        by_cases q2 : v = u
        · rw [if_neg (by rw [q2]; omega), if_neg (by rw [q2]; omega)]
        · rw [if_neg q2]
    · rw [g i hi, r3 i hi, hx, ← iLN, iL_mul, iL_add]
      congr 1
      rw [← z8_az (k := u) (by omega)]
      refine z8_c (fun v hv => ?_)
      rw [e]
      dsimp only
      unfold az
      by_cases q : v = u
      · rw [if_pos q, if_pos ⟨q, hi⟩, q, Int.add_mul]
        push_cast
        rw [Int.mul_assoc, Int.mul_assoc, Int.mul_comm (bW G i w)]
      · rw [if_neg q, if_neg (fun q2 : v = u ∧ i < G.1 => q q2.1)]
  · obtain ⟨f1, f2, f3, f4⟩ := fR_some hn hr hu h
    have e : stp G u w σ = (ad σ.1 (u + 2 ^ i) (its G σ u w), σ.2.1, σ.2.2) := by
      unfold stp
      rw [h]
    refine ⟨fun v hv => ?_, fun k hk => by rw [r2 k hk, e]; rfl, fun i hi => by rw [r3 i hi, e]⟩
    have eX : Xg G (stp G u w σ) v = ad (Xg G σ) (u + 2 ^ i) (its G σ u w * 10 ^ (12 - G.1 * (pc8 u + 1))) v := by
      rw [e]
      show ad σ.1 (u + 2 ^ i) (its G σ u w) v * _ = ad (Xg G σ) (u + 2 ^ i) _ v
      unfold ad Xg
      by_cases q : v = u + 2 ^ i
      · rw [if_pos q, if_pos q, Nat.add_mul, q, f4]
      · rw [if_neg q, if_neg q]
    rw [eX]
    unfold ad
    by_cases q : v = u + 2 ^ i
    · rw [if_pos q, q, updL_s, r1 _ (by omega), hx, lN_add]
    · rw [if_neg q, updL_n q, r1 v hv]
theorem rc_null {G : Pg} {pe : Pe} {people : Nat → Option Nat} {A : Nat → Nat} {H : Nat → Int32} (hG : GC G pe people A H) {u w : Nat} (hu : u < 2 ^ G.1) {σ : Sg} {bl rc br : Nat → Int64} (hR : RC G σ rc bl br) {x : Int64} (hx : x = 0) {post : Unit → (Nat → Int64) → (Nat → Int64) → (Nat → Int64) → Prop} (hp : ∀ bl' rc' br', RC G σ rc' bl' br' → post () bl' rc' br') : wpX1_endDay (nI u) (nI w) x (nI G.1) (nI G.2.1) H people bl rc br pe post := by
  obtain ⟨r1, r2, r3⟩ := hR
  subst hx
  refine end_c hG hu (fun h br' g => hp _ _ _ ⟨r1, fun k hk => ?_, fun i hi => ?_⟩) (fun i h => hp _ _ _ ⟨fun v hv => ?_, r2, r3⟩)
  · by_cases q : k = pc8 u + 1
    · subst q
      rw [updL_s, Int64.add_zero]
      exact r2 _ hk
    · rw [updL_n q]
      exact r2 k hk
  · rw [g i hi, Int64.zero_mul, Int64.add_zero]
    exact r3 i hi
  · by_cases q : v = u + 2 ^ i
    · subst q
      rw [updL_s, Int64.add_zero]
      exact r1 _ hv
    · rw [updL_n q]
      exact r1 v hv
theorem e_div {G : Pg} (hn : G.1 ≤ 3) {u c : Nat} (hu : u < 2 ^ G.1) (hb : c * 10 ^ (12 - G.1 * pc8 u) ≤ 10 ^ 12) : lN (c * 10 ^ (12 - G.1 * pc8 u)) / 1000 = lN (c * 10 ^ (9 - G.1 * pc8 u)) ∧ c * 10 ^ (9 - G.1 * pc8 u) ≤ 10 ^ 12 := by
  have h9 : G.1 * pc8 u ≤ 9 := Nat.le_trans (Nat.mul_le_mul hn (pc_3 u)) (by decide)
  have e : c * 10 ^ (12 - G.1 * pc8 u) = c * 10 ^ (9 - G.1 * pc8 u) * 1000 := by
    rw [Nat.mul_assoc, show (1000 : Nat) = 10 ^ 3 from rfl, ← Nat.pow_add]
    congr 2
    omega
  rw [e] at hb ⊢
  refine ⟨?_, by omega⟩
  rw [show (1000 : Int64) = lN 1000 from rfl, pk_lDiv (by omega) (by decide) (by decide), Nat.mul_div_cancel _ (by decide)]
theorem weight_e {G : Pg} (hn : G.1 ≤ 3) {σ : Sg} {u w : Nat} (hw : w < 2 ^ G.1) : lN (σ.1 u * 10 ^ (9 - G.1 * pc8 u)) * lN (wa G.1 G.2.2.1 G.2.2.2.1 u w 3) = lN (its G σ u w * 10 ^ (12 - G.1 * (pc8 u + 1))) := by
  have h9 : G.1 * pc8 u ≤ 9 := Nat.le_trans (Nat.mul_le_mul hn (pc_3 u)) (by decide)
  rw [wa_in hn hw, lN_mul]
  congr 1
  unfold its
  rw [Nat.mul_assoc, Nat.mul_left_comm (10 ^ (9 - G.1 * pc8 u)), ← Nat.pow_add, Nat.mul_assoc]
  congr 3
  have e2 : G.1 * (pc8 u + 1) = G.1 * pc8 u + G.1 := by rw [Nat.mul_add, Nat.mul_one]
  omega
theorem tell_c {G : Pg} {pe : Pe} {people : Nat → Option Nat} {A : Nat → Nat} {H : Nat → Int32} (hG : GC G pe people A H) {bl br rc : Nat → Int64} {post : Unit → (Nat → Int64) → (Nat → Int64) → (Nat → Int64) → Prop} (hp : ∀ bl' br' rc', RC G (fU G (2 ^ G.1)) rc' bl' br' → post () bl' br' rc') : wpX1_tell (nI G.1) (nI G.2.1) bl br rc people H pe post := by
  obtain ⟨hn, hr, hc, hbd, -⟩ := id hG
  have h8 : 2 ^ G.1 ≤ 2 ^ 3 := Nat.pow_le_pow_right (by decide) hn
  have inv := fU_inv hn hr (fun i hi => (hbd i hi).2)
  unfold wpX1_tell wp_fillL
  refine lp (σ := (Nat → Int64) × (Nat → Int64) × (Nat → Int64)) (fun m u s => wlX1_tell_35 (nI G.1) (nI G.2.1) people H pe post m (nI u) s.1 s.2.1 s.2.2) (fun u s => RC G (fU G (min u (2 ^ G.1))) s.2.2 s.1 s.2.1) 8 (fun m s h => ?_) (fun m u s hu h k => ?_) fu 0 (_, _, _) (by decide) (by decide) ?_
  · unfold wlX1_tell_35
    rw [Nat.min_eq_right (by omega)] at h
    exact k1 (nI_le (a := 8) (Nat.le_refl _) (by decide)) (hp _ _ _ h)
  · unfold wlX1_tell_35
    refine k2 (nI_ge (b := 8) hu (by decide)) ⟨vp_in_nI hu (by decide), ?_⟩
    rw [nI_clamp (show u < 2 ^ 31 by omega), h.1 u hu]
    have z0 : lN 0 / 1000 = lN 0 := by
      rw [show (1000 : Int64) = lN 1000 from rfl, pk_lDiv (by decide) (by decide) (by decide)]
    by_cases hun : u < 2 ^ G.1
    · rw [Nat.min_eq_left (by omega)] at h ⊢
      obtain ⟨hJ, hM⟩ := inv u (by omega)
      rw [M_step (by omega)] at hM
      have hX : (fU G u).1 u * 10 ^ (12 - G.1 * pc8 u) ≤ 10 ^ 12 := by
        unfold Xg at hM
        omega
      obtain ⟨d1, d2⟩ := e_div hn hun hX
      by_cases hc0 : (fU G u).1 u = 0
      · unfold Xg
        rw [hc0, Nat.zero_mul, z0]
        unfold wlX1_tell_55 wjX1_tell_92
        refine k2 (by decide) (k1 (by decide) ?_)
        rw [nI_1]
        refine k _ ?_
        rw [Nat.min_eq_left (by omega), fU, if_pos hc0]
        exact h
      · unfold Xg
        rw [d1]
        have epos : 0 < (fU G u).1 u * 10 ^ (9 - G.1 * pc8 u) := Nat.mul_pos (by omega) (Nat.pow_pos (by decide))
        refine lp (σ := (Nat → Int64) × (Nat → Int64) × (Nat → Int64)) (fun m w s => wlX1_tell_55 (nI G.1) (nI G.2.1) people H pe post (wlX1_tell_35 (nI G.1) (nI G.2.1) people H pe post _) m (nI u) (lN ((fU G u).1 u * 10 ^ (9 - G.1 * pc8 u))) (nI w) s.1 s.2.1 s.2.2) (fun w s => RC G (fW G u (min w (2 ^ G.1)) (fU G u)) s.2.2 s.1 s.2.1) 8 (fun m s h => ?_) (fun m w s hw h kk => ?_) fu 0 (_, _, _) (by decide) (by decide) ?_
        · unfold wlX1_tell_55 wjX1_tell_92
          rw [Nat.min_eq_right (by omega)] at h
          refine k1 (nI_le (a := 8) (Nat.le_refl _) (by decide)) ?_
          rw [nI_1]
          refine k _ ?_
          rw [Nat.min_eq_left (by omega), fU, if_neg hc0]
          exact h
        · unfold wlX1_tell_55
          refine k2 (nI_ge (b := 8) hw (by decide)) (k2 (fun q => ?_) (ways_c hG (by omega) ?_))
          · have := (pk_lLE (b := 0) (by omega) (by decide)).mp q
            omega
          rw [nI_1]
          by_cases hwn : w < 2 ^ G.1
          · rw [Nat.min_eq_left (by omega)] at h
            refine rc_step (w := w) hG hun h ?_ (fun bl' rc' br' hR => kk (bl', br', rc') ?_)
            · rw [weight_e hn hwn]
              unfold its
              rw [fW_u]
            · rw [Nat.min_eq_left (by omega)]
              exact hR
          · rw [Nat.min_eq_right (by omega)] at h
            refine rc_null hG hun h ?_ (fun bl' rc' br' hR => kk (bl', br', rc') ?_)
            · rw [wa_out hn hw (by omega), show lN 0 = (0 : Int64) from rfl, Int64.mul_zero]
            · rw [Nat.min_eq_right (by omega)]
              exact hR
        · rw [Nat.min_eq_left (Nat.zero_le _)]
          exact h
    · rw [Nat.min_eq_right (by omega)] at h ⊢
      obtain ⟨hJ, -⟩ := inv (2 ^ G.1) (Nat.le_refl _)
      unfold Xg
      rw [(hJ.1 u (by omega)).1, Nat.zero_mul, z0]
      unfold wlX1_tell_55 wjX1_tell_92
      refine k2 (by decide) (k1 (by decide) ?_)
      rw [nI_1]
      refine k _ ?_
      rw [Nat.min_eq_right (by omega)]
      exact h
  · rw [Nat.min_eq_left (Nat.zero_le _)]
    refine ⟨fun v hv => ?_, fun k hk => ?_, fun i hi => ?_⟩
    · show vp_updL (fl 8 0 rc) 0 1000000000000 v = _
      unfold Xg fU
      by_cases e : v = 0
      · subst e
        rw [updL_s]
        show _ = lN ((if 0 = 0 then 1 else 0) * _)
        rw [if_pos rfl, show pc8 0 = 0 from rfl, Nat.mul_zero, Nat.one_mul]
        exact congrArg Int64.ofNat (show 1000000000000 = 10 ^ (12 - 0) by decide)
      · rw [updL_n e]
        show fl 8 0 rc v = lN ((if v = 0 then 1 else 0) * _)
        rw [if_neg e, Nat.zero_mul]
        exact if_pos hv
    · show fl 5 0 bl k = _
      rw [show fl 5 0 bl k = 0 from if_pos hk]
      have : s8 (fun v => if pc8 v + 1 = k then Yg G (fU G 0) v else 0) = s8 (fun _ => 0) := s8_c (fun v hv => by
        unfold Yg fU
        dsimp only
        rw [Nat.zero_mul]
        exact ite_self 0)
      rw [this]
      rfl
    · show fl 3 0 br i = _
      rw [show fl 3 0 br i = 0 from if_pos (by omega)]
      have : z8 (fun v => (fU G 0).2.2 v i * 10 ^ (12 - G.1 * (pc8 v + 1))) = z8 (fun _ => 0) := z8_c (fun v hv => by
        unfold fU
        dsimp only
        rw [Int.zero_mul])
      rw [this]
      rfl
