-- means, by class and by reference
def zS (f : Nat → Int) : Nat → Int
  | 0 => 0
  | k + 1 => zS f k + f k
def mu (G : Pg) (i : Nat) : Int := zS (fun v => (fU G (2 ^ G.1)).2.2 v i * 10 ^ (G.1 * (3 - pc8 v))) (2 ^ G.1)
def cZ (G : Pg) : Nat := 10 ^ (12 - 4 * G.1)
theorem z8_S {n : Nat} (hn : n ≤ 3) {c : Int} {F g : Nat → Int} (h1 : ∀ v, v < 2 ^ n → F v = c * g v) (h2 : ∀ v, 2 ^ n ≤ v → F v = 0) : z8 F = c * zS g (2 ^ n) := by
  have hc : n = 0 ∨ n = 1 ∨ n = 2 ∨ n = 3 := by omega
  unfold z8
  rcases hc with rfl | rfl | rfl | rfl
  · rw [h1 0 (by decide), h2 1 (by decide), h2 2 (by decide), h2 3 (by decide), h2 4 (by decide), h2 5 (by decide), h2 6 (by decide), h2 7 (by decide)]
    show _ = c * (0 + g 0)
    rw [Int.zero_add]
    omega
  · rw [h1 0 (by decide), h1 1 (by decide), h2 2 (by decide), h2 3 (by decide), h2 4 (by decide), h2 5 (by decide), h2 6 (by decide), h2 7 (by decide)]
    show _ = c * (0 + g 0 + g 1)
    rw [Int.zero_add, Int.mul_add]
    omega
  · rw [h1 0 (by decide), h1 1 (by decide), h1 2 (by decide), h1 3 (by decide), h2 4 (by decide), h2 5 (by decide), h2 6 (by decide), h2 7 (by decide)]
    show _ = c * (0 + g 0 + g 1 + g 2 + g 3)
    rw [Int.zero_add, Int.mul_add, Int.mul_add, Int.mul_add]
    omega
  · rw [h1 0 (by decide), h1 1 (by decide), h1 2 (by decide), h1 3 (by decide), h1 4 (by decide), h1 5 (by decide), h1 6 (by decide), h1 7 (by decide)]
    show _ = c * (0 + g 0 + g 1 + g 2 + g 3 + g 4 + g 5 + g 6 + g 7)
    rw [Int.zero_add, Int.mul_add, Int.mul_add, Int.mul_add, Int.mul_add, Int.mul_add, Int.mul_add, Int.mul_add]
theorem fU_fin {G : Pg} (hn : G.1 ≤ 3) (hr : G.2.1 < 8) (hb : ∀ i, i < G.1 → G.2.2.2.2.1 i ≤ 99 ∧ G.2.2.2.2.2.1 i ≤ 99) : Jg G (fU G (2 ^ G.1)) ∧ s8 (Yg G (fU G (2 ^ G.1))) ≤ 10 ^ 12 := by
  obtain ⟨h1, h2⟩ := fU_inv hn hr hb (2 ^ G.1) (Nat.le_refl _)
  refine ⟨h1, ?_⟩
  unfold Mg at h2
  omega
theorem z8_b {F : Nat → Int} {Y : Nat → Nat} (h : ∀ v, v < 8 → -(198 * (Y v : Int)) ≤ F v ∧ F v ≤ 198 * (Y v : Int)) : -(198 * (s8 Y : Int)) ≤ z8 F ∧ z8 F ≤ 198 * (s8 Y : Int) := by
  have a0 := h 0 (by decide)
  have a1 := h 1 (by decide)
  have a2 := h 2 (by decide)
  have a3 := h 3 (by decide)
  have a4 := h 4 (by decide)
  have a5 := h 5 (by decide)
  have a6 := h 6 (by decide)
  have a7 := h 7 (by decide)
  unfold z8 s8
  push_cast
  omega
theorem mean_e {G : Pg} (hn : G.1 ≤ 3) (hr : G.2.1 < 8) (hb : ∀ i, i < G.1 → G.2.2.2.2.1 i ≤ 99 ∧ G.2.2.2.2.2.1 i ≤ 99) {i : Nat} (hi : i < G.1) : z8 (fun v => (fU G (2 ^ G.1)).2.2 v i * 10 ^ (12 - G.1 * (pc8 v + 1))) = (cZ G : Int) * mu G i ∧ -(198 * 10 ^ 12) ≤ (cZ G : Int) * mu G i ∧ (cZ G : Int) * mu G i ≤ 198 * 10 ^ 12 := by
  obtain ⟨⟨j1, j3⟩, hY⟩ := fU_fin hn hr hb
  have e : z8 (fun v => (fU G (2 ^ G.1)).2.2 v i * 10 ^ (12 - G.1 * (pc8 v + 1))) = (cZ G : Int) * mu G i := by
    refine z8_S hn (fun v hv => ?_) (fun v hv => ?_)
    · have p := pc_3 v
      have e1 : G.1 * (pc8 v + 1) = G.1 * pc8 v + G.1 := by rw [Nat.mul_add, Nat.mul_one]
      have e2 : G.1 * (3 - pc8 v) = G.1 * 3 - G.1 * pc8 v := Nat.mul_sub G.1 3 (pc8 v)
      have e3 : G.1 * pc8 v ≤ G.1 * 3 := Nat.mul_le_mul_left _ p
      unfold cZ
      push_cast
      rw [show 12 - G.1 * (pc8 v + 1) = (12 - 4 * G.1) + G.1 * (3 - pc8 v) by omega, Int.pow_add, Int.mul_left_comm]
    · have := j3 v i hi
      have z := (j1 v hv).2
      rw [z] at this
      have : (fU G (2 ^ G.1)).2.2 v i = 0 := by
        have t1 := this.1
        have t2 := this.2
        simp at t1 t2
        omega
      show (fU G (2 ^ G.1)).2.2 v i * _ = 0
      rw [this, Int.zero_mul]
  have bnd := z8_b (F := fun v => (fU G (2 ^ G.1)).2.2 v i * 10 ^ (12 - G.1 * (pc8 v + 1))) (Y := Yg G (fU G (2 ^ G.1))) (fun v hv => by
    have q := j3 v i hi
    have pp : (0 : Int) ≤ 10 ^ (12 - G.1 * (pc8 v + 1)) := Int.pow_nonneg (by decide)
    have q1 := Int.mul_le_mul_of_nonneg_right q.1 pp
    have q2 := Int.mul_le_mul_of_nonneg_right q.2 pp
    unfold Yg
    push_cast
    rw [Int.neg_mul] at q1
    rw [Int.mul_assoc] at q1 q2
    exact ⟨q1, q2⟩)
  rw [e] at bnd
  refine ⟨e, ?_, ?_⟩ <;> omega
theorem cZ_pos (G : Pg) : 0 < cZ G := Nat.pow_pos (by decide)
theorem mu_b {G : Pg} (hn : G.1 ≤ 3) (hr : G.2.1 < 8) (hb : ∀ i, i < G.1 → G.2.2.2.2.1 i ≤ 99 ∧ G.2.2.2.2.2.1 i ≤ 99) {i : Nat} (hi : i < G.1) : Rg ((cZ G : Int) * mu G i) ∧ Rg (mu G i) := by
  obtain ⟨-, h1, h2⟩ := mean_e hn hr hb hi
  have hc : (1 : Int) ≤ (cZ G : Int) := by
    have := cZ_pos G
    omega
  refine ⟨⟨by omega, by omega⟩, ?_⟩
  rcases Int.lt_or_le (mu G i) 0 with q | q
  · have := Int.mul_le_mul_of_nonpos_right hc (Int.le_of_lt q)
    exact ⟨by omega, by omega⟩
  · have := Int.mul_le_mul_of_nonneg_right hc q
    exact ⟨by omega, by omega⟩
theorem onesN : ∀ u, u < 8 → wpX12_ones (nI u) (fun x => x = nI (pc8 u)) := by
  unfold wpX12_ones pc8
  decide +kernel
theorem ones_m {u : Nat} (hu : u < 8) {post : Int32 → Prop} (hp : post (nI (pc8 u))) : wpX12_ones (nI u) post := by
  have h := onesN u hu
  unfold wpX12_ones at h ⊢
  rw [h]
  exact hp
theorem pw_e {k : Nat} (hk : k ≤ 18) : lN (10 ^ k) = iL (10 ^ k) := by
  have := iLN (n := 10 ^ k)
  push_cast at this
  exact this.symm
theorem meanOf_m {G : Pg} {f : Nat → Int32} (hn : G.1 ≤ 3) (f1 : f 1 = nI G.1) {cm st bm : Nat → Int64} (hR : RM G (fU G (2 ^ G.1)) cm st bm) {i : Nat} (hi : i < G.1) {post : Int64 → Prop} (hp : post (iL (mu G i))) : wpX12_meanOf (nI i) f bm post := by
  have h8 : 2 ^ G.1 ≤ 2 ^ 3 := Nat.pow_le_pow_right (by decide) hn
  have e2 : (1 : Int32) <<< (nI G.1 &&& 31) = nI (2 ^ G.1) := sh1 G.1 (by omega)
  unfold wpX12_meanOf
  rw [f1]
  refine lp (σ := Int64) (fun m u s => wlX12_meanOf_12 f bm post m (nI i) (nI G.1) s (nI u)) (fun u s => s = iL (zS (fun v => (fU G (2 ^ G.1)).2.2 v i * 10 ^ (G.1 * (3 - pc8 v))) u)) (2 ^ G.1) (fun m s h => ?_) (fun m u s hu h k => ?_) fu 0 _ (Nat.zero_le _) (by unfold fu; omega) rfl
  · subst h
    unfold wlX12_meanOf_12
    rw [e2]
    exact k1 (nI_le (Nat.le_refl _) (by omega)) hp
  · subst h
    unfold wlX12_meanOf_12
    have p := pc_3 u
    have e3 : (3 : Int32) * nI u + nI i = nI (3 * u + i) := by rw [show (3 : Int32) = nI 3 from rfl, pk_mul, nI_add]
    have hle : G.1 * (3 - pc8 u) ≤ 3 * 3 := Nat.mul_le_mul hn (by omega)
    rw [e2, e3, nI_clamp (show 3 * u + i < 2 ^ 31 by omega), nI_1]
    refine k2 (nI_ge hu (by omega)) ⟨vp_in_nI (by omega) (by decide), ones_m (by omega) ?_⟩
    rw [show (3 : Int32) - nI (pc8 u) = nI (3 - pc8 u) from pk_sub (a := 3) p, pk_mul]
    refine power_m (by omega) ?_
    rw [pw_e (by omega), hR.2.2 u (by omega) i hi, iL_mul, iL_add]
    exact k _ rfl
/-- of what a row of habits is told: the two foretellings -/
theorem GC_of {n r : Nat} {A kd ch ga lo h : Nat → Nat} {pe : Pe} {people : Nat → Option Nat} {H : Nat → Int32} (a1 : n ≤ 3) (a4 : r < 8) (hc : PCl pe people n A kd ch ga lo) (hb : PBd n ch ga lo) (hH : ∀ i, i < n → H i = nI (h i)) (hh : ∀ i, i < n → h i ≤ 2) : GC (n, r, kd, ch, ga, lo, h) pe people A H := ⟨a1, a4, hc, hb, hH, hh⟩
theorem GM_of {n r : Nat} {kd ch ga lo h : Nat → Nat} {f H : Nat → Int32} (a1 : n ≤ 3) (a4 : r < 8) (b1 : f 1 = nI n) (b2 : f 2 = nI r) (hm : PMo f n kd ch ga lo) (hb : PBd n ch ga lo) (hH : ∀ i, i < n → H i = nI (h i)) (hh : ∀ i, i < n → h i ≤ 2) : GM (n, r, kd, ch, ga, lo, h) f H := ⟨a1, a4, b1, b2, hm, hb, hH, hh⟩
theorem whole12 : (1000000000000 : Int64) = lN (10 ^ 12) := congrArg Int64.ofNat (show 1000000000000 = 10 ^ 12 by decide)
theorem pu_mean : Pu_mean Inv := by
  intro S M ns hV p0 p1 p2
  obtain ⟨n, d, w, r, A, kd, ch, ga, lo, hN, hc, hm, hb1, hb2⟩ := VI_to hV.2.2.2.2.1
  obtain ⟨a1, a2, a3, a4, a5, a6, a7, a8, a9, b1, b2, b3, b4, b5, b6, b7, b8, c1, c2, c3⟩ := hN
  obtain ⟨hR, hst, hrest⟩ := id hV
  unfold wpX11_mean wpX11_habitsOfPerson wpX12_mean
  rw [a5]
  refine ⟨fun hth => ?_, fun hth => k2 (by decide) (vil (b := false) (by rw [a9, hth]) (kf ⟨rfl, hV⟩))⟩
  have hvl : ∀ {post : Bool → Prop}, post true → wpX12_isVillage M.2.1.2.2.2.2.2.1 post := fun hp => vil (b := true) (by rw [a9, hth]) hp
  rcases row_case p0 with ⟨rc, rm⟩ | ⟨j, hj, rfl, rc, rm⟩
  · exact rc _ (kf' (k2 (by decide) (hvl (kt (rm _ (kf' ⟨rfl, hV⟩))))))
  refine rc _ (kt' ?_)
  rcases pa_case a1 hc b1 p1 with ⟨qc, qm⟩ | ⟨i, hi, rfl, qc, qm⟩
  · exact qc _ (kn (k2 (by decide) (hvl (kt (rm _ (kt' (qm _ (kf ⟨rfl, hV⟩))))))))
  refine qc _ (ks ⟨(hc i hi).2.1, ?_⟩)
  rcases hab hR hj a1 b1 S.1.2.2.2 S.2.2.2.2.2.2.2.1.2.1 M.2.1.2.2.2.2.2.2.2.2.2.2.2.2 with ⟨ρ, fnd', hρ, tc, tm⟩ | ⟨h, hh, tc, tm⟩
  · rw [hst] at tm
    exact tc _ (fun H => k2 hρ (hvl (kt (rm _ (kt' (qm _ (kt (tm _ (fun H2 => k2 hρ ⟨rfl, hR, rfl, hrest⟩))))))))) 
  rw [hst] at tm
  refine tc _ (fun H hH => k1 rfl ?_)
  rw [a8]
  have hbb : ∀ i, i < n → ga i ≤ 99 ∧ lo i ≤ 99 := fun i hi => (hb1 i hi).2
  refine tell_c (GC_of a1 a4 hc hb1 hH hh) (fun bl' br' rc' hRC => ⟨vp_in_nI (by omega) (by decide), ?_⟩)
  obtain ⟨e, -, -⟩ := mean_e (G := (n, r, kd, ch, ga, lo, h)) a1 a4 hbb hi
  obtain ⟨g1, g2⟩ := mu_b (G := (n, r, kd, ch, ga, lo, h)) a1 a4 hbb hi
  rw [nI_clamp (show i < 2 ^ 31 by omega), hRC.2.2 i hi, e, whole12]
  refine part_c g1 (by decide) (by decide) (hvl (kt (rm _ (kt' (qm _ (kt (tm _ (fun H2 hH2 => k1 rfl (lays_m (GM_of a1 a4 b1 b2 hm hb1 hH2 hh) (fun cm' st' bm' hRM => meanOf_m a1 b1 hRM hi ?_)))))))))) 
  rw [b1, show (4 : Int32) * nI n = nI (4 * n) from pk_mul 4 n]
  refine power_m (by omega) ?_
  have hc4 : 10 ^ (4 * n) < 2 ^ 40 := Nat.lt_of_le_of_lt (Nat.pow_le_pow_right (by decide) (show 4 * n ≤ 12 by omega)) (by decide)
  refine tells_m g2 (Nat.pow_pos (by decide)) hc4 ⟨?_, hR, rfl, hrest⟩
  have := rd_s (u := mu (n, r, kd, ch, ga, lo, h) i) (l := 10 ^ (4 * n)) (c := cZ (n, r, kd, ch, ga, lo, h)) (b := p2) (cZ_pos _) (Nat.pow_pos (by decide))
  rw [show cZ (n, r, kd, ch, ga, lo, h) * 10 ^ (4 * n) = 10 ^ 12 by
    show 10 ^ (12 - 4 * n) * 10 ^ (4 * n) = 10 ^ 12
    rw [← Nat.pow_add]
    congr 1
    omega] at this
  rw [this]
