-- lived
theorem s8_mul {F g : Nat → Nat} {c : Nat} (h : ∀ v, v < 8 → F v = c * g v) : s8 F = c * s8 g := by
  unfold s8
  rw [h 0 (by decide), h 1 (by decide), h 2 (by decide), h 3 (by decide), h 4 (by decide), h 5 (by decide), h 6 (by decide), h 7 (by decide)]
  rw [Nat.mul_add, Nat.mul_add, Nat.mul_add, Nat.mul_add, Nat.mul_add, Nat.mul_add, Nat.mul_add]
theorem s8_mono {F g : Nat → Nat} (h : ∀ v, v < 8 → F v ≤ g v) : s8 F ≤ s8 g := by
  have a0 := h 0 (by decide)
  have a1 := h 1 (by decide)
  have a2 := h 2 (by decide)
  have a3 := h 3 (by decide)
  have a4 := h 4 (by decide)
  have a5 := h 5 (by decide)
  have a6 := h 6 (by decide)
  have a7 := h 7 (by decide)
  unfold s8
  omega
theorem pu_lived : Pu_lived Inv := by
  intro S M ns hV p0 p1 p2
  obtain ⟨n, d, w, r, A, kd, ch, ga, lo, hN, hc, hm, hb1, hb2⟩ := VI_to hV.2.2.2.2.1
  obtain ⟨a1, a2, a3, a4, a5, a6, a7, a8, a9, b1, b2, b3, b4, b5, b6, b7, b8, c1, c2, c3⟩ := hN
  obtain ⟨hR, hst, hrest⟩ := id hV
  unfold wpX11_lived wpX12_lived
  rw [a5]
  refine ⟨fun hth => ?_, fun hth => vil (b := false) (by rw [a9, hth]) (kf ⟨rfl, hV⟩)⟩
  have hvl : ∀ {post : Bool → Prop}, post true → wpX12_isVillage M.2.1.2.2.2.2.2.1 post := fun hp => vil (b := true) (by rw [a9, hth]) hp
  rcases row_case p0 with ⟨rc, rm⟩ | ⟨j, hj, rfl, rc, rm⟩
  · exact rc _ (kf' (hvl (kt (rm _ (kf' ⟨rfl, hV⟩)))))
  refine rc _ (kt' ?_)
  rcases ix_case p1 5 (by decide) with h | ⟨h, h1⟩ | ⟨k, hk, rfl⟩
  · have h1 : p1 < 1 := Int32.lt_trans h (by decide)
    exact k1 h1 (hvl (kt (rm _ (kt' (in_f (Or.inl h1) (kf ⟨rfl, hV⟩))))))
  · have h2 := gt_of_ge (n := 4) h1 (by decide)
    have h3 : ¬ p1 < 1 := fun q => absurd (Int32.lt_trans h2 q) (by decide)
    exact k2 h3 (k2 (Int32.not_le.mpr h2) (hvl (kt (rm _ (kt' (in_f (Or.inr h2) (kf ⟨rfl, hV⟩)))))))
  by_cases k0 : k = 0
  · subst k0
    exact k1 (by decide) (hvl (kt (rm _ (kt' (in_f (Or.inl (by decide)) (kf ⟨rfl, hV⟩))))))
  have t1 : ¬ nI k < (1 : Int32) := nI_nlt (b := 1) (by omega) (by omega)
  have t4 : nI k ≤ (4 : Int32) := nI_le (b := 4) (by omega) (by decide)
  refine k2 t1 (k1 t4 ?_)
  have gin : ∀ {q : Bool → Prop}, q true → wpX12_in (nI k) 1 4 q := fun hq => in_t t1 (Int32.not_lt.mpr t4) hq
  rcases hab hR hj a1 b1 S.1.2.2.2 S.2.2.2.2.2.2.2.1.2.1 M.2.1.2.2.2.2.2.2.2.2.2.2.2.2 with ⟨ρ, fnd', hρ, tc, tm⟩ | ⟨h, hh, tc, tm⟩
  · rw [hst] at tm
    exact tc _ (fun H => k2 hρ (hvl (kt (rm _ (kt' (gin (kt (tm _ (fun H2 => k2 hρ ⟨rfl, hR, rfl, hrest⟩))))))))) 
  rw [hst] at tm
  refine tc _ (fun H hH => k1 rfl ?_)
  rw [a8]
  have hbb : ∀ i, i < n → ga i ≤ 99 ∧ lo i ≤ 99 := fun i hi => (hb1 i hi).2
  refine tell_c (GC_of a1 a4 hc hb1 hH hh) (fun bl' br' rc' hRC => ⟨vp_in_nI (by omega) (by decide), ?_⟩)
  obtain ⟨-, hY⟩ := fU_fin (G := (n, r, kd, ch, ga, lo, h)) a1 a4 hbb
  rw [nI_clamp (show k < 2 ^ 31 by omega), hRC.2.1 k (by omega), whole12]
  have hL : s8 (fun v => if pc8 v + 1 = k then Yg (n, r, kd, ch, ga, lo, h) (fU (n, r, kd, ch, ga, lo, h) (2 ^ n)) v else 0) = 10 ^ (12 - n * k) * s8 (fun v => if pc8 v + 1 = k then (fU (n, r, kd, ch, ga, lo, h) (2 ^ n)).2.1 v else 0) := s8_mul (fun v hv => by
    by_cases e : pc8 v + 1 = k
    · rw [if_pos e, if_pos e]
      unfold Yg
      rw [e, Nat.mul_comm]
    · rw [if_neg e, if_neg e, Nat.mul_zero])
  have hLe : s8 (fun v => if pc8 v + 1 = k then Yg (n, r, kd, ch, ga, lo, h) (fU (n, r, kd, ch, ga, lo, h) (2 ^ n)) v else 0) ≤ 10 ^ 12 := Nat.le_trans (s8_mono (fun v hv => by
    by_cases e : pc8 v + 1 = k
    · rw [if_pos e]
      exact Nat.le_refl _
    · rw [if_neg e]
      exact Nat.zero_le _)) hY
  rw [hL] at hLe
  have hLm : s8 (fun v => if pc8 v + 1 = k then (fU (n, r, kd, ch, ga, lo, h) (2 ^ n)).2.1 v else 0) ≤ 10 ^ 12 := Nat.le_trans (Nat.le_mul_of_pos_left _ (Nat.pow_pos (by decide))) hLe
  show wpX11_part (lN (s8 (fun v => if pc8 v + 1 = k then Yg (n, r, kd, ch, ga, lo, h) (fU (n, r, kd, ch, ga, lo, h) (2 ^ n)) v else 0))) (lN (10 ^ 12)) p2 _
  rw [hL, ← iLN]
  refine part_c ⟨by omega, by omega⟩ (by decide) (by decide) (hvl (kt (rm _ (kt' (gin (kt (tm _ (fun H2 hH2 => k1 rfl (lays_m (GM_of a1 a4 b1 b2 hm hb1 hH2 hh) (fun cm' st' bm' hRM => ?_)))))))))) 
  refine lp (σ := Int64) (fun m u s => wlX12_lived_62 M.2.1.2.2.2.2.2.1 M.2.1.1 M.2.1.2.1 M.2.1.2.2.1 _ m (nI k) p2 s (nI u) 0 H2 cm' st' bm') (fun u s => s = lN (sN (fun v => if pc8 v + 1 = k then (fU (n, r, kd, ch, ga, lo, h) (2 ^ n)).2.1 v else 0) u)) 8 (fun m s q => ?_) (fun m u s hu q kk => ?_) fu 0 0 (by decide) (by decide) rfl
  · subst q
    unfold wlX12_lived_62
    refine k1 (nI_le (a := 8) (Nat.le_refl _) (by decide)) ?_
    have hnk : n * k ≤ 3 * 4 := Nat.mul_le_mul a1 (by omega)
    rw [b1, pk_mul]
    refine power_m (by omega) ?_
    have hc4 : 10 ^ (n * k) < 2 ^ 40 := Nat.lt_of_le_of_lt (Nat.pow_le_pow_right (by decide) (show n * k ≤ 12 by omega)) (by decide)
    have e8 : sN (fun v => if pc8 v + 1 = k then (fU (n, r, kd, ch, ga, lo, h) (2 ^ n)).2.1 v else 0) 8 = s8 (fun v => if pc8 v + 1 = k then (fU (n, r, kd, ch, ga, lo, h) (2 ^ n)).2.1 v else 0) := by
      simp only [sN, s8]
      omega
    rw [e8, ← iLN]
    refine tells_m ⟨by omega, by omega⟩ (Nat.pow_pos (by decide)) hc4 ⟨?_, hR, rfl, hrest⟩
    have := rd_s (u := ((s8 (fun v => if pc8 v + 1 = k then (fU (n, r, kd, ch, ga, lo, h) (2 ^ n)).2.1 v else 0) : Nat) : Int)) (l := 10 ^ (n * k)) (c := 10 ^ (12 - n * k)) (b := p2) (Nat.pow_pos (by decide)) (Nat.pow_pos (by decide))
    rw [← Nat.pow_add, show 12 - n * k + n * k = 12 by omega, ← Int.natCast_mul] at this
    rw [this]
  · subst q
    unfold wlX12_lived_62 wjX12_lived_93
    have p := pc_3 u
    rw [nI_1, sub1 (show 0 < k by omega), nI_clamp (show u < 2 ^ 31 by omega), hRM.2.1 u hu]
    refine k2 (nI_ge (b := 8) hu (by decide)) (ones_m hu ⟨fun e => ?_, fun e => ⟨vp_in_nI hu (by decide), ?_⟩⟩)
    · have e' : ¬ pc8 u + 1 = k := fun q => e (by rw [show k - 1 = pc8 u by omega])
      refine kk _ ?_
      rw [sN, if_neg e', Int64.add_zero, Nat.add_zero]
    · have e' : pc8 u + 1 = k := by
        have := (nI_eq (by omega) (by omega)).mp e
        omega
      refine kk _ ?_
      rw [sN, if_pos e', lN_add]
