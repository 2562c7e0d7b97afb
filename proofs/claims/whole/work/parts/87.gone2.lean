theorem m2_case {p3 : Int32} (h : p3 < 0) : p3 < -2 ∨ p3 = -2 ∨ p3 = -1 := by
  have e2 : (-2 : Int32).toInt = -2 := rfl
  have e1 : (-1 : Int32).toInt = -1 := rfl
  have e0 : (0 : Int32).toInt = 0 := rfl
  rw [Int32.lt_iff_toInt_lt, e0] at h
  rw [Int32.lt_iff_toInt_lt, e2, ← Int32.toInt_inj, ← Int32.toInt_inj, e2, e1]
  omega
theorem seed_case (p0 : Int32) : ((∀ post : Bool → Prop, post false → wpX11_isSeed p0 post) ∧ (∀ post : Bool → Prop, post false → wpX12_in p0 1 999999 post)) ∨ ((∀ post : Bool → Prop, post true → wpX11_isSeed p0 post) ∧ (∀ post : Bool → Prop, post true → wpX12_in p0 1 999999 post)) := by
  unfold wpX11_isSeed wpX12_in
  by_cases h1 : p0 < 1
  · exact Or.inl ⟨fun post hp => k1 h1 hp, fun post hp => k1 h1 hp⟩
  · by_cases h2 : (999999 : Int32) < p0
    · exact Or.inl ⟨fun post hp => k2 h1 (k1 h2 hp), fun post hp => k2 h1 (k1 h2 hp)⟩
    · exact Or.inr ⟨fun post hp => k2 h1 (k2 h2 hp), fun post hp => k2 h1 (k2 h2 hp)⟩
theorem pu_gone : Pu_gone Inv := by
  intro S M ns hV p0 p1 p2 p3
  obtain ⟨n, d, w, r, A, kd, ch, ga, lo, hN, hc, hm, hb1, hb2⟩ := VI_to hV.2.2.2.2.1
  obtain ⟨a1, a2, a3, a4, a5, a6, a7, a8, a9, b1, b2, b3, b4, b5, b6, b7, b8, c1, c2, c3⟩ := hN
  obtain ⟨hR, hst, hrest⟩ := id hV
  unfold wpX11_gone
  rw [a5]
  refine ⟨fun hth => ?_, fun hth => by unfold wpX12_gone; exact vil (b := false) (by rw [a9, hth]) (kf ⟨rfl, hV⟩)⟩
  have hvl : ∀ {post : Bool → Prop}, post true → wpX12_isVillage M.2.1.2.2.2.2.2.1 post := fun hp => vil (b := true) (by rw [a9, hth]) hp
  rcases row_case p0 with ⟨rc, rm⟩ | ⟨j, hj, rfl, rc, rm⟩
  · refine rc _ (kf' ?_)
    unfold wpX12_gone
    rw [b1]
    exact hvl (kt (rm _ (kf' ⟨rfl, hV⟩)))
  refine rc _ (kt' ?_)
  rcases ix_case p1 21 (by decide) with h | ⟨h, h1⟩ | ⟨D, hD, rfl⟩
  · have h1 : p1 < 1 := Int32.lt_trans h (by decide)
    refine k1 h1 ?_
    unfold wpX12_gone
    rw [b1]
    exact hvl (kt (rm _ (kt' (in_f (Or.inl h1) (kf' ⟨rfl, hV⟩)))))
  · have h2 := gt_of_ge (n := 20) h1 (by decide)
    have h3 : ¬ p1 < 1 := fun q => absurd (Int32.lt_trans h2 q) (by decide)
    refine k2 h3 (k1 h2 ?_)
    unfold wpX12_gone
    rw [b1]
    exact hvl (kt (rm _ (kt' (in_f (Or.inr h2) (kf' ⟨rfl, hV⟩)))))
  by_cases D0 : D = 0
  · subst D0
    refine k1 (by decide) ?_
    unfold wpX12_gone
    rw [b1]
    exact hvl (kt (rm _ (kt' (in_f (Or.inl (by decide)) (kf' ⟨rfl, hV⟩)))))
  have d1 : ¬ nI D < (1 : Int32) := nI_nlt (b := 1) (by omega) (by omega)
  have d2 : ¬ (20 : Int32) < nI D := nI_nlt (a := 20) (by omega) (by decide)
  refine k2 d1 (k2 d2 ?_)
  have gin : ∀ {q : Bool → Prop}, q true → wpX12_in (nI D) 1 20 q := fun hq => in_t d1 d2 hq
  rcases seed_case p2 with ⟨s1, s2⟩ | ⟨s1, s2⟩
  · refine s1 _ (kf' ?_)
    unfold wpX12_gone
    rw [b1]
    exact hvl (kt (rm _ (kt' (gin (kt' (s2 _ (kf' ⟨rfl, hV⟩)))))))
  refine s1 _ (kt' ?_)
  have hsub : (nI n - 1).toInt = (n : Int) - 1 := by rw [show (1 : Int32) = nI 1 from rfl, pk_sub_toInt (by omega) (by omega)]; rfl
  -- the third number
  have bad : p3 < -2 ∨ nI n ≤ p3 → ((p3 < -2 ∨ nI n - 1 < p3) ∧ (p3 < -2 ∨ (¬ p3 < -2 ∧ ¬ p3 < nI n))) := by
    rintro (q | q)
    · exact ⟨Or.inl q, Or.inl q⟩
    · have e2 : (-2 : Int32).toInt = -2 := rfl
      rw [Int32.le_iff_toInt_le, nI_toInt (by omega)] at q
      refine ⟨Or.inr ?_, Or.inr ⟨?_, ?_⟩⟩
      · rw [Int32.lt_iff_toInt_lt, hsub]; omega
      · rw [Int32.lt_iff_toInt_lt, e2]; omega
      · rw [Int32.lt_iff_toInt_lt, nI_toInt (by omega)]; omega
  by_cases hb0 : p3 < -2 ∨ nI n ≤ p3
  · obtain ⟨g1, g2⟩ := bad hb0
    rcases g2 with g2 | ⟨g2, g3⟩
    · refine k1 g2 ?_
      unfold wpX12_gone
      rw [b1]
      exact hvl (kt (rm _ (kt' (gin (kt' (s2 _ (kt' (in_f g1 (kf ⟨rfl, hV⟩)))))))))
    · refine k2 g2 (k2 g3 ?_)
      unfold wpX12_gone
      rw [b1]
      exact hvl (kt (rm _ (kt' (gin (kt' (s2 _ (kt' (in_f g1 (kf ⟨rfl, hV⟩)))))))))
  have o1 : ¬ p3 < -2 := fun q => hb0 (Or.inl q)
  have o2 : p3 < nI n := Int32.not_le.mp (fun q => hb0 (Or.inr q))
  have o3 : ¬ nI n - 1 < p3 := by
    have := o2
    rw [Int32.lt_iff_toInt_lt, nI_toInt (by omega)] at this
    rw [Int32.lt_iff_toInt_lt, hsub]
    omega
  refine k2 o1 (k1 o2 ?_)
  have gin3 : ∀ {q : Bool → Prop}, q true → wpX12_in p3 (-2) (nI n - 1) q := fun hq => in_t o1 o3 hq
  rcases hab hR hj a1 b1 S.1.2.2.2 S.2.2.2.2.2.2.2.1.2.1 M.2.1.2.2.2.2.2.2.2.2.2.2.2.2 with ⟨ρ, fnd', hρ, tc, tm⟩ | ⟨h, hh, tc, tm⟩
  · rw [hst] at tm
    refine tc _ (fun H => k2 hρ ?_)
    unfold wpX12_gone
    rw [b1]
    exact hvl (kt (rm _ (kt' (gin (kt' (s2 _ (kt' (gin3 (kt (tm _ (fun H2 => k2 hρ ⟨rfl, hR, rfl, hrest⟩)))))))))))
  rw [hst] at tm
  refine tc _ (fun H hH => k1 rfl (take_from hb2 (fun li' pp' me' pu' g1 g2 g3 g4 => ?_)))
  have hc2 : PCl (pN ns) pp' n A kd ch ga lo := fun i hi => by
    rw [g2 i (by omega)]
    exact hc i hi
  rw [a8]
  refine dates_c (s := (p2.toInt64, 0, S.2.2.2.1.2.2.2.1, S.2.2.2.1.2.2.2.2.1, nI r, me', pu')) a1 hc2 hH hh (by omega) rfl rfl ?_
  generalize hg : gD n kd ch ga lo h D (p2.toInt64, 0, S.2.2.2.1.2.2.2.1, S.2.2.2.1.2.2.2.2.1, nI r, me', pu') = G
  have mod : ∀ {post : Int32 → Int32 → Int32 → (Nat → Int32) → (Nat → Int32) → Prop}, (∀ f' H2, Rl n kd ch ga lo f' G → ((¬ p3 = (-1) → ((¬ p3 = (-2) → (vp_in ((6 + (6 * p3)) + 4) 124 ∧ (post (f' ((((6 + (6 * p3)) + 4)).toNatClampNeg)) 0 G.2.1 H2 f'))) ∧ (p3 = (-2) → (post (f' 2) 0 G.2.1 H2 f')))) ∧ (p3 = (-1) → (post G.2.1 0 G.2.1 H2 f')))) → wpX12_gone (nI j) (nI D) p2 p3 M.1.1 M.1.2.2.2.2.2.2.2.2.2.2 M.2.1.2.2.2.2.2.1 M.2.1.1 M.2.1.2.1 M.2.1.2.2.2.2.2.2.2.2.2.2.2.2 M.2.1.2.2.1 M.2.1.2.2.2.2.2.2.2.1 post := by
    intro post hp
    unfold wpX12_gone
    rw [b1]
    refine hvl (kt (rm _ (kt' (gin (kt' (s2 _ (kt' (gin3 (kt (tm _ (fun H2 hH2 => k1 rfl (goes_m (kd := kd) (ch := ch) (ga := ga) (lo := lo) (s0 := (p2.toInt64, 0, S.2.2.2.1.2.2.2.1, S.2.2.2.1.2.2.2.2.1, nI r, me', pu')) a1 hH2 hh (by omega) rfl rfl (fun f hf => ?_) ⟨r, a4, rfl⟩ (fun f' hf' => ?_))))))))))))) 
    · refine ⟨(hf 1 (by omega)).trans b1, (hf 2 (by omega)).trans b2, (hf 3 (by omega)).trans (b3.trans a7.symm), (hf 4 (by omega)).trans b4, fun i hi => ⟨?_, ?_⟩, fun i hi => ?_⟩
      · show f (11 + 6 * i) = me' i
        rw [hf _ (by omega), g3 i (by omega), (b6 i (by omega)).1]
      · show f (10 + 6 * i) = pu' i
        rw [hf _ (by omega), g4 i (by omega), (b6 i (by omega)).2]
      · rw [hf _ (by omega), hf _ (by omega), hf _ (by omega), hf _ (by omega)]
        exact hm i hi
    · rw [hg] at hf' ⊢
      exact hp f' H2 hf'
  refine ⟨fun e1 => ⟨fun e2 => ?_, fun e2 => ?_⟩, fun e1 => ?_⟩
  · have hpos : ¬ p3 < 0 := fun q => by
      rcases m2_case q with q | q | q
      · exact o1 q
      · exact e2 q
      · exact e1 q
    rcases ix_case p3 n (by omega) with q | ⟨-, q⟩ | ⟨i, hi, rfl⟩
    · exact absurd q hpos
    · exact absurd (Or.inr q) hb0
    · refine ⟨vp_in_nI (by omega) (by decide), mod (fun f' H2 hf' => k4 e1 (k4 e2 ?_))⟩
      have i4 : (6 : Int32) + 6 * nI i + 4 = nI (10 + 6 * i) := by rw [show (4 : Int32) = nI 4 from rfl, ix6a]; congr 1; omega
      rw [i4, nI_clamp (show 10 + 6 * i < 2 ^ 31 by omega), nI_clamp (show i < 2 ^ 31 by omega)]
      exact ⟨vp_in_nI (by omega) (by decide), ((hf'.2.2.2.2.1 i hi).2).symm, hR, rfl, hrest⟩
  · exact mod (fun f' H2 hf' => k4 e1 (k3 e2 ⟨(hf'.2.1).symm, hR, rfl, hrest⟩))
  · exact mod (fun f' H2 hf' => k3 e1 ⟨rfl, hR, rfl, hrest⟩)
