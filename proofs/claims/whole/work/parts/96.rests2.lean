-- the reference's rests
theorem takes_m {n c : Nat} {f H : Nat → Int32} (hn : n ≤ 3) (hc : c < 27) (b1 : f 1 = nI n) {post : Unit → (Nat → Int32) → Prop} (hp : ∀ H' : Nat → Int32, (∀ j, j < n → H' j = nI (hcd n c j)) → post () H') : wpX12_takesHabits (nI c) f H post := by
  unfold wpX12_takesHabits
  rw [b1]
  refine lpd (σ := Int32 × (Nat → Int32)) (fun m q s => wlX12_takesHabits_11 f post m s.1 (nI q - 1) s.2) (fun q s => q ≤ n ∧ s.1 = nI (c / 3 ^ (n - q)) ∧ ∀ j, q ≤ j → j < n → s.2 j = nI (hcd n c j)) (fun m s h => ?_) (fun m q s h kk => ?_) fu n (nI c, H) (by unfold fu; omega) ⟨Nat.le_refl _, by rw [Nat.sub_self, Nat.pow_zero, Nat.div_one], fun j h1 h2 => absurd h1 (by omega)⟩
  · unfold wlX12_takesHabits_11
    exact k1 dn0 (hp s.2 (fun j hj => h.2.2 j (Nat.zero_le _) hj))
  · obtain ⟨h1, h2, h3⟩ := h
    unfold wlX12_takesHabits_11
    have hd : c / 3 ^ (n - (q + 1)) ≤ c := Nat.div_le_self _ _
    rw [nI_pred, dn1, nI_clamp (show q < 2 ^ 31 by omega), h2, show (3 : Int32) = nI 3 from rfl, pk_rem (by omega) (by decide) (by decide), pk_div (by omega) (by decide) (by decide)]
    refine k2 (nI_pos (by omega)) ⟨vp_in_nI (by omega) (by decide), kk (_, _) ⟨by omega, ?_, fun j j1 j2 => ?_⟩⟩
    · show nI (c / 3 ^ (n - (q + 1)) / 3) = nI (c / 3 ^ (n - q))
      rw [Nat.div_div_eq_div_mul, ← Nat.pow_succ, show (n - (q + 1)).succ = n - q by omega]
    · show upd s.2 q _ j = _
      by_cases e : j = q
      · subst e
        rw [upd_s]
        unfold hcd
        rw [if_pos j2, show n - (j + 1) = n - 1 - j by omega]
      · rw [upd_n e]
        exact h3 j (by omega) j2
section rests
variable {n r : Nat} {kd ch ga lo h : Nat → Nat}
theorem content_m {f H : Nat → Int32} (a1 : n ≤ 3) (a4 : r < 8) (b1 : f 1 = nI n) (b2 : f 2 = nI r) (hm : PMo f n kd ch ga lo) (hb : PBd n ch ga lo) (hh : ∀ i, i < n → h i ≤ 2) {i : Nat} (hi : i < n) (hH : ∀ j, j < n → H j = nI (h j)) {cm st bm : Nat → Int64} {post : Bool → (Nat → Int32) → (Nat → Int64) → (Nat → Int64) → (Nat → Int64) → Prop}
    (hT : (∀ x, x < 3 → mu (n, r, kd, ch, ga, lo, uh h i x) i ≤ mu (n, r, kd, ch, ga, lo, h) i) → ∀ (H' : Nat → Int32) cm' st' bm', (∀ j, j < n → H' j = nI (h j)) → post true H' cm' st' bm')
    (hF : (¬ ∀ x, x < 3 → mu (n, r, kd, ch, ga, lo, uh h i x) i ≤ mu (n, r, kd, ch, ga, lo, h) i) → ∀ (H' : Nat → Int32) cm' st' bm', (∀ j, j < n → H' j = nI (h j)) → post false H' cm' st' bm') : wpX12_isContent (nI i) H f cm st bm post := by
  have hbb : ∀ i, i < n → ga i ≤ 99 ∧ lo i ≤ 99 := fun i hi => (hb i hi).2
  have v3 : vp_in (nI i) 3 := vp_in_nI (by omega) (by decide)
  have g0 := (mu_b (G := (n, r, kd, ch, ga, lo, h)) a1 a4 hbb hi).2
  unfold wpX12_isContent
  refine ⟨v3, lays_m (GM_of a1 a4 b1 b2 hm hb hH hh) (fun cm1 st1 bm1 hRM => meanOf_m a1 b1 hRM hi ?_)⟩
  rw [nI_clamp (show i < 2 ^ 31 by omega), hH i hi]
  refine lp (σ := Bool × (Nat → Int32) × (Nat → Int64) × (Nat → Int64) × (Nat → Int64)) (fun m k s => wlX12_isContent_23 f post m (nI i) (nI (h i)) (iL (mu (n, r, kd, ch, ga, lo, h) i)) s.1 (nI k) s.2.1 s.2.2.1 s.2.2.2.1 s.2.2.2.2) (fun k s => (s.1 = true → ∀ x, x < k → mu (n, r, kd, ch, ga, lo, uh h i x) i ≤ mu (n, r, kd, ch, ga, lo, h) i) ∧ (s.1 = false → ¬ ∀ x, x < 3 → mu (n, r, kd, ch, ga, lo, uh h i x) i ≤ mu (n, r, kd, ch, ga, lo, h) i) ∧ ∀ j, j < n → j ≠ i → s.2.1 j = nI (h j)) 3 (fun m s q => ?_) (fun m k s hk q kk => ?_) fu 0 (true, H, cm1, st1, bm1) (by decide) (by decide) ⟨fun _ x hx => absurd hx (Nat.not_lt_zero x), (fun q => by cases q), fun j hj _ => hH j hj⟩
  · obtain ⟨s1, s2, s3, s4, s5⟩ := s
    obtain ⟨q1, q2, q3⟩ := q
    unfold wlX12_isContent_23
    rw [nI_clamp (show i < 2 ^ 31 by omega)]
    refine k1 (nI_le (a := 3) (Nat.le_refl _) (by decide)) ⟨v3, ?_⟩
    have hH' : ∀ j, j < n → upd s2 i (nI (h i)) j = nI (h j) := fun j hj => by
      by_cases e : j = i
      · rw [e, upd_s]
      · rw [upd_n e]
        exact q3 j hj e
    cases s1 with
    | true => exact hT (q1 rfl) _ _ _ _ hH'
    | false => exact hF (q2 rfl) _ _ _ _ hH'
  · obtain ⟨s1, s2, s3, s4, s5⟩ := s
    obtain ⟨q1, q2, q3⟩ := q
    unfold wlX12_isContent_23 wjX12_isContent_60 wjX12_isContent_61
    refine k2 (nI_ge (b := 3) hk (by decide)) ⟨v3, ?_⟩
    rw [nI_clamp (show i < 2 ^ 31 by omega), nI_1]
    refine lays_m (GM_of a1 a4 b1 b2 hm hb (uh_H q3) (uh_b hh hk)) (fun cm' st' bm' hRM => ?_)
    have hH' : ∀ j, j < n → j ≠ i → upd s2 i (nI k) j = nI (h j) := fun j hj e => by
      rw [upd_n e]
      exact q3 j hj e
    have no : (¬ ∀ x, x < 3 → mu (n, r, kd, ch, ga, lo, uh h i x) i ≤ mu (n, r, kd, ch, ga, lo, h) i) → wlX12_isContent_23 f post m (nI i) (nI (h i)) (iL (mu (n, r, kd, ch, ga, lo, h) i)) false (nI (k + 1)) (upd s2 i (nI k)) cm' st' bm' := fun w => kk (false, _, _, _, _) ⟨(fun q => by cases q), fun _ => w, hH'⟩
    cases s1 with
    | false => exact kf' (no (q2 rfl))
    | true =>
      refine kt' (meanOf_m a1 b1 hRM hi ?_)
      have g1 := (mu_b (G := (n, r, kd, ch, ga, lo, uh h i k)) a1 a4 hbb hi).2
      refine ⟨fun w => no (fun all => ?_), fun w => kk (true, _, _, _, _) ⟨fun _ x hx => ?_, (fun q => by cases q), hH'⟩⟩
      · have := (iL_lt g0 g1).mp w
        have := all k hk
        omega
      · by_cases e : x = k
        · subst e
          exact Int.not_lt.mp (fun w2 => w ((iL_lt g0 g1).mpr w2))
        · exact q1 rfl x (by omega)
theorem rests_m {f H : Nat → Int32} (a1 : n ≤ 3) (a4 : r < 8) (b1 : f 1 = nI n) (b2 : f 2 = nI r) (hm : PMo f n kd ch ga lo) (hb : PBd n ch ga lo) {p0 : Int32} {cm st bm : Nat → Int64} {post : Int32 → (Nat → Int32) → (Nat → Int64) → (Nat → Int64) → (Nat → Int64) → Prop}
    (h1 : p0 = -1 → ∀ H' cm' st' bm', post (nI (cu (rsb (mc n r kd ch ga lo) n) (3 ^ n))) H' cm' st' bm')
    (h2 : ¬ p0 = -1 → cu (rsb (mc n r kd ch ga lo) n) (3 ^ n) = 0 → ∀ H' cm' st' bm', post (-1000000) H' cm' st' bm')
    (h3 : ¬ p0 = -1 → ∀ g, LF (rsb (mc n r kd ch ga lo) n) (3 ^ n) g → ∃ i, i < n ∧ p0 = nI i ∧ ∀ H' cm' st' bm', post (nI (hcd n g i)) H' cm' st' bm') : wlX12_rests_80 f post fu p0 (nI (3 ^ n)) 0 (-1000000) 0 H cm st bm := by
  have h27 := p27 a1
  refine lp (σ := Int32 × Int32 × (Nat → Int32) × (Nat → Int64) × (Nat → Int64) × (Nat → Int64)) (fun m k s => wlX12_rests_80 f post m p0 (nI (3 ^ n)) s.1 s.2.1 (nI k) s.2.2.1 s.2.2.2.1 s.2.2.2.2.1 s.2.2.2.2.2) (fun k s => s.1 = nI (cu (rsb (mc n r kd ch ga lo) n) k) ∧ ((cu (rsb (mc n r kd ch ga lo) n) k = 0 ∧ s.2.1 = -1000000) ∨ (0 < cu (rsb (mc n r kd ch ga lo) n) k ∧ ∃ g, LF (rsb (mc n r kd ch ga lo) n) k g ∧ s.2.1 = nI g))) (3 ^ n) (fun m s q => ?_) (fun m c s hc q kk => ?_) fu 0 (0, -1000000, H, cm, st, bm) (Nat.zero_le _) (by unfold fu; omega) ⟨rfl, Or.inl ⟨rfl, rfl⟩⟩
  · obtain ⟨q1, q2⟩ := q
    unfold wlX12_rests_80 wjX12_rests_185
    refine k1 (nI_le (Nat.le_refl _) (by omega)) ?_
    by_cases e : p0 = -1
    · rw [q1]
      exact k1 e (k3 e (h1 e _ _ _ _))
    · refine k2 e ?_
      rcases q2 with ⟨z, w⟩ | ⟨z, g, hg, w⟩
      · rw [w]
        exact k3 rfl (k4 e (h2 e z _ _ _ _))
      · have gl := hg.1
        rw [w]
        refine k4 (mN_ne (by omega)) (takes_m a1 (by omega) b1 (fun H' hH' => ?_))
        obtain ⟨i, hi, ep, hq⟩ := h3 e g hg
        rw [ep]
        refine ⟨vp_in_nI (by omega) (by decide), ?_⟩
        rw [nI_clamp (show i < 2 ^ 31 by omega), hH' i hi]
        exact hq _ _ _ _
  · obtain ⟨q1, q2⟩ := q
    unfold wlX12_rests_80
    refine k2 (nI_ge hc (by omega)) (takes_m a1 (by omega) b1 (fun H0 hH0 => ?_))
    have cl := cu_le (rsb (mc n r kd ch ga lo) n) c
    refine lp (σ := Bool × (Nat → Int32) × (Nat → Int64) × (Nat → Int64) × (Nat → Int64)) (fun m2 p t => wlX12_rests_98 f post (wlX12_rests_80 f post m) m2 p0 (nI (3 ^ n)) s.1 s.2.1 (nI c) t.1 (nI p) t.2.1 t.2.2.1 t.2.2.2.1 t.2.2.2.2) (fun p t => (t.1 = true → ∀ i, i < p → ∀ x, x < 3 → mc n r kd ch ga lo (oth n c i x) i ≤ mc n r kd ch ga lo c i) ∧ (t.1 = false → rsb (mc n r kd ch ga lo) n c = false) ∧ ∀ j, j < n → t.2.1 j = nI (hcd n c j)) n (fun m2 t u => ?_) (fun m2 p t hp u k => ?_) fu 0 (true, H0, _, _, _) (Nat.zero_le _) (by unfold fu; omega) ⟨fun _ i hi => absurd hi (Nat.not_lt_zero i), (fun q => by cases q), hH0⟩
    · obtain ⟨t1, t2, t3, t4, t5⟩ := t
      obtain ⟨u1, u2, u3⟩ := u
      unfold wlX12_rests_98 wjX12_rests_150 wjX12_rests_152 wjX12_rests_165
      rw [b1, nI_1 c]
      refine k1 (nI_le (Nat.le_refl _) (by omega)) ?_
      cases t1 with
      | false =>
        have y := u2 rfl
        refine kf' (kf' (kk (s.1 + bz false, s.2.1, t2, t3, t4, t5) ⟨?_, ?_⟩))
        · show s.1 + bz false = nI (cu _ (c + 1))
          rw [cu_f y, q1]
          exact Int32.add_zero _
        · rw [cu_f y]
          rcases q2 with ⟨z, w⟩ | ⟨z, g, hg, w⟩
          · exact Or.inl ⟨z, w⟩
          · exact Or.inr ⟨z, g, ⟨by have := hg.1; omega, hg.2⟩, w⟩
      | true =>
        have y : rsb (mc n r kd ch ga lo) n c = true := rsb_t (u1 rfl)
        refine kt' ?_
        rcases q2 with ⟨z, w⟩ | ⟨z, g, hg, w⟩
        · have z0 : s.1 = 0 := by
            rw [q1, z]
            rfl
          refine k3 z0 (kt' (kk (s.1 + bz true, nI c, t2, t3, t4, t5) ⟨?_, Or.inr ⟨by rw [cu_t y]; omega, c, ⟨by omega, y, cu_0 z⟩, rfl⟩⟩))
          show s.1 + bz true = nI (cu _ (c + 1))
          rw [cu_t y, q1]
          exact nI_1 _
        · have z0 : ¬ s.1 = 0 := by
            rw [q1]
            exact nI_ne0 z (by omega)
          refine k4 z0 (kt' (kk (s.1 + bz true, s.2.1, t2, t3, t4, t5) ⟨?_, Or.inr ⟨by rw [cu_t y]; omega, g, ⟨by have := hg.1; omega, hg.2⟩, w⟩⟩))
          show s.1 + bz true = nI (cu _ (c + 1))
          rw [cu_t y, q1]
          exact nI_1 _
    · obtain ⟨t1, t2, t3, t4, t5⟩ := t
      obtain ⟨u1, u2, u3⟩ := u
      unfold wlX12_rests_98 wjX12_rests_127 wjX12_rests_128
      rw [b1, nI_1 p]
      refine k2 (nI_ge hp (by omega)) ?_
      cases t1 with
      | false => exact kf' (k (false, _, _, _, _) ⟨(fun q => by cases q), u2, u3⟩)
      | true =>
        refine kt' (content_m a1 a4 b1 b2 hm hb (fun i _ => hcd_2 n c i) hp u3 (fun w H' cm' st' bm' hH' => kt' (k (true, _, _, _, _) ⟨fun _ i hi x hx => ?_, (fun q => by cases q), hH'⟩)) (fun w H' cm' st' bm' hH' => kf' (k (false, _, _, _, _) ⟨(fun q => by cases q), fun _ => rsb_f (fun all => w (fun x hx => ?_)), hH'⟩)))
        · by_cases e : i = p
          · subst e
            have := w x hx
            rw [← oth_h a1 hc hp hx] at this
            exact this
          · exact u1 rfl i (by omega) x hx
        · rw [← oth_h a1 hc hp hx]
          exact all p hp x hx
end rests
theorem lt_m1 {x : Int32} (h : x < 0) (h2 : ¬ x = -1) : x < -1 := by
  rw [Int32.lt_iff_toInt_lt] at h ⊢
  have e0 : (0 : Int32).toInt = 0 := rfl
  have e1 : (-1 : Int32).toInt = -1 := rfl
  have : x.toInt ≠ -1 := fun e => h2 (Int32.toInt_inj.mp (by rw [e, e1]))
  omega
theorem codes_m {n : Nat} (hn : n ≤ 3) {f H : Nat → Int32} (b1 : f 1 = nI n) {p0 : Int32} {cm st bm : Nat → Int64} {post : Int32 → (Nat → Int32) → (Nat → Int64) → (Nat → Int64) → (Nat → Int64) → Prop} (hp : wlX12_rests_80 f post fu p0 (nI (3 ^ n)) 0 (-1000000) 0 H cm st bm) : wjX12_rests_26 f post p0 H cm st bm := by
  unfold wjX12_rests_26 wjX12_rests_70
  rw [b1]
  have hc : n = 0 ∨ n = 1 ∨ n = 2 ∨ n = 3 := by omega
  rcases hc with rfl | rfl | rfl | rfl
  · exact k3 (by decide) hp
  · exact k4 (by decide) (k3 (by decide) hp)
  · exact k4 (by decide) (k4 (by decide) (k3 (by decide) hp))
  · exact k4 (by decide) (k4 (by decide) (k4 (by decide) hp))
theorem pu_rests : Pu_rests Inv := by
  intro S M ns hV p0
  obtain ⟨n, d, w, r, A, kd, ch, ga, lo, hN, hc, hm, hb1, hb2⟩ := VI_to hV.2.2.2.2.1
  obtain ⟨a1, a2, a3, a4, a5, a6, a7, a8, a9, b1, b2, b3, b4, b5, b6, b7, b8, c1, c2, c3⟩ := hN
  obtain ⟨hR, hst, hrest⟩ := id hV
  unfold wpX11_rests wpX12_rests
  rw [a5, a8]
  refine ⟨fun hth => ?_, fun hth => vil (b := false) (by rw [a9, hth]) (kf ⟨rfl, hV⟩)⟩
  have hvl : ∀ {post : Bool → Prop}, post true → wpX12_isVillage M.2.1.2.2.2.2.2.1 post := fun hp => vil (b := true) (by rw [a9, hth]) hp
  have h27 := p27 a1
  have cl := cu_le (rsb (mc n r kd ch ga lo) n) (3 ^ n)
  by_cases e : p0 = -1
  · refine k2 (by rw [e]; decide) (k1 ?_ (findRests_c a1 a4 hc hb1 (fun fr' me' bl' br' rc' H' hq => k3 e (hvl (kt (k1 e (codes_m a1 b1 (rests_m a1 a4 b1 b2 hm hb1 (fun _ H2 cm st bm => ⟨rfl, hV⟩) (fun q => absurd e q) (fun q => absurd e q))))))))) 
    rw [e, Int32.lt_iff_toInt_lt, nI_toInt (by omega)]
    show (-1 : Int) < n
    omega
  · rcases ix_case p0 n (by omega) with h | ⟨h, h1⟩ | ⟨i, hi, rfl⟩
    · refine k1 (lt_m1 h e) (hvl (kt (k2 e ?_)))
      rcases pa_case a1 hc b1 p0 with ⟨qc, qm⟩ | ⟨i, hi, rfl, qc, qm⟩
      · exact qm _ (kf ⟨rfl, hV⟩)
      · exact absurd h (nI_pos (by omega))
    · refine k2 (fun q => h (Int32.lt_trans q (by decide))) (k2 (Int32.not_lt.mpr h1) (hvl (kt (k2 e ?_))))
      rcases pa_case a1 hc b1 p0 with ⟨qc, qm⟩ | ⟨i, hi, rfl, qc, qm⟩
      · exact qm _ (kf ⟨rfl, hV⟩)
      · exact absurd h1 (nI_ge hi (by omega))
    · have hper : ∀ {post : Bool → Prop}, post true → wpX12_isPerson (nI i) M.2.1.2.2.2.2.2.1 post := by
        intro post hp
        unfold wpX12_isPerson
        rw [b1]
        refine in_t (nI_pos (by omega)) ?_ hp
        rw [sub1 (by omega)]
        exact nI_nlt (by omega) (by omega)
      refine k2 (fun q => nI_pos (n := i) (by omega) (Int32.lt_trans q (by decide))) (k1 (nI_lt hi (by omega)) (findRests_c a1 a4 hc hb1 (fun fr' me' bl' br' rc' H' hq => k4 e ?_)))
      rcases hq with z | ⟨g, hg, rfl⟩
      · rw [z]
        refine k3 rfl (hvl (kt (k2 e (hper (kt (codes_m a1 b1 (rests_m a1 a4 b1 b2 hm hb1 (fun q => absurd q e) (fun _ _ H2 cm st bm => ⟨rfl, hV⟩) (fun _ g hg => ?_))))))))
        have := cu_pos hg.2.1 _ hg.1
        omega
      · have gp := cu_pos hg.2.1 _ hg.1
        have gl := hg.1
        refine k4 (nI_ne0 gp (by omega)) (habitIn_c a1 hi (by omega) (hvl (kt (k2 e (hper (kt (codes_m a1 b1 (rests_m a1 a4 b1 b2 hm hb1 (fun q => absurd q e) (fun _ z => ?_) (fun _ g2 hg2 => ⟨i, hi, rfl, fun H2 cm st bm => ⟨?_, hV⟩⟩)))))))))
        · omega
        · rw [LF_u hg2 hg]
