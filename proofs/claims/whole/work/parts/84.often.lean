-- often
def oR (p : Int32) : Nat → Int32 → Nat → Int32
  | 0, x, _ => x
  | m + 1, x, t => if x ≤ 0 then x else oR p m (x * (p - nI t)) (t + 1)
theorem ord_c {p : Int32} {m : Nat} (hm : m ≤ 100) {post : Int32 → Prop} : ∀ (fuel t : Nat) (x : Int32), t ≤ m → m < fuel + t → post (oR p (m - t) x t) → wlX11_orders_4 post fuel p (nI m) x (nI t) := by
  intro fuel
  induction fuel with
  | zero => intro t x h1 h2; omega
  | succ fuel ih =>
    intro t x h1 h2 hp
    unfold wlX11_orders_4
    by_cases e : t = m
    · subst e
      rw [Nat.sub_self] at hp
      exact k1 (nI_le (Nat.le_refl _) (by omega)) hp
    · rw [show m - t = (m - (t + 1)) + 1 by omega] at hp
      refine k2 (nI_ge (by omega) (by omega)) ⟨fun h => ?_, fun h => ?_⟩
      · rwa [oR, if_pos h] at hp
      · rw [oR, if_neg h] at hp
        rw [nI_1]
        exact ih (t + 1) _ (by omega) (by omega) hp
theorem ord_m {p st : Int32} {m : Nat} (hm : m ≤ 100) {f lane many items : Nat → Int32} {post : Int32 → Int32 → Prop} : ∀ (fuel t : Nat) (x : Int32), t ≤ m → m < fuel + t → post (oR p (m - t) x t) 0 → wlX12_often_211 f lane many items post fuel (nI m) p x (nI t) st := by
  intro fuel
  induction fuel with
  | zero => intro t x h1 h2; omega
  | succ fuel ih =>
    intro t x h1 h2 hp
    unfold wlX12_often_211 wjX12_often_239 wpX12_well
    by_cases e : t = m
    · subst e
      rw [Nat.sub_self] at hp
      exact k1 (nI_le (Nat.le_refl _) (by omega)) hp
    · rw [show m - t = (m - (t + 1)) + 1 by omega] at hp
      refine k2 (nI_ge (by omega) (by omega)) ⟨fun h => ?_, fun h => ?_⟩
      · rwa [oR, if_pos h] at hp
      · rw [oR, if_neg h] at hp
        rw [nI_1]
        exact ih (t + 1) _ (by omega) (by omega) hp
def cnt (P : Nat → Bool) : Nat → Nat
  | 0 => 0
  | k + 1 => cnt P k + (if P k = true then 1 else 0)
theorem many_c {pe : Pe} {people : Nat → Option Nat} {n : Nat} {A kd ch ga lo : Nat → Nat} (hn : n ≤ 3) (hc : PCl pe people n A kd ch ga lo) {x : Int32} {post : Int32 → Prop} (hp : post (nI (cnt (fun i => hb x i && decide (kd i ≠ 4)) n))) : wpX9_howManyMayRepeat x (nI n) people pe post := by
  unfold wpX9_howManyMayRepeat
  refine lp (σ := Int32) (fun m i s => wlX9_howManyMayRepeat_4 (nI n) people pe post m x s (nI i)) (fun i s => s = nI (cnt (fun i => hb x i && decide (kd i ≠ 4)) i)) n (fun m s h => ?_) (fun m i s hi h k => ?_) fu 0 _ (by omega) (by unfold fu; omega) rfl
  · subst h
    unfold wlX9_howManyMayRepeat_4
    exact k1 (nI_le (Nat.le_refl _) (by omega)) hp
  · subst h
    unfold wlX9_howManyMayRepeat_4 wjX9_howManyMayRepeat_24
    rw [nI_1 i, nI_1]
    refine k2 (nI_ge hi (by omega)) (may_c hn hc hi ⟨fun e => k _ ?_, fun e => k _ ?_⟩)
    · rw [cnt, e]
      rfl
    · rw [cnt, e]
      rfl
theorem many_m {f lane many items : Nat → Int32} {n : Nat} {kd ch ga lo : Nat → Nat} (hn : n ≤ 3) (e1 : f 1 = nI n) (hm : PMo f n kd ch ga lo) {y ag st : Int32} {post : Int32 → Int32 → Prop} (hp : wlX12_often_211 f lane many items post fu ag (nI (cnt (fun i => (hb (f 2) i && !hb y i) && decide (kd i ≠ 4)) n)) 1 0 st) : wlX12_often_141 f lane many items post fu y ag 0 0 st := by
  refine lp (σ := Int32) (fun m i s => wlX12_often_141 f lane many items post m y ag s (nI i) st) (fun i s => s = nI (cnt (fun i => (hb (f 2) i && !hb y i) && decide (kd i ≠ 4)) i)) n (fun m s h => ?_) (fun m i s hi h k => ?_) fu 0 0 (by omega) (by unfold fu; omega) rfl
  · subst h
    unfold wlX12_often_141
    rw [e1]
    exact k1 (nI_le (Nat.le_refl _) (by omega)) hp
  · subst h
    unfold wlX12_often_141 wjX12_often_195 wjX12_often_196 wpX12_has
    obtain ⟨m1, m2, m3, m4, m5, m6⟩ := hm i hi
    have hk4 : nI (kd i) = 4 ↔ kd i = 4 := eq3 (c := 4) m6 (by decide)
    have go : ∀ b : Bool, ((hb (f 2) i && !hb y i) && decide (kd i ≠ 4)) = b → wlX12_often_141 f lane many items post m y ag (nI (cnt (fun i => (hb (f 2) i && !hb y i) && decide (kd i ≠ 4)) i) + bz b) (nI (i + 1)) st := by
      intro b hb'
      refine k _ ?_
      rw [cnt, hb']
      cases b
      · show _ + nI 0 = _
        rw [nI_add]
        rfl
      · show _ + nI 1 = _
        rw [nI_add]
        rfl
    rw [e1, nI_1]
    refine k2 (nI_ge hi (by omega)) ⟨fun q1 => kf' (go false (by rw [show hb (f 2) i = false from decide_eq_false q1]; rfl)), fun q1 => kt' ?_⟩
    have g1 : hb (f 2) i = true := decide_eq_true q1
    refine ⟨fun q2 => kf (m_kind (by omega) m1 ⟨fun q3 => go false ?_, fun q3 => go true ?_⟩), fun q2 => kt (go false ?_)⟩
    · rw [decide_eq_false (by simpa using hk4.mp q3), Bool.and_false]
    · rw [g1, show hb y i = false from decide_eq_false q2, decide_eq_true (show kd i ≠ 4 from fun e => q3 (hk4.mpr e))]
      rfl
    · rw [show hb y i = true from decide_eq_true q2]
      simp
theorem hb_and : ∀ r, r < 8 → ∀ s, s < 8 → ∀ i, i < 3 → hb (nI r &&& (nI s ^^^ (-1))) i = (hb (nI r) i && !hb (nI s) i) := by
  unfold hb
  decide +kernel
theorem sh1 : ∀ n, n < 4 → (1 : Int32) <<< (nI n &&& 31) = nI (2 ^ n) := by decide +kernel
theorem cnt_c {P Q : Nat → Bool} : ∀ n, (∀ i, i < n → P i = Q i) → cnt P n = cnt Q n
  | 0, _ => rfl
  | n + 1, h => by
    rw [cnt, cnt, cnt_c n (fun i hi => h i (by omega)), h n (by omega)]
def sF (g : Nat → Int32) : Nat → Int32
  | 0 => 0
  | k + 1 => sF g k + (g k - 1)
theorem sF_b {g : Nat → Int32} : ∀ k, (∀ q, q < k → ¬ g q < 1 ∧ g q ≤ 4) → ∃ m, m ≤ 3 * k ∧ sF g k = nI m
  | 0, _ => ⟨0, by decide, rfl⟩
  | k + 1, h => by
    obtain ⟨m, h1, h2⟩ := sF_b k (fun q hq => h q (by omega))
    obtain ⟨g1, g2⟩ := h k (by omega)
    rcases ix_case (g k) 5 (by decide) with q | ⟨-, q⟩ | ⟨x, hx, e⟩
    · exact absurd (Int32.lt_trans q (by decide)) g1
    · exact absurd (gt_of_ge (n := 4) q (by decide)) (Int32.not_lt.mpr g2)
    · have x0 : 0 < x := by
        rcases Nat.eq_zero_or_pos x with z | z
        · subst z
          exact absurd (by rw [e]; decide) g1
        · exact z
      refine ⟨m + (x - 1), by omega, ?_⟩
      rw [sF, h2, e, sub1 x0, nI_add]
theorem pu_often : Pu_often Inv := by
  intro S M ns hV p0 p1 p2 p3
  obtain ⟨n, d, w, r, A, kd, ch, ga, lo, hN, hc, hm, -⟩ := VI_to hV.2.2.2.2.1
  obtain ⟨a1, a2, a3, a4, a5, a6, a7, a8, a9, b1, b2, -⟩ := hN
  obtain ⟨hR, hst, hrest⟩ := id hV
  unfold wpX11_often wpX12_often wpX11_found wpX12_found
  have e2 : (1 : Int32) <<< (nI n &&& 31) = nI (2 ^ n) := sh1 n (by omega)
  have h2n : 2 ^ n ≤ 2 ^ 3 := Nat.pow_le_pow_right (by decide) a1
  have h2p : 0 < 2 ^ n := Nat.two_pow_pos n
  rw [a5, b1, e2, sub1 h2p]
  refine ⟨fun hth => ?_, fun hth => vil (b := false) (by rw [a9, hth]) (kf ⟨rfl, hV⟩)⟩
  have hvl : ∀ {post : Bool → Prop}, post true → wpX12_isVillage M.2.1.2.2.2.2.2.1 post := fun hp => vil (b := true) (by rw [a9, hth]) hp
  rcases row_case p0 with ⟨rc, rm⟩ | ⟨j, hj, rfl, rc, rm⟩
  · exact rc _ (kf' (hvl (kt (rm _ (kf' ⟨rfl, hV⟩)))))
  refine rc _ (kt' ?_)
  rcases ix_case p2 11 (by decide) with h | ⟨h, h1⟩ | ⟨c, hcc, rfl⟩
  · exact k1 h (hvl (kt (rm _ (kt' (in_f (Or.inl h) (kf' ⟨rfl, hV⟩))))))
  · have h2 := gt_of_ge (n := 10) h1 (by decide)
    exact k2 h (k1 h2 (hvl (kt (rm _ (kt' (in_f (Or.inr h2) (kf' ⟨rfl, hV⟩)))))))
  have c1 : ¬ (10 : Int32) < nI c := nI_nlt (a := 10) (by omega) (by decide)
  refine k2 (nI_pos (by omega)) (k2 c1 ?_)
  have gin : ∀ {q : Bool → Prop}, q true → wpX12_in (nI c) 0 10 q := fun hq => in_t (nI_pos (by omega)) c1 hq
  rcases ix_case p3 (2 ^ n) (by omega) with h | ⟨h, h1⟩ | ⟨s, hs, rfl⟩
  · exact k1 h (hvl (kt (rm _ (kt' (gin (kt' (in_f (Or.inl h) (kf ⟨rfl, hV⟩))))))))
  · refine k2 h (k2 (Int32.not_lt.mpr h1) (hvl (kt (rm _ (kt' (gin (kt' (in_f (Or.inr ?_) (kf ⟨rfl, hV⟩)))))))))
    exact gt_of_ge (n := 2 ^ n - 1) (by rw [Nat.sub_add_cancel h2p]; exact h1) (by omega)
  have gin3 : ∀ {q : Bool → Prop}, q true → wpX12_in (nI s) 0 (nI (2 ^ n - 1)) q := fun hq => in_t (nI_pos (by omega)) (nI_nlt (by omega) (by omega)) hq
  refine k2 (nI_pos (by omega)) (k1 (nI_lt hs (by omega)) ?_)
  have pre : ∀ {q : Bool → Prop}, wpX12_isMissing (nI j) M.2.1.1 q → wpX12_isVillage M.2.1.2.2.2.2.2.1 (fun r1 => (r1 = true → wpX12_isRow (nI j) (fun r2 => (r2 = false → True) ∧ (r2 = true → wpX12_isMissing (nI j) M.2.1.1 q))) ∧ (r1 = false → True)) := fun h => hvl (kt (rm _ (kt' h)))
  rcases miss_case hR hj with ⟨ec, em⟩ | ⟨t, m, ht, hm40, h1, h2, h3, h4, ec, em⟩
  · exact ec _ (kt' (hvl (kt (rm _ (kt' (gin (kt' (gin3 (kt (em _ (kt' ⟨rfl, hR, rfl, hrest⟩))))))))))) 
  refine ec _ (kf' ?_)
  rcases part_case hj hm40 h3 h4 p1 (nI c) with ⟨qc, qm⟩ | ⟨i, c', hic, rfl, ecc, qc, qm⟩
  · exact qc _ (kf (hvl (kt (rm _ (kt' (gin (kt' (gin3 (kt (em _ (kf' (qm _ (kf ⟨rfl, hR, rfl, hrest⟩))))))))))))) 
  have : c = c' := (nI_eq (by omega) (by omega)).mp ecc
  subst this
  refine qc _ (kt ?_)
  have itq : ∀ k, k < c → S.2.1.1 j (i + k) = M.2.1.2.2.1 (40 * j + i + k) := fun k hk => by
    rw [(hR j hj).1 (i + k) (by omega), show 40 * j + (i + k) = 40 * j + i + k by omega]
  have cls : ∀ (post : Int32 → Int32 → Prop), ((∀ k, k < c → ¬ S.2.1.1 j (i + k) < 1 ∧ S.2.1.1 j (i + k) ≤ 4) → wpX9_howManyMayRepeat (S.2.2.2.1.2.2.2.2.2.1 &&& (nI s ^^^ (-1))) (nI n) S.2.2.2.1.2.2.2.2.2.2.1 (pN ns) (fun r1 => wpX11_orders r1 (sF (fun k => S.2.1.1 j (i + k)) c) (fun r2 => post r2 0))) → ((¬ ∀ k, k < c → ¬ S.2.1.1 j (i + k) < 1 ∧ S.2.1.1 j (i + k) ≤ 4) → post (-1000001) S.1.2.2.2) → wlX11_often_94 S.2.2.2.1.1 (nI n) S.2.2.2.1.2.2.2.2.2.1 S.2.1.2.2 S.2.2.2.1.2.2.2.2.2.2.1 S.2.1.1 (pN ns) post fu (nI j) (nI i) (nI c) (nI s) 0 (nI i) S.1.2.2.2 := by
    intro post hgood hbad
    refine lp (σ := Int32) (fun m k x => wlX11_often_94 S.2.2.2.1.1 (nI n) S.2.2.2.1.2.2.2.2.2.1 S.2.1.2.2 S.2.2.2.1.2.2.2.2.2.2.1 S.2.1.1 (pN ns) post m (nI j) (nI i) (nI c) (nI s) x (nI (i + k)) S.1.2.2.2) (fun k x => x = sF (fun k => S.2.1.1 j (i + k)) k ∧ ∀ q, q < k → ¬ S.2.1.1 j (i + q) < 1 ∧ S.2.1.1 j (i + q) ≤ 4) c (fun m x h => ?_) (fun m k x hk h kk => ?_) fu 0 0 (by omega) (by unfold fu; omega) ⟨rfl, fun q hq => absurd hq (Nat.not_lt_zero q)⟩
    · obtain ⟨h1, h2⟩ := h
      subst h1
      unfold wlX11_often_94 wpX11_answered
      rw [nI_add]
      exact k1 (nI_le (Nat.le_refl _) (by omega)) (hgood h2)
    · obtain ⟨h1, h2⟩ := h
      subst h1
      unfold wlX11_often_94 wpX4_itemAt
      rw [nI_add, cl8 hj, nI_clamp (show i + k < 2 ^ 31 by omega), nI_1]
      refine k2 (nI_ge (by omega) (by omega)) ⟨in8 hj, vp_in_nI (by omega) (by decide), fun q1 => hbad (fun h => (h k hk).1 q1), fun q1 => ⟨fun q2 => kk _ ⟨rfl, fun q hq => ?_⟩, fun q2 => hbad (fun h => q2 (h k hk).2)⟩⟩
      by_cases e : q = k
      · subst e
        exact ⟨q1, q2⟩
      · exact h2 q (by omega)
  have mod : ∀ (post : Int32 → Int32 → Prop), ((∀ k, k < c → ¬ S.2.1.1 j (i + k) < 1 ∧ S.2.1.1 j (i + k) ≤ 4) → wlX12_often_141 M.2.1.2.2.2.2.2.1 M.2.1.1 M.2.1.2.1 M.2.1.2.2.1 post fu (nI s) (sF (fun k => S.2.1.1 j (i + k)) c) 0 0 M.1.1) → ((¬ ∀ k, k < c → ¬ S.2.1.1 j (i + k) < 1 ∧ S.2.1.1 j (i + k) ≤ 4) → post (-1000001) M.1.1) → wlX12_often_85 M.2.1.2.2.2.2.2.1 M.2.1.1 M.2.1.2.1 M.2.1.2.2.1 post fu (nI j) (nI i) (nI c) (nI s) 0 0 M.1.1 := by
    intro post hgood hbad
    refine lp (σ := Int32) (fun m k x => wlX12_often_85 M.2.1.2.2.2.2.2.1 M.2.1.1 M.2.1.2.1 M.2.1.2.2.1 post m (nI j) (nI i) (nI c) (nI s) x (nI k) M.1.1) (fun k x => x = sF (fun k => S.2.1.1 j (i + k)) k ∧ ∀ q, q < k → ¬ S.2.1.1 j (i + q) < 1 ∧ S.2.1.1 j (i + q) ≤ 4) c (fun m x h => ?_) (fun m k x hk h kk => ?_) fu 0 0 (by omega) (by unfold fu; omega) ⟨rfl, fun q hq => absurd hq (Nat.not_lt_zero q)⟩
    · obtain ⟨h1, h2⟩ := h
      subst h1
      unfold wlX12_often_85
      exact k1 (nI_le (Nat.le_refl _) (by omega)) (hgood h2)
    · obtain ⟨h1, h2⟩ := h
      subst h1
      unfold wlX12_often_85
      rw [ix40a, nI_clamp (show 40 * j + i + k < 2 ^ 31 by omega), nI_1, ← itq k hk]
      refine k2 (nI_ge hk (by omega)) ⟨vp_in_nI (by omega) (by decide), ?_⟩
      by_cases q1 : S.2.1.1 j (i + k) < 1
      · exact in_f (Or.inl q1) (kf (hbad (fun h => (h k hk).1 q1)))
      · by_cases q2 : S.2.1.1 j (i + k) ≤ 4
        · refine in_t q1 (Int32.not_lt.mpr q2) (kt (kk _ ⟨rfl, fun q hq => ?_⟩))
          by_cases e : q = k
          · subst e
            exact ⟨q1, q2⟩
          · exact h2 q (by omega)
        · exact in_f (Or.inr (Int32.not_le.mp q2)) (kf (hbad (fun h => q2 (h k hk).2)))
  have prem : ∀ (post : Int32 → Int32 → Prop), wlX12_often_85 M.2.1.2.2.2.2.2.1 M.2.1.1 M.2.1.2.1 M.2.1.2.2.1 post fu (nI j) (nI i) (nI c) (nI s) 0 0 M.1.1 → wpX12_often (nI j) (nI i) (nI c) (nI s) M.1.1 M.2.1.2.2.2.2.2.1 M.2.1.1 M.2.1.2.1 M.2.1.2.2.1 post := by
    intro post hp
    unfold wpX12_often
    rw [b1, e2, sub1 h2p]
    exact hvl (kt (rm _ (kt' (gin (kt' (gin3 (kt (em _ (kf' (qm _ (kt hp)))))))))))
  refine cls _ (fun hg => ?_) (fun hbd => ?_)
  · obtain ⟨m2, m3, m4⟩ := sF_b (g := fun k => S.2.1.1 j (i + k)) c hg
    rw [a8]
    refine many_c a1 hc ?_
    unfold wpX11_orders
    rw [m4]
    refine ord_c (m := m2) (by omega) fu 0 1 (by omega) (by unfold fu; omega) ?_
    have hcnt : cnt (fun i => hb (nI r &&& (nI s ^^^ (-1))) i && decide (kd i ≠ 4)) n = cnt (fun i => hb (M.2.1.2.2.2.2.2.1 2) i && !hb (nI s) i && decide (kd i ≠ 4)) n := cnt_c n (fun i hi => by
      show (hb (nI r &&& (nI s ^^^ (-1))) i && decide (kd i ≠ 4)) = (hb (M.2.1.2.2.2.2.2.1 2) i && !hb (nI s) i && decide (kd i ≠ 4))
      rw [hb_and r a4 s (by omega) i (by omega), b2])
    have := prem (fun r2 w_m_status => oR (nI (cnt (fun i => hb (nI r &&& (nI s ^^^ (-1))) i && decide (kd i ≠ 4)) n)) (m2 - 0) 1 0 = r2 ∧ Inv ((S.1.1, S.1.2.1, S.1.2.2.1, 0), S.2.1, S.2.2.1, S.2.2.2.1, S.2.2.2.2.1, S.2.2.2.2.2.1, S.2.2.2.2.2.2.1, S.2.2.2.2.2.2.2.1, S.2.2.2.2.2.2.2.2.1, S.2.2.2.2.2.2.2.2.2) ((w_m_status, M.1.2.1, M.1.2.2.1, M.1.2.2.2.1, M.1.2.2.2.2.1, M.1.2.2.2.2.2.1, M.1.2.2.2.2.2.2.1, M.1.2.2.2.2.2.2.2.1, M.1.2.2.2.2.2.2.2.2.1, M.1.2.2.2.2.2.2.2.2.2.1, M.1.2.2.2.2.2.2.2.2.2.2), M.2.1, M.2.2) ns) (mod _ (fun _ => many_m a1 b1 hm (by rw [m4]; exact ord_m (by omega) fu 0 1 (by omega) (by unfold fu; omega) ⟨by rw [hcnt], hR, rfl, hrest⟩)) (fun hbd => absurd hg hbd))
    unfold wpX12_often at this
    rw [b1, e2, sub1 h2p] at this
    exact this
  · have := prem (fun r2 w_m_status => (-1000001 : Int32) = r2 ∧ Inv ((S.1.1, S.1.2.1, S.1.2.2.1, S.1.2.2.2), S.2.1, S.2.2.1, S.2.2.2.1, S.2.2.2.2.1, S.2.2.2.2.2.1, S.2.2.2.2.2.2.1, S.2.2.2.2.2.2.2.1, S.2.2.2.2.2.2.2.2.1, S.2.2.2.2.2.2.2.2.2) ((w_m_status, M.1.2.1, M.1.2.2.1, M.1.2.2.2.1, M.1.2.2.2.2.1, M.1.2.2.2.2.2.1, M.1.2.2.2.2.2.2.1, M.1.2.2.2.2.2.2.2.1, M.1.2.2.2.2.2.2.2.2.1, M.1.2.2.2.2.2.2.2.2.2.1, M.1.2.2.2.2.2.2.2.2.2.2), M.2.1, M.2.2) ns) (mod _ (fun hg => absurd hg hbd) (fun _ => ⟨rfl, hV⟩))
    unfold wpX12_often at this
    rw [b1, e2, sub1 h2p] at this
    exact this
