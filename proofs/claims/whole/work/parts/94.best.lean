-- the best habit, by class and by reference
def uh (h : Nat → Nat) (i x : Nat) : Nat → Nat := fun j => if j = i then x else h j
def bb (m : Nat → Int) : Nat → Nat × Int
  | 0 => (0, 0)
  | k + 1 => if k = 0 ∨ (bb m k).2 < m k then (k, m k) else bb m k
theorem bb_P {m : Nat → Int} {P : Int → Prop} (h0 : P 0) (hm : ∀ x, x < 3 → P (m x)) : ∀ k, k ≤ 3 → P (bb m k).2
  | 0, _ => h0
  | k + 1, hk => by
    rw [bb]
    by_cases h : k = 0 ∨ (bb m k).2 < m k
    · rw [if_pos h]
      exact hm k (by omega)
    · rw [if_neg h]
      exact bb_P h0 hm k (by omega)
theorem bb_y {m : Nat → Int} {k : Nat} (h : k = 0 ∨ (bb m k).2 < m k) : bb m (k + 1) = (k, m k) := by rw [bb, if_pos h]
theorem bb_n {m : Nat → Int} {k : Nat} (h : k ≠ 0) (h2 : m k ≤ (bb m k).2) : bb m (k + 1) = bb m k := by
  rw [bb, if_neg (by omega)]
theorem Rg0 : Rg 0 := ⟨by decide, by decide⟩
theorem uh_b {h : Nat → Nat} {n i x : Nat} (hh : ∀ j, j < n → h j ≤ 2) (hx : x < 3) : ∀ j, j < n → uh h i x j ≤ 2 := by
  intro j hj
  unfold uh
  by_cases e : j = i
  · rw [if_pos e]
    omega
  · rw [if_neg e]
    exact hh j hj
theorem uh_H {h : Nat → Nat} {H : Nat → Int32} {n i x : Nat} (hH : ∀ j, j < n → j ≠ i → H j = nI (h j)) : ∀ j, j < n → upd H i (nI x) j = nI (uh h i x j) := by
  intro j hj
  unfold uh
  by_cases e : j = i
  · rw [if_pos e, e, upd_s]
  · rw [if_neg e, upd_n e]
    exact hH j hj e
theorem c_le {c a b : Int} (hc : 0 < c) : c * a ≤ c * b ↔ a ≤ b := ⟨fun h => Int.le_of_mul_le_mul_left h hc, fun h => Int.mul_le_mul_of_nonneg_left h (Int.le_of_lt hc)⟩
section best
variable {n r : Nat} {A kd ch ga lo h : Nat → Nat}
theorem bestHabit_c {pe : Pe} {people : Nat → Option Nat} {H : Nat → Int32} (a1 : n ≤ 3) (a4 : r < 8) (hc : PCl pe people n A kd ch ga lo) (hb : PBd n ch ga lo) (hh : ∀ i, i < n → h i ≤ 2) {i : Nat} (hi : i < n) (hH : ∀ j, j < n → j ≠ i → H j = nI (h j)) {bl br rc : Nat → Int64} {post : Int32 → (Nat → Int32) → (Nat → Int64) → (Nat → Int64) → (Nat → Int64) → Prop}
    (hp : ∀ H' bl' br' rc', post (nI (bb (fun x => mu (n, r, kd, ch, ga, lo, uh h i x) i) 3).1) H' bl' br' rc') : wpX1_bestHabit (nI i) (nI n) (nI r) H bl br rc people pe post := by
  have hbb : ∀ i, i < n → ga i ≤ 99 ∧ lo i ≤ 99 := fun i hi => (hb i hi).2
  have cpos : (0 : Int) < ((10 ^ (12 - 4 * n) : Nat) : Int) := by
    have : 0 < 10 ^ (12 - 4 * n) := Nat.pow_pos (by decide)
    omega
  have v3 : vp_in (nI i) 3 := vp_in_nI (by omega) (by decide)
  unfold wpX1_bestHabit
  refine lp (σ := Int32 × Int64 × (Nat → Int32) × (Nat → Int64) × (Nat → Int64) × (Nat → Int64)) (fun m k s => wlX1_bestHabit_8 (nI n) (nI r) people pe post m (nI i) s.1 s.2.1 (nI k) s.2.2.1 s.2.2.2.1 s.2.2.2.2.1 s.2.2.2.2.2) (fun k s => s.1 = nI (bb (fun x => mu (n, r, kd, ch, ga, lo, uh h i x) i) k).1 ∧ s.2.1 = iL (((10 ^ (12 - 4 * n) : Nat) : Int) * (bb (fun x => mu (n, r, kd, ch, ga, lo, uh h i x) i) k).2) ∧ ∀ j, j < n → j ≠ i → s.2.2.1 j = nI (h j)) 3 (fun m s q => ?_) (fun m k s hk q kk => ?_) fu 0 (0, 0, H, bl, br, rc) (by decide) (by decide) ⟨rfl, ?_, hH⟩
  · unfold wlX1_bestHabit_8
    refine k1 (nI_le (a := 3) (Nat.le_refl _) (by decide)) ?_
    rw [q.1]
    exact hp _ _ _ _
  · obtain ⟨q1, q2, q3⟩ := q
    unfold wlX1_bestHabit_8 wjX1_bestHabit_44 wjX1_bestHabit_55
    refine k2 (nI_ge (b := 3) hk (by decide)) ⟨v3, ?_⟩
    rw [nI_clamp (show i < 2 ^ 31 by omega), nI_1]
    refine tell_c (GC_of a1 a4 hc hb (uh_H q3) (uh_b hh hk)) (fun bl' br' rc' hRC => ?_)
    obtain ⟨e, -, -⟩ := mean_e (G := (n, r, kd, ch, ga, lo, uh h i k)) a1 a4 hbb hi
    obtain ⟨g1, g2⟩ := mu_b (G := (n, r, kd, ch, ga, lo, uh h i k)) a1 a4 hbb hi
    have ebr : br' i = iL (((10 ^ (12 - 4 * n) : Nat) : Int) * mu (n, r, kd, ch, ga, lo, uh h i k) i) := by
      rw [hRC.2.2 i hi, e]
      rfl
    have hH' : ∀ j, j < n → j ≠ i → upd s.2.2.1 i (nI k) j = nI (h j) := fun j hj e => by
      rw [upd_n e]
      exact q3 j hj e
    have take : (k = 0 ∨ (bb (fun x => mu (n, r, kd, ch, ga, lo, uh h i x) i) k).2 < mu (n, r, kd, ch, ga, lo, uh h i k) i) → wlX1_bestHabit_8 (nI n) (nI r) people pe post m (nI i) (nI k) (br' i) (nI (k + 1)) (upd s.2.2.1 i (nI k)) bl' br' rc' := fun hy => kk (nI k, br' i, upd s.2.2.1 i (nI k), bl', br', rc') ⟨by rw [bb_y hy], by rw [bb_y hy]; exact ebr, hH'⟩
    refine ⟨fun z => ⟨v3, take (Or.inl ((nI_eq (b := 0) (by omega) (by decide)).mp z))⟩, fun z => ⟨v3, ?_⟩⟩
    have z' : k ≠ 0 := fun e => z (by rw [e]; rfl)
    have hRg : Rg (((10 ^ (12 - 4 * n) : Nat) : Int) * (bb (fun x => mu (n, r, kd, ch, ga, lo, uh h i x) i) k).2) := bb_P (P := fun z => Rg (((10 ^ (12 - 4 * n) : Nat) : Int) * z)) (by rw [Int.mul_zero]; exact Rg0) (fun x hx => (mu_b (G := (n, r, kd, ch, ga, lo, uh h i x)) a1 a4 hbb hi).1) k (by omega)
    have iff : br' i ≤ s.2.1 ↔ mu (n, r, kd, ch, ga, lo, uh h i k) i ≤ (bb (fun x => mu (n, r, kd, ch, ga, lo, uh h i x) i) k).2 := by
      have g1' : Rg (((10 ^ (12 - 4 * n) : Nat) : Int) * mu (n, r, kd, ch, ga, lo, uh h i k) i) := g1
      rw [ebr, q2, iL_le g1' hRg, c_le cpos]
    refine ⟨fun w => kk (s.1, s.2.1, upd s.2.2.1 i (nI k), bl', br', rc') ?_, fun w => ⟨v3, take (Or.inr ?_)⟩⟩
    · have := bb_n (m := fun x => mu (n, r, kd, ch, ga, lo, uh h i x) i) z' (iff.mp w)
      exact ⟨by rw [this]; exact q1, by rw [this]; exact q2, hH'⟩
    · exact Int.not_le.mp (fun w2 => w (iff.mpr w2))
  · show (0 : Int64) = iL (_ * 0)
    rw [Int.mul_zero]
    rfl
theorem bestOf_m {f H : Nat → Int32} (a1 : n ≤ 3) (a4 : r < 8) (b1 : f 1 = nI n) (b2 : f 2 = nI r) (hm : PMo f n kd ch ga lo) (hb : PBd n ch ga lo) (hh : ∀ i, i < n → h i ≤ 2) {i : Nat} (hi : i < n) (hH : ∀ j, j < n → j ≠ i → H j = nI (h j)) {cm st bm : Nat → Int64} {post : Int32 → (Nat → Int32) → (Nat → Int64) → (Nat → Int64) → (Nat → Int64) → Prop}
    (hp : ∀ H' cm' st' bm', post (nI (bb (fun x => mu (n, r, kd, ch, ga, lo, uh h i x) i) 3).1) H' cm' st' bm') : wpX12_bestOf (nI i) H f cm st bm post := by
  have hbb : ∀ i, i < n → ga i ≤ 99 ∧ lo i ≤ 99 := fun i hi => (hb i hi).2
  have v3 : vp_in (nI i) 3 := vp_in_nI (by omega) (by decide)
  unfold wpX12_bestOf
  refine ⟨v3, ?_⟩
  refine lp (σ := Int32 × Int64 × (Nat → Int32) × (Nat → Int64) × (Nat → Int64) × (Nat → Int64)) (fun m k s => wlX12_bestOf_15 f post m (nI i) (H ((nI i).toNatClampNeg)) s.1 s.2.1 (nI k) s.2.2.1 s.2.2.2.1 s.2.2.2.2.1 s.2.2.2.2.2) (fun k s => s.1 = nI (bb (fun x => mu (n, r, kd, ch, ga, lo, uh h i x) i) k).1 ∧ s.2.1 = iL (bb (fun x => mu (n, r, kd, ch, ga, lo, uh h i x) i) k).2 ∧ ∀ j, j < n → j ≠ i → s.2.2.1 j = nI (h j)) 3 (fun m s q => ?_) (fun m k s hk q kk => ?_) fu 0 (0, 0, H, cm, st, bm) (by decide) (by decide) ⟨rfl, rfl, hH⟩
  · unfold wlX12_bestOf_15
    refine k1 (nI_le (a := 3) (Nat.le_refl _) (by decide)) ⟨v3, ?_⟩
    rw [q.1]
    exact hp _ _ _ _
  · obtain ⟨q1, q2, q3⟩ := q
    unfold wlX12_bestOf_15 wjX12_bestOf_53 wjX12_bestOf_59 wjX12_bestOf_73 wjX12_bestOf_80
    refine k2 (nI_ge (b := 3) hk (by decide)) ⟨v3, ?_⟩
    rw [nI_clamp (show i < 2 ^ 31 by omega), nI_1]
    refine lays_m (GM_of a1 a4 b1 b2 hm hb (uh_H q3) (uh_b hh hk)) (fun cm' st' bm' hRM => meanOf_m a1 b1 hRM hi ?_)
    obtain ⟨g1, g2⟩ := mu_b (G := (n, r, kd, ch, ga, lo, uh h i k)) a1 a4 hbb hi
    have hH' : ∀ j, j < n → j ≠ i → upd s.2.2.1 i (nI k) j = nI (h j) := fun j hj e => by
      rw [upd_n e]
      exact q3 j hj e
    have take : (k = 0 ∨ (bb (fun x => mu (n, r, kd, ch, ga, lo, uh h i x) i) k).2 < mu (n, r, kd, ch, ga, lo, uh h i k) i) → wlX12_bestOf_15 f post m (nI i) (H ((nI i).toNatClampNeg)) (nI k) (iL (mu (n, r, kd, ch, ga, lo, uh h i k) i)) (nI (k + 1)) (upd s.2.2.1 i (nI k)) cm' st' bm' := fun hy => kk (nI k, iL (mu (n, r, kd, ch, ga, lo, uh h i k) i), upd s.2.2.1 i (nI k), cm', st', bm') ⟨by rw [bb_y hy], by rw [bb_y hy], hH'⟩
    rw [nI_clamp (show i < 2 ^ 31 by omega)] at take
    have hRg : Rg (bb (fun x => mu (n, r, kd, ch, ga, lo, uh h i x) i) k).2 := bb_P (P := Rg) Rg0 (fun x hx => (mu_b (G := (n, r, kd, ch, ga, lo, uh h i x)) a1 a4 hbb hi).2) k (by omega)
    have iff : iL (mu (n, r, kd, ch, ga, lo, uh h i k) i) ≤ s.2.1 ↔ mu (n, r, kd, ch, ga, lo, uh h i k) i ≤ (bb (fun x => mu (n, r, kd, ch, ga, lo, uh h i x) i) k).2 := by
      rw [q2, iL_le g2 hRg]
    by_cases z : nI k = 0
    · have z' : k = 0 := (nI_eq (b := 0) (by omega) (by decide)).mp z
      exact k1 z (k1 z (take (Or.inl z')))
    · have z' : k ≠ 0 := fun e => z (by rw [e]; rfl)
      refine k2 z ?_
      by_cases w : iL (mu (n, r, kd, ch, ga, lo, uh h i k) i) ≤ s.2.1
      · have := bb_n (m := fun x => mu (n, r, kd, ch, ga, lo, uh h i x) i) z' (iff.mp w)
        have go := kk (s.1, s.2.1, upd s.2.2.1 i (nI k), cm', st', bm') ⟨by rw [this]; exact q1, by rw [this]; exact q2, hH'⟩
        rw [nI_clamp (show i < 2 ^ 31 by omega)] at go
        exact k1 w (k2 z (k1 w go))
      · have go := take (Or.inr (Int.not_le.mp (fun w2 => w (iff.mpr w2))))
        exact k2 w (k2 z (k2 w go))
end best
theorem pu_best : Pu_best Inv := by
  intro S M ns hV p0 p1
  obtain ⟨n, d, w, r, A, kd, ch, ga, lo, hN, hc, hm, hb1, hb2⟩ := VI_to hV.2.2.2.2.1
  obtain ⟨a1, a2, a3, a4, a5, a6, a7, a8, a9, b1, b2, b3, b4, b5, b6, b7, b8, c1, c2, c3⟩ := hN
  obtain ⟨hR, hst, hrest⟩ := id hV
  unfold wpX11_best wpX11_habitsOfPerson wpX12_best
  rw [a5]
  refine ⟨fun hth => ?_, fun hth => k2 (by decide) (vil (b := false) (by rw [a9, hth]) (kf ⟨rfl, hV⟩))⟩
  have hvl : ∀ {post : Bool → Prop}, post true → wpX12_isVillage M.2.1.2.2.2.2.2.1 post := fun hp => vil (b := true) (by rw [a9, hth]) hp
  rcases row_case p0 with ⟨rc, rm⟩ | ⟨j, hj, rfl, rc, rm⟩
  · exact rc _ (kf' (k2 (by decide) (hvl (kt (rm _ (kf' ⟨rfl, hV⟩))))))
  refine rc _ (kt' ?_)
  rcases pa_case a1 hc b1 p1 with ⟨qc, qm⟩ | ⟨i, hi, rfl, qc, qm⟩
  · exact qc _ (kn (k2 (by decide) (hvl (kt (rm _ (kt' (qm _ (kf ⟨rfl, hV⟩))))))))
  refine qc _ (ks ⟨(hc i hi).2.1, ?_⟩)
  rcases hab hR hj a1 b1 S.1.2.2.2 S.2.2.2.2.2.2.2.1.2.1 M.2.1.2.2.2.2.2.2.2.2.2.2.2.2 with ⟨ρ, fnd', hρ, tc, tm⟩ | ⟨h, hh, tc, tm⟩
  · rw [hst] at tm
    exact tc _ (fun H => k2 hρ (hvl (kt (rm _ (kt' (qm _ (kt (tm _ (fun H2 => k2 hρ ⟨rfl, hR, rfl, hrest⟩)))))))))
  rw [hst] at tm
  refine tc _ (fun H hH => k1 rfl ?_)
  rw [a8]
  refine bestHabit_c a1 a4 hc hb1 hh hi (fun j hj _ => hH j hj) (fun H' bl' br' rc' => ?_)
  refine hvl (kt (rm _ (kt' (qm _ (kt (tm _ (fun H2 hH2 => k1 rfl (bestOf_m a1 a4 b1 b2 hm hb1 hh hi (fun j hj _ => hH2 j hj) (fun H3 cm' st' bm' => ?_)))))))))
  unfold wpX12_well
  exact ⟨rfl, hR, rfl, hrest⟩
