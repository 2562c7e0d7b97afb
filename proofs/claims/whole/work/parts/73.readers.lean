-- readers: count, person, as, ask
theorem lp {σ : Type} (W : Nat → Nat → σ → Prop) (I : Nat → σ → Prop) (e : Nat) (hx : ∀ n s, I e s → W (n + 1) e s) (hs : ∀ n i s, i < e → I i s → (∀ s', I (i + 1) s' → W n (i + 1) s') → W (n + 1) i s) : ∀ (n i : Nat) (s : σ), i ≤ e → e < n + i → I i s → W n i s := by
  intro n
  induction n with
  | zero => intro i s h1 h2; omega
  | succ n ih =>
    intro i s h1 h2 hI
    by_cases h : i = e
    · subst h
      exact hx n s hI
    · exact hs n i s (by omega) hI (fun s' h' => ih (i + 1) s' (by omega) (by omega) h')
theorem ne_out {x : Int32} {n k : Nat} (hn : n < 2 ^ 31) (h : x < 0 ∨ nI n ≤ x) (hk : k < n) : ¬ x = nI k := by
  rintro rfl
  rcases h with h | h
  · exact nI_pos (by omega) h
  · exact nI_ge hk hn h
def cn (P : Nat → Bool) : Nat → Nat
  | 0 => 0
  | k + 1 => cn P k + (if P k = true then 0 else 1)
theorem miss_fn {it : Nat → Nat → Int32} {la si lane many items : Nat → Int32} (h : RI it la si lane many items) : ∃ B : Nat → Bool, ∀ j, j < 8 → (∀ post : Bool → Prop, post (B j) → wpX4_isMissing (nI j) si post) ∧ (∀ post : Bool → Prop, post (B j) → wpX12_isMissing (nI j) lane post) := by
  have hx : ∀ j, ∃ b : Bool, j < 8 → (∀ post : Bool → Prop, post b → wpX4_isMissing (nI j) si post) ∧ (∀ post : Bool → Prop, post b → wpX12_isMissing (nI j) lane post) := by
    intro j
    by_cases hj : j < 8
    · rcases miss_case h hj with ⟨ec, em⟩ | ⟨t, n, ht, hn, h1, h2, h3, h4, ec, em⟩
      · exact ⟨true, fun _ => ⟨ec, em⟩⟩
      · exact ⟨false, fun _ => ⟨ec, em⟩⟩
    · exact ⟨false, fun q => absurd q hj⟩
  exact ⟨fun j => Classical.choose (hx j), fun j hj => Classical.choose_spec (hx j) hj⟩
theorem how_loop {si : Nat → Int32} {post : Int32 → Prop} {B : Nat → Bool} (hB : ∀ j, j < 8 → (∀ post : Bool → Prop, post (B j) → wpX4_isMissing (nI j) si post)) (hp : post (nI (cn B 8))) : wpX4_howMany si post := by
  unfold wpX4_howMany
  refine lp (σ := Int32) (fun n i s => wlX4_howMany_4 si post n s (nI i)) (fun i s => s = nI (cn B i)) 8 (fun n s h => ?_) (fun n i s hi h k => ?_) fu 0 _ (by decide) (by decide) rfl
  · subst h
    unfold wlX4_howMany_4
    exact k1 (nI_le (a := 8) (Nat.le_refl _) (by decide)) hp
  · subst h
    unfold wlX4_howMany_4 wjX4_howMany_21
    refine k2 (nI_ge hi (by decide)) (hB i hi _ ⟨fun e => ?_, fun e => ?_⟩)
    · rw [nI_1]
      exact k _ (by rw [show cn B (i + 1) = cn B i by rw [cn, e]; rfl])
    · rw [nI_1, nI_1]
      exact k _ (by rw [show cn B (i + 1) = cn B i + 1 by rw [cn, e]; rfl])
theorem mcount_loop {a b : Int32} {f lane : Nat → Int32} {post : Int32 → Prop} {B : Nat → Bool} (hB : ∀ j, j < 8 → (∀ post : Bool → Prop, post (B j) → wpX12_isMissing (nI j) lane post)) (hp : post (nI (cn B 8))) : wlX12_count_8 a b f lane post fu 0 0 := by
  refine lp (σ := Int32) (fun n i s => wlX12_count_8 a b f lane post n s (nI i)) (fun i s => s = nI (cn B i)) 8 (fun n s h => ?_) (fun n i s hi h k => ?_) fu 0 _ (by decide) (by decide) rfl
  · subst h
    unfold wlX12_count_8
    exact k1 (nI_le (a := 8) (Nat.le_refl _) (by decide)) hp
  · subst h
    unfold wlX12_count_8 wjX12_count_28
    refine k2 (nI_ge hi (by decide)) (hB i hi _ ⟨fun e => ?_, fun e => ?_⟩)
    · rw [nI_1]
      exact k _ (by rw [show cn B (i + 1) = cn B i + 1 by rw [cn, e]; rfl, show bz true = nI 1 from rfl, nI_add])
    · rw [nI_1]
      exact k _ (by rw [show cn B (i + 1) = cn B i by rw [cn, e]; rfl, show bz false = nI 0 from rfl, nI_add]; rfl)
theorem pu_count : Pu_count Inv := by
  intro S M ns hV p0
  obtain ⟨n, d, w, r, A, kd, ch, ga, lo, hN, hc, hm, hb⟩ := VI_to hV.2.2.2.2.1
  obtain ⟨a1, a2, a3, a4, a5, a6, a7, a8, a9, b1, b2, b3, b4, b5, b6, b7, b8, c1, c2, c3⟩ := hN
  obtain ⟨tn, t1, t2, t3, t4⟩ := hV.2.2.1
  obtain ⟨q, l, q1, q2, q3, q4, q5, -⟩ := hV.2.2.2.2.2.2.1
  obtain ⟨B, hB⟩ := miss_fn hV.1
  unfold wpX11_count wpX12_count
  rw [a5, a6, a8, t2, q4, t3, q5, b1, b2, b4, b5]
  rcases ix_case p0 8 (by decide) with h | ⟨h, h1⟩ | ⟨j, hj, rfl⟩
  · have e : ∀ k, k < 8 → ¬ p0 = nI k := fun k hk => ne_out (by decide) (Or.inl h) hk
    exact k2 (e 0 (by decide)) (k2 (e 1 (by decide)) (k2 (e 2 (by decide)) (k2 (e 3 (by decide)) (k2 (e 4 (by decide)) (k2 (e 5 (by decide)) (k2 (e 6 (by decide)) (k2 (e 7 (by decide)) (k4 (e 0 (by decide)) (in_f (Or.inl (Int32.lt_trans h (by decide))) (kf ⟨rfl, hV⟩))))))))))
  · have e : ∀ k, k < 8 → ¬ p0 = nI k := fun k hk => ne_out (by decide) (Or.inr h1) hk
    exact k2 (e 0 (by decide)) (k2 (e 1 (by decide)) (k2 (e 2 (by decide)) (k2 (e 3 (by decide)) (k2 (e 4 (by decide)) (k2 (e 5 (by decide)) (k2 (e 6 (by decide)) (k2 (e 7 (by decide)) (k4 (e 0 (by decide)) (in_f (Or.inr (gt_of_ge h1 (by decide))) (kf ⟨rfl, hV⟩))))))))))
  · have e : ∀ a b : Nat, a < 8 → b < 8 → a ≠ b → ¬ nI a = nI b := fun a b ha hb2 hne q => hne ((nI_eq (by omega) (by omega)).mp q)
    have g : ∀ {post : Bool → Prop}, 1 ≤ j → post true → wpX12_in (nI j) 1 7 post := fun h1 hp => in_t (nI_nlt (b := 1) h1 (by omega)) (nI_nlt (a := 7) (by omega) (by decide)) hp
    have hcs : j = 0 ∨ j = 1 ∨ j = 2 ∨ j = 3 ∨ j = 4 ∨ j = 5 ∨ j = 6 ∨ j = 7 := by omega
    rcases hcs with rfl | rfl | rfl | rfl | rfl | rfl | rfl | rfl
    · exact k1 rfl (how_loop (fun j hj => (hB j hj).1) (k3 rfl (mcount_loop (fun j hj => (hB j hj).2) ⟨rfl, hV⟩)))
    · exact k2 (by decide) (k1 rfl (k4 (by decide) (g (by decide) (kt (k3 rfl ⟨rfl, hV⟩)))))
    · exact k2 (by decide) (k2 (by decide) (k1 rfl (k4 (by decide) (g (by decide) (kt (k4 (by decide) (k3 rfl ⟨rfl, hV⟩)))))))
    · refine k2 (by decide) (k2 (by decide) (k2 (by decide) (k1 rfl ⟨vp_in_nI (by omega) (by decide), k4 (by decide) (g (by decide) (kt (k4 (by decide) (k4 (by decide) (k3 rfl ?_)))))⟩)))
      rw [show (24 : Int32) = nI 24 from rfl, nI_add, nI_clamp (show 24 + d < 2 ^ 31 by omega), nI_clamp (show d < 2 ^ 31 by omega)]
      exact ⟨vp_in_nI (by omega) (by decide), b7 d (by omega), hV⟩
    · exact k2 (by decide) (k2 (by decide) (k2 (by decide) (k2 (by decide) (k1 rfl (k4 (by decide) (g (by decide) (kt (k4 (by decide) (k4 (by decide) (k4 (by decide) (k3 rfl ⟨rfl, hV⟩)))))))))))
    · refine k2 (by decide) (k2 (by decide) (k2 (by decide) (k2 (by decide) (k2 (by decide) (k1 rfl ⟨fun hv => ?_, fun hv => ?_⟩)))))
      · exact (k4 (by decide) (g (by decide) (kt (k4 (by decide) (k4 (by decide) (k4 (by decide) (k4 (by decide) (k3 rfl ⟨by rw [hv]; rfl, hV⟩))))))))
      · exact (k4 (by decide) (g (by decide) (kt (k4 (by decide) (k4 (by decide) (k4 (by decide) (k4 (by decide) (k3 rfl ⟨by rw [hv]; rfl, hV⟩))))))))
    · exact k2 (by decide) (k2 (by decide) (k2 (by decide) (k2 (by decide) (k2 (by decide) (k2 (by decide) (k1 rfl (k4 (by decide) (g (by decide) (kt (k4 (by decide) (k4 (by decide) (k4 (by decide) (k4 (by decide) (k4 (by decide) (k3 rfl ⟨rfl, hV⟩)))))))))))))))
    · exact k2 (by decide) (k2 (by decide) (k2 (by decide) (k2 (by decide) (k2 (by decide) (k2 (by decide) (k2 (by decide) (k1 rfl (k4 (by decide) (g (by decide) (kt (k4 (by decide) (k4 (by decide) (k4 (by decide) (k4 (by decide) (k4 (by decide) (k4 (by decide) ⟨rfl, hV⟩))))))))))))))))
theorem bit1 {x : Int32} (h : ¬ x &&& 1 = 1) : x &&& 1 = 0 := by
  obtain ⟨j, hj, e⟩ := pk_andE x (m := 1) 1 (by decide)
  rw [e] at h ⊢
  have : j = 0 ∨ j = 1 := by omega
  rcases this with rfl | rfl
  · rfl
  · exact absurd rfl h
theorem pu_person : Pu_person Inv := by
  intro S M ns hV p0 p1
  obtain ⟨n, d, w, r, A, kd, ch, ga, lo, hN, hc, hm, hb⟩ := VI_to hV.2.2.2.2.1
  obtain ⟨a1, a2, a3, a4, a5, a6, a7, a8, a9, b1, b2, b3, b4, b5, b6, b7, b8, c1, c2, c3⟩ := hN
  unfold wpX11_person wpX12_person
  rw [a5, a7, a8, b2, b3, b4]
  rcases pa_case a1 hc b1 p0 with ⟨qc, qm⟩ | ⟨i, hi, rfl, qc, qm⟩
  · exact qc _ (kn (qm _ (kf' ⟨rfl, hV⟩)))
  · refine qc _ (ks ⟨(hc i hi).2.1, ?_⟩)
    have hi3 : i < 3 := by omega
    rw [(hc i hi).2.2.1, nI_clamp (show i < 2 ^ 31 by omega)]
    have i4 : (6 : Int32) + 6 * nI i + 4 = nI (10 + 6 * i) := by rw [show (4 : Int32) = nI 4 from rfl, ix6a]; congr 1; omega
    have i5 : (6 : Int32) + 6 * nI i + 5 = nI (11 + 6 * i) := by rw [show (5 : Int32) = nI 5 from rfl, ix6a]; congr 1; omega
    rw [i4, i5, nI_clamp (show 10 + 6 * i < 2 ^ 31 by omega), nI_clamp (show 11 + 6 * i < 2 ^ 31 by omega), (b6 i hi3).1, (b6 i hi3).2]
    rcases ix_case p1 8 (by decide) with h | ⟨h, h1⟩ | ⟨j, hj, rfl⟩
    · have e : ∀ k, k < 8 → ¬ p1 = nI k := fun k hk => ne_out (by decide) (Or.inl h) hk
      exact k2 (e 0 (by decide)) (k2 (e 1 (by decide)) (k2 (e 2 (by decide)) (k2 (e 3 (by decide)) (k2 (e 4 (by decide)) (k2 (e 5 (by decide)) (k2 (e 6 (by decide)) (k2 (e 7 (by decide)) (qm _ (kt' (in_f (Or.inl h) (kf ⟨rfl, hV⟩))))))))))) 
    · have e : ∀ k, k < 8 → ¬ p1 = nI k := fun k hk => ne_out (by decide) (Or.inr h1) hk
      exact k2 (e 0 (by decide)) (k2 (e 1 (by decide)) (k2 (e 2 (by decide)) (k2 (e 3 (by decide)) (k2 (e 4 (by decide)) (k2 (e 5 (by decide)) (k2 (e 6 (by decide)) (k2 (e 7 (by decide)) (qm _ (kt' (in_f (Or.inr (gt_of_ge h1 (by decide))) (kf ⟨rfl, hV⟩))))))))))) 
    · have g : ∀ {post : Bool → Prop}, post true → wpX12_in (nI j) 0 7 post := fun hp => in_t (nI_pos (by omega)) (nI_nlt (a := 7) (by omega) (by decide)) hp
      have i3 : (6 : Int32) + 6 * nI i + 1 + nI j = nI (7 + 6 * i + j) := by rw [show (1 : Int32) = nI 1 from rfl, ix6a, nI_add]; congr 1; omega
      rw [i3, nI_clamp (show 7 + 6 * i + j < 2 ^ 31 by omega)]
      have v4 : vp_in (nI (10 + 6 * i)) 124 := vp_in_nI (by omega) (by decide)
      have v5 : vp_in (nI (11 + 6 * i)) 124 := vp_in_nI (by omega) (by decide)
      have v3 : vp_in (nI (7 + 6 * i + j)) 124 := vp_in_nI (by omega) (by decide)
      have vi : vp_in (nI i) 3 := vp_in_nI hi3 (by decide)
      have hcs : j = 0 ∨ j = 1 ∨ j = 2 ∨ j = 3 ∨ j = 4 ∨ j = 5 ∨ j = 6 ∨ j = 7 := by omega
      rcases hcs with rfl | rfl | rfl | rfl | rfl | rfl | rfl | rfl
      · exact k1 rfl (qm _ (kt' (g (kt (k4 (by decide) (k2 (by decide) ⟨v3, ((hm i hi).2.1).symm, hV⟩))))))
      · exact k2 (by decide) (k1 rfl (qm _ (kt' (g (kt (k4 (by decide) (k2 (by decide) ⟨v3, by rw [show 7 + 6 * i + 1 = 8 + 6 * i by omega]; exact ((hm i hi).2.2.1).symm, hV⟩)))))))
      · exact k2 (by decide) (k2 (by decide) (k1 rfl (qm _ (kt' (g (kt (k4 (by decide) (k2 (by decide) ⟨v3, by rw [show 7 + 6 * i + 2 = 9 + 6 * i by omega]; exact ((hm i hi).2.2.2.1).symm, hV⟩))))))))
      · exact k2 (by decide) (k2 (by decide) (k2 (by decide) (k1 rfl ⟨vi, qm _ (kt' (g (kt (k4 (by decide) (k1 (by decide) (k3 rfl ⟨v4, rfl, hV⟩))))))⟩)))
      · refine k2 (by decide) (k2 (by decide) (k2 (by decide) (k2 (by decide) (k1 rfl ?_))))
        unfold wpX9_hasRight
        refine ⟨fun q => kf' ?_, fun q => kt' ?_⟩
        · exact (qm _ (kt' (g (kt (k4 (by decide) (k1 (by decide) (k4 (by decide) (k3 rfl ⟨(bit1 q).symm, hV⟩))))))))
        · exact (qm _ (kt' (g (kt (k4 (by decide) (k1 (by decide) (k4 (by decide) (k3 rfl ⟨q.symm, hV⟩))))))))
      · exact k2 (by decide) (k2 (by decide) (k2 (by decide) (k2 (by decide) (k2 (by decide) (k1 rfl ⟨vi, qm _ (kt' (g (kt (k4 (by decide) (k1 (by decide) (k4 (by decide) (k4 (by decide) (k3 rfl ⟨v5, rfl, hV⟩))))))))⟩)))))
      · refine k2 (by decide) (k2 (by decide) (k2 (by decide) (k2 (by decide) (k2 (by decide) (k2 (by decide) (k1 rfl ?_))))))
        cases hev : S.2.2.2.1.2.2.2.1
        · exact kf' (qm _ (kt' (g (kt (k3 rfl (k3 rfl ⟨rfl, hV⟩))))))
        · exact kt' (qm _ (kt' (g (kt (k3 rfl (k4 (by decide) ⟨rfl, hV⟩))))))
      · refine k2 (by decide) (k2 (by decide) (k2 (by decide) (k2 (by decide) (k2 (by decide) (k2 (by decide) (k2 (by decide) (k1 rfl ⟨vi, ?_⟩)))))))
        refine v_odds (hc i hi).2.2.2.1 (hc i hi).2.2.2.2 (qm _ (kt' (g (kt (k4 (by decide) (k1 (by decide) (k4 (by decide) (k4 (by decide) (k4 (by decide) ⟨v5, ?_⟩)))))))))
        exact m_odds hi3 (hc i hi).2.2.2.2 (hm i hi).1 (hm i hi).2.1 ⟨rfl, hV⟩
def ik (K j : Nat) : Bool := j == 0 || j == K || (j == 1 && K < 4) || (j == 4 && K == 5)
theorem c_ik {K j : Nat} {x : Int32 × Int32 × Int32 × Int32} {pe : Pe} {post : Bool → Prop} (hkd : K = 1 ∨ K = 2 ∨ K = 3 ∨ K = 4 ∨ K = 5) (hcs : j = 0 ∨ j = 1 ∨ j = 2 ∨ j = 3 ∨ j = 4 ∨ j = 5) (hp : post (ik K j)) : wpX11_isOfKind (K, x) (nI j) pe post := by
  unfold wpX11_isOfKind
  rcases hkd with rfl | rfl | rfl | rfl | rfl <;> rcases hcs with rfl | rfl | rfl | rfl | rfl | rfl <;> repeat (first | exact k1 (by decide) hp | exact hp | refine k2 (by decide) ?_)
theorem m_as {K j i : Nat} {f : Nat → Int32} {st : Int32} {post : Int32 → Int32 → Prop} (hi3 : i < 3) (hkd : K = 1 ∨ K = 2 ∨ K = 3 ∨ K = 4 ∨ K = 5) (hcs : j = 0 ∨ j = 1 ∨ j = 2 ∨ j = 3 ∨ j = 4 ∨ j = 5) (e0 : f (6 + 6 * i) = nI K) (qm : ∀ q : Bool → Prop, q true → wpX12_isPerson (nI i) f q) (hp : if ik K j = true then post (nI i) 0 else post (-1000010 - 3) 3) : wpX12_as (nI i) (nI j) st f post := by
  unfold wpX12_as wjX12_as_48 wjX12_as_58 wjX12_as_62 wjX12_as_63 wpX12_found wpX12_well
  refine qm _ (kt' (in_t (nI_pos (by omega)) (nI_nlt (a := 5) (by omega) (by decide)) (kt (m_kind hi3 e0 ?_))))
  rcases hkd with rfl | rfl | rfl | rfl | rfl <;> rcases hcs with rfl | rfl | rfl | rfl | rfl | rfl <;> repeat (first | exact k1 (by decide) (kt' hp) | exact k3 (by decide) (kt' hp) | exact kf' hp | exact kt' hp | refine k2 (by decide) ?_ | refine k3 (by decide) ?_ | refine k4 (by decide) ?_)
theorem pu_as : Pu_as Inv := by
  intro S M ns hV p0 p1
  obtain ⟨n, d, w, r, A, kd, ch, ga, lo, hN, hc, hm, hb⟩ := VI_to hV.2.2.2.2.1
  obtain ⟨a1, a2, a3, a4, a5, a6, a7, a8, a9, b1, -⟩ := hN
  unfold wpX11_as wpX11_found wpX11_answered
  rw [a5]
  rcases pa_case a1 hc b1 p0 with ⟨qc, qm⟩ | ⟨i, hi, rfl, qc, qm⟩
  · refine qc _ (kn ?_)
    unfold wpX12_as
    exact (qm _ (kf' ⟨rfl, hV⟩))
  · refine qc _ (ks ⟨(hc i hi).2.1, ?_⟩)
    have hi3 : i < 3 := by omega
    rw [(hc i hi).2.2.1]
    rcases ix_case p1 6 (by decide) with h | ⟨h, h1⟩ | ⟨j, hj, rfl⟩
    · refine k1 h ?_
      unfold wpX12_as
      exact (qm _ (kt' (in_f (Or.inl h) (kf ⟨rfl, hV⟩))))
    · have h2 := gt_of_ge h1 (by decide)
      refine k2 h (k2 (Int32.not_le.mpr h2) ?_)
      unfold wpX12_as
      exact (qm _ (kt' (in_f (Or.inr h2) (kf ⟨rfl, hV⟩))))
    · have h2 : nI j ≤ 5 := nI_le (b := 5) (by omega) (by decide)
      have hkd := kind5 (hc i hi).2.2.2.1 (hc i hi).2.2.2.2
      have hcs : j = 0 ∨ j = 1 ∨ j = 2 ∨ j = 3 ∨ j = 4 ∨ j = 5 := by omega
      refine k2 (nI_pos (by omega)) (k1 h2 (c_ik hkd hcs ⟨fun q => ?_, fun q => ?_⟩))
      · refine m_as hi3 hkd hcs (hm i hi).1 qm ?_
        rw [if_neg (by rw [q]; decide)]
        exact ⟨rfl, hV.1, rfl, hV.2.2⟩
      · refine m_as hi3 hkd hcs (hm i hi).1 qm ?_
        rw [if_pos q]
        exact ⟨rfl, hV.1, rfl, hV.2.2⟩
theorem lv_0 {b : Int32} {num : Nat → Int32} {post : Unit → Int32 → (Nat → Int32) → Prop} (h : post () (nI 1) (upd num 0 b)) : wpX8_leave b 0 num post := k2 (by decide) ⟨vp_in_nI (n := 0) (by decide) (by decide), h⟩
theorem lv_s {b : Int32} {t : Nat} {num : Nat → Int32} {post : Unit → Int32 → (Nat → Int32) → Prop} (ht : t < 16) (h : post () (nI (t + 1)) (upd num t b)) : wpX8_leave b (nI t) num post := by
  refine k2 (nI_ge (b := 16) ht (by decide)) ⟨vp_in_nI ht (by decide), ?_⟩
  rw [nI_1, nI_clamp (by omega)]
  exact h
theorem bg_0 {b : Int32} {num : Nat → Int32} {post : Unit → Int32 → (Nat → Int32) → Prop} (h : post () (nI 1) (upd num 0 b)) : wpX12_begins b 0 num post := k2 (by decide) ⟨vp_in_nI (n := 0) (by decide) (by decide), h⟩
theorem bg_s {b : Int32} {t : Nat} {num : Nat → Int32} {post : Unit → Int32 → (Nat → Int32) → Prop} (ht : t < 16) (h : post () (nI (t + 1)) (upd num t b)) : wpX12_begins b (nI t) num post := by
  refine k2 (nI_ge (b := 16) ht (by decide)) ⟨vp_in_nI ht (by decide), ?_⟩
  rw [nI_1, nI_clamp (by omega)]
  exact h
def upds : (Nat → Int32) → Nat → List Int32 → Nat → Int32
  | f, _, [] => f
  | f, t, b :: l => upds (upd f t b) (t + 1) l
theorem upds_ag : ∀ (l : List Int32) (f g : Nat → Int32) (t : Nat), (∀ k, k < t → f k = g k) → ∀ k, k < t + l.length → upds f t l k = upds g t l k
  | [], f, g, t, h, k, hk => h k hk
  | b :: l, f, g, t, h, k, hk => upds_ag l (upd f t b) (upd g t b) (t + 1) (fun q hq => by
      unfold upd
      by_cases e : q = t
      · rw [if_pos e, if_pos e]
      · rw [if_neg e, if_neg e]
        exact h q (by omega)) k (by rw [List.length_cons] at hk; omega)
def sL : Nat → List Int32
  | 1 => [11, 10, 21, 20]
  | 2 => [12, 11, 10, 24, 21, 20]
  | 3 => [11, 10, 22, 21, 20]
  | 4 => [13, 10]
  | _ => [14, 13, 10]
def mL : Nat → List Int32
  | 1 => [21, 20]
  | 2 => [24, 21, 20]
  | 3 => [22, 21, 20]
  | 4 => [23, 20, 13, 10]
  | _ => [23, 20, 14, 13, 10]
def sR (i pu me : Int32) : Nat → Int32
  | 1 => pu + (i + me)
  | 2 => -(pu + 2 * (i + me))
  | 3 => pu + (i + me - 1000)
  | 4 => pu - 100
  | _ => 2 * (pu - 100)
def mR (i pu me : Int32) : Nat → Int32
  | 1 => i + me
  | 2 => 2 * (i + me)
  | 3 => i + me - 1000
  | 4 => i - (pu - 100)
  | _ => i - 2 * (pu - 100)
theorem c_size {K : Nat} {i pu me : Int32} {x : Int32 × Int32 × Int32} {num : Nat → Int32} {post : Int32 → Int32 → (Nat → Int32) → Prop} (hkd : K = 1 ∨ K = 2 ∨ K = 3 ∨ K = 4 ∨ K = 5) (hp : post (sR i pu me K) (nI (sL K).length) (upds num 0 (sL K))) : wv_sizeBy 0 pu me num (K, i, x) post := by
  unfold wv_sizeBy
  rcases hkd with rfl | rfl | rfl | rfl | rfl
  · refine ⟨fun _ => ?_, (fun q => absurd (show (1 : Nat) = 2 from q) (by decide)), (fun q => absurd (show (1 : Nat) = 3 from q) (by decide)), (fun q => absurd (show (1 : Nat) = 4 from q) (by decide)), (fun q => absurd (show (1 : Nat) = 5 from q) (by decide))⟩
    unfold wpX0_sizeBy_k1 wpX3_sizeBy_k1 wpX0_markBy_k1 wpX3_markBy_k1
    refine lv_0 ?_
    repeat (refine lv_s (by decide) ?_)
    exact hp
  · refine ⟨(fun q => absurd (show (2 : Nat) = 1 from q) (by decide)), fun _ => ?_, (fun q => absurd (show (2 : Nat) = 3 from q) (by decide)), (fun q => absurd (show (2 : Nat) = 4 from q) (by decide)), (fun q => absurd (show (2 : Nat) = 5 from q) (by decide))⟩
    unfold wpX2_sizeBy_k2 wpX0_sizeBy_k2 wpX3_sizeBy_k2 wpX2_markBy_k2 wpX0_markBy_k2 wpX3_markBy_k2
    refine lv_0 ?_
    repeat (refine lv_s (by decide) ?_)
    exact hp
  · refine ⟨(fun q => absurd (show (3 : Nat) = 1 from q) (by decide)), (fun q => absurd (show (3 : Nat) = 2 from q) (by decide)), fun _ => ?_, (fun q => absurd (show (3 : Nat) = 4 from q) (by decide)), (fun q => absurd (show (3 : Nat) = 5 from q) (by decide))⟩
    unfold wpX0_sizeBy_k3 wpX3_sizeBy_k3 wpX5_markBy_k3 wpX0_markBy_k3 wpX3_markBy_k3
    refine lv_0 ?_
    repeat (refine lv_s (by decide) ?_)
    exact hp
  · refine ⟨(fun q => absurd (show (4 : Nat) = 1 from q) (by decide)), (fun q => absurd (show (4 : Nat) = 2 from q) (by decide)), (fun q => absurd (show (4 : Nat) = 3 from q) (by decide)), fun _ => ?_, (fun q => absurd (show (4 : Nat) = 5 from q) (by decide))⟩
    unfold wpX10_sizeBy_k4 wpX3_sizeBy_k4
    refine lv_0 ?_
    repeat (refine lv_s (by decide) ?_)
    exact hp
  · refine ⟨(fun q => absurd (show (5 : Nat) = 1 from q) (by decide)), (fun q => absurd (show (5 : Nat) = 2 from q) (by decide)), (fun q => absurd (show (5 : Nat) = 3 from q) (by decide)), (fun q => absurd (show (5 : Nat) = 4 from q) (by decide)), fun _ => ?_⟩
    unfold wpX6_sizeBy_k5 wpX10_sizeBy_k5 wpX3_sizeBy_k5
    refine lv_0 ?_
    repeat (refine lv_s (by decide) ?_)
    exact hp
theorem c_mark {K : Nat} {i pu me : Int32} {x : Int32 × Int32 × Int32} {num : Nat → Int32} {post : Int32 → Int32 → (Nat → Int32) → Prop} (hkd : K = 1 ∨ K = 2 ∨ K = 3 ∨ K = 4 ∨ K = 5) (hp : post (mR i pu me K) (nI (mL K).length) (upds num 0 (mL K))) : wv_markBy 0 pu me num (K, i, x) post := by
  unfold wv_markBy
  rcases hkd with rfl | rfl | rfl | rfl | rfl
  · refine ⟨fun _ => ?_, (fun q => absurd (show (1 : Nat) = 2 from q) (by decide)), (fun q => absurd (show (1 : Nat) = 3 from q) (by decide)), (fun q => absurd (show (1 : Nat) = 4 from q) (by decide)), (fun q => absurd (show (1 : Nat) = 5 from q) (by decide))⟩
    unfold wpX0_markBy_k1 wpX3_markBy_k1
    refine lv_0 ?_
    repeat (refine lv_s (by decide) ?_)
    exact hp
  · refine ⟨(fun q => absurd (show (2 : Nat) = 1 from q) (by decide)), fun _ => ?_, (fun q => absurd (show (2 : Nat) = 3 from q) (by decide)), (fun q => absurd (show (2 : Nat) = 4 from q) (by decide)), (fun q => absurd (show (2 : Nat) = 5 from q) (by decide))⟩
    unfold wpX2_markBy_k2 wpX0_markBy_k2 wpX3_markBy_k2
    refine lv_0 ?_
    repeat (refine lv_s (by decide) ?_)
    exact hp
  · refine ⟨(fun q => absurd (show (3 : Nat) = 1 from q) (by decide)), (fun q => absurd (show (3 : Nat) = 2 from q) (by decide)), fun _ => ?_, (fun q => absurd (show (3 : Nat) = 4 from q) (by decide)), (fun q => absurd (show (3 : Nat) = 5 from q) (by decide))⟩
    unfold wpX5_markBy_k3 wpX0_markBy_k3 wpX3_markBy_k3
    refine lv_0 ?_
    repeat (refine lv_s (by decide) ?_)
    exact hp
  · refine ⟨(fun q => absurd (show (4 : Nat) = 1 from q) (by decide)), (fun q => absurd (show (4 : Nat) = 2 from q) (by decide)), (fun q => absurd (show (4 : Nat) = 3 from q) (by decide)), fun _ => ?_, (fun q => absurd (show (4 : Nat) = 5 from q) (by decide))⟩
    unfold wpX10_markBy_k4 wpX3_markBy_k4 wpX10_sizeBy_k4 wpX3_sizeBy_k4
    refine lv_0 ?_
    repeat (refine lv_s (by decide) ?_)
    exact hp
  · refine ⟨(fun q => absurd (show (5 : Nat) = 1 from q) (by decide)), (fun q => absurd (show (5 : Nat) = 2 from q) (by decide)), (fun q => absurd (show (5 : Nat) = 3 from q) (by decide)), (fun q => absurd (show (5 : Nat) = 4 from q) (by decide)), fun _ => ?_⟩
    unfold wpX10_markBy_k5 wpX3_markBy_k5 wpX6_sizeBy_k5 wpX10_sizeBy_k5 wpX3_sizeBy_k5
    refine lv_0 ?_
    repeat (refine lv_s (by decide) ?_)
    exact hp
theorem m_size {K i : Nat} {f : Nat → Int32} {num : Nat → Int32} {post : Int32 → Int32 → (Nat → Int32) → Prop} (hi3 : i < 3) (hkd : K = 1 ∨ K = 2 ∨ K = 3 ∨ K = 4 ∨ K = 5) (e0 : f (6 + 6 * i) = nI K) (hp : post (sR (nI i) (f (10 + 6 * i)) (f (11 + 6 * i)) K) (nI (sL K).length) (upds num 0 (sL K))) (b : Bool) (hb : b = decide (4 ≤ K)) : wjX12_ask_42 f post (nI i) 0 b 0 num := by
  have i4 : (6 : Int32) + 6 * nI i + 4 = nI (10 + 6 * i) := by rw [show (4 : Int32) = nI 4 from rfl, ix6a]; congr 1; omega
  have i5 : (6 : Int32) + 6 * nI i + 5 = nI (11 + 6 * i) := by rw [show (5 : Int32) = nI 5 from rfl, ix6a]; congr 1; omega
  have v4 : vp_in (nI (10 + 6 * i)) 124 := vp_in_nI (by omega) (by decide)
  have v5 : vp_in (nI (11 + 6 * i)) 124 := vp_in_nI (by omega) (by decide)
  have q4 : (nI (10 + 6 * i)).toNatClampNeg = 10 + 6 * i := nI_clamp (by omega)
  have q5 : (nI (11 + 6 * i)).toNatClampNeg = 11 + 6 * i := nI_clamp (by omega)
  unfold wjX12_ask_42
  refine k3 rfl ?_
  rcases hkd with rfl | rfl | rfl | rfl | rfl <;> subst hb
  · refine kf' ?_
    unfold wpX12_farmersSize wjX12_farmersSize_17 wjX12_farmersSize_28 wpX12_farmersMark wjX12_farmersMark_27 wjX12_farmersMark_30
    rw [i4, i5, q4, q5]
    repeat (first | exact hp | refine bg_0 ?_ | refine bg_s (by decide) ?_ | refine m_kind hi3 e0 ?_ | refine ⟨v4, ?_⟩ | refine ⟨v5, ?_⟩ | refine kf' ?_ | refine kt' ?_ | refine k1 (by decide) ?_ | refine k2 (by decide) ?_ | refine k3 (by decide) ?_ | refine k4 (by decide) ?_)
  · refine kf' ?_
    unfold wpX12_farmersSize wjX12_farmersSize_17 wjX12_farmersSize_28 wpX12_farmersMark wjX12_farmersMark_27 wjX12_farmersMark_30
    rw [i4, i5, q4, q5]
    repeat (first | exact hp | refine bg_0 ?_ | refine bg_s (by decide) ?_ | refine m_kind hi3 e0 ?_ | refine ⟨v4, ?_⟩ | refine ⟨v5, ?_⟩ | refine kf' ?_ | refine kt' ?_ | refine k1 (by decide) ?_ | refine k2 (by decide) ?_ | refine k3 (by decide) ?_ | refine k4 (by decide) ?_)
  · refine kf' ?_
    unfold wpX12_farmersSize wjX12_farmersSize_17 wjX12_farmersSize_28 wpX12_farmersMark wjX12_farmersMark_27 wjX12_farmersMark_30
    rw [i4, i5, q4, q5]
    repeat (first | exact hp | refine bg_0 ?_ | refine bg_s (by decide) ?_ | refine m_kind hi3 e0 ?_ | refine ⟨v4, ?_⟩ | refine ⟨v5, ?_⟩ | refine kf' ?_ | refine kt' ?_ | refine k1 (by decide) ?_ | refine k2 (by decide) ?_ | refine k3 (by decide) ?_ | refine k4 (by decide) ?_)
  · refine kt' ?_
    unfold wpX12_widowsSize wjX12_widowsSize_17 wjX12_widowsSize_28
    rw [i4, q4]
    repeat (first | exact hp | refine bg_0 ?_ | refine bg_s (by decide) ?_ | refine m_kind hi3 e0 ?_ | refine ⟨v4, ?_⟩ | refine ⟨v5, ?_⟩ | refine kf' ?_ | refine kt' ?_ | refine k1 (by decide) ?_ | refine k2 (by decide) ?_ | refine k3 (by decide) ?_ | refine k4 (by decide) ?_)
  · refine kt' ?_
    unfold wpX12_widowsSize wjX12_widowsSize_17 wjX12_widowsSize_28
    rw [i4, q4]
    repeat (first | exact hp | refine bg_0 ?_ | refine bg_s (by decide) ?_ | refine m_kind hi3 e0 ?_ | refine ⟨v4, ?_⟩ | refine ⟨v5, ?_⟩ | refine kf' ?_ | refine kt' ?_ | refine k1 (by decide) ?_ | refine k2 (by decide) ?_ | refine k3 (by decide) ?_ | refine k4 (by decide) ?_)
theorem m_mark {K i : Nat} {f : Nat → Int32} {num : Nat → Int32} {post : Int32 → Int32 → (Nat → Int32) → Prop} (hi3 : i < 3) (hkd : K = 1 ∨ K = 2 ∨ K = 3 ∨ K = 4 ∨ K = 5) (e0 : f (6 + 6 * i) = nI K) (hp : post (mR (nI i) (f (10 + 6 * i)) (f (11 + 6 * i)) K) (nI (mL K).length) (upds num 0 (mL K))) (b : Bool) (hb : b = decide (4 ≤ K)) : wjX12_ask_42 f post (nI i) 1 b 0 num := by
  have i4 : (6 : Int32) + 6 * nI i + 4 = nI (10 + 6 * i) := by rw [show (4 : Int32) = nI 4 from rfl, ix6a]; congr 1; omega
  have i5 : (6 : Int32) + 6 * nI i + 5 = nI (11 + 6 * i) := by rw [show (5 : Int32) = nI 5 from rfl, ix6a]; congr 1; omega
  have v4 : vp_in (nI (10 + 6 * i)) 124 := vp_in_nI (by omega) (by decide)
  have v5 : vp_in (nI (11 + 6 * i)) 124 := vp_in_nI (by omega) (by decide)
  have q4 : (nI (10 + 6 * i)).toNatClampNeg = 10 + 6 * i := nI_clamp (by omega)
  have q5 : (nI (11 + 6 * i)).toNatClampNeg = 11 + 6 * i := nI_clamp (by omega)
  unfold wjX12_ask_42
  refine k4 (by decide) ?_
  rcases hkd with rfl | rfl | rfl | rfl | rfl <;> subst hb
  · refine kf' ?_
    unfold wpX12_farmersMark wjX12_farmersMark_27 wjX12_farmersMark_30
    rw [i5, q5]
    repeat (first | exact hp | refine bg_0 ?_ | refine bg_s (by decide) ?_ | refine m_kind hi3 e0 ?_ | refine ⟨v4, ?_⟩ | refine ⟨v5, ?_⟩ | refine kf' ?_ | refine kt' ?_ | refine k1 (by decide) ?_ | refine k2 (by decide) ?_ | refine k3 (by decide) ?_ | refine k4 (by decide) ?_)
  · refine kf' ?_
    unfold wpX12_farmersMark wjX12_farmersMark_27 wjX12_farmersMark_30
    rw [i5, q5]
    repeat (first | exact hp | refine bg_0 ?_ | refine bg_s (by decide) ?_ | refine m_kind hi3 e0 ?_ | refine ⟨v4, ?_⟩ | refine ⟨v5, ?_⟩ | refine kf' ?_ | refine kt' ?_ | refine k1 (by decide) ?_ | refine k2 (by decide) ?_ | refine k3 (by decide) ?_ | refine k4 (by decide) ?_)
  · refine kf' ?_
    unfold wpX12_farmersMark wjX12_farmersMark_27 wjX12_farmersMark_30
    rw [i5, q5]
    repeat (first | exact hp | refine bg_0 ?_ | refine bg_s (by decide) ?_ | refine m_kind hi3 e0 ?_ | refine ⟨v4, ?_⟩ | refine ⟨v5, ?_⟩ | refine kf' ?_ | refine kt' ?_ | refine k1 (by decide) ?_ | refine k2 (by decide) ?_ | refine k3 (by decide) ?_ | refine k4 (by decide) ?_)
  · refine kt' ?_
    unfold wpX12_widowsMark wpX12_widowsSize wjX12_widowsSize_17 wjX12_widowsSize_28
    rw [i4, q4]
    repeat (first | exact hp | refine bg_0 ?_ | refine bg_s (by decide) ?_ | refine m_kind hi3 e0 ?_ | refine ⟨v4, ?_⟩ | refine ⟨v5, ?_⟩ | refine kf' ?_ | refine kt' ?_ | refine k1 (by decide) ?_ | refine k2 (by decide) ?_ | refine k3 (by decide) ?_ | refine k4 (by decide) ?_)
  · refine kt' ?_
    unfold wpX12_widowsMark wpX12_widowsSize wjX12_widowsSize_17 wjX12_widowsSize_28
    rw [i4, q4]
    repeat (first | exact hp | refine bg_0 ?_ | refine bg_s (by decide) ?_ | refine m_kind hi3 e0 ?_ | refine ⟨v4, ?_⟩ | refine ⟨v5, ?_⟩ | refine kf' ?_ | refine kt' ?_ | refine k1 (by decide) ?_ | refine k2 (by decide) ?_ | refine k3 (by decide) ?_ | refine k4 (by decide) ?_)
theorem pu_ask : Pu_ask Inv := by
  intro S M ns hV p0 p1
  obtain ⟨n, d, w, r, A, kd, ch, ga, lo, hN, hc, hm, hb⟩ := VI_to hV.2.2.2.2.1
  obtain ⟨a1, a2, a3, a4, a5, a6, a7, a8, a9, b1, b2, b3, b4, b5, b6, b7, b8, c1, c2, c3⟩ := hN
  unfold wpX11_ask wpX12_ask
  rw [a5]
  rcases pa_case a1 hc b1 p0 with ⟨qc, qm⟩ | ⟨i, hi, rfl, qc, qm⟩
  · exact qc _ (kn (qm _ (kf' ⟨rfl, hV⟩)))
  · refine qc _ (ks ⟨(hc i hi).2.1, ?_⟩)
    have hi3 : i < 3 := by omega
    rcases ix_case p1 2 (by decide) with h | ⟨h, h1⟩ | ⟨j, hj, rfl⟩
    · exact k1 h (qm _ (kt' (in_f (Or.inl h) (kf ⟨rfl, hV⟩))))
    · have h2 := gt_of_ge h1 (by decide)
      exact k2 h (k2 (Int32.not_le.mpr h2) (qm _ (kt' (in_f (Or.inr h2) (kf ⟨rfl, hV⟩)))))
    · have h2 : nI j ≤ 1 := nI_le (b := 1) (by omega) (by decide)
      have vi : vp_in (nI i) 3 := vp_in_nI hi3 (by decide)
      have hkd := kind5 (hc i hi).2.2.2.1 (hc i hi).2.2.2.2
      have hcs : j = 0 ∨ j = 1 := by omega
      refine k2 (nI_pos (by omega)) (k1 h2 ⟨vi, vi, ?_⟩)
      have g : ∀ {post : Bool → Prop}, post true → wpX12_in (nI j) 0 1 post := fun hp => in_t (nI_pos (by omega)) (Int32.not_lt.mpr h2) hp
      have e0 := (hm i hi).1
      rw [(hc i hi).2.2.1, nI_clamp (show i < 2 ^ 31 by omega), (b6 i hi3).1, (b6 i hi3).2]
      unfold wpX8_begin
      generalize kd i = K at hkd e0
      have h4 : ∀ b : Bool, (b = false → nI K < 4) → (b = true → ¬ nI K < 4) → b = decide (4 ≤ K) := by
        intro b x1 x2
        have e : nI K < 4 ↔ K < 4 := nI_ltI (b := 4) (by omega) (by decide)
        rw [e] at x1 x2
        cases b
        · have := x1 rfl
          exact (decide_eq_false (by omega)).symm
        · have := x2 rfl
          exact (decide_eq_true (by omega)).symm
      have hT : ∀ (L : List Int32), L.length ≤ 16 → TR (nI L.length) (upds S.2.2.2.2.2.2.2.2.1.2.2.2 0 L) (nI L.length) (upds M.2.1.2.2.2.2.2.2.2.2.2.2.2.1 0 L) := fun L hL => ⟨L.length, hL, rfl, rfl, fun k hk => upds_ag L _ _ 0 (fun k hk => absurd hk (Nat.not_lt_zero k)) k (by omega)⟩
      rcases hcs with rfl | rfl
      · refine k3 rfl (c_size hkd (qm _ (kt' (g (kt (m_kind hi3 e0 ⟨fun q => ?_, fun q => ?_⟩))))))
        · exact m_size hi3 hkd e0 ⟨rfl, hV.1, hV.2.1, hV.2.2.1, hV.2.2.2.1, hV.2.2.2.2.1, hV.2.2.2.2.2.1, hV.2.2.2.2.2.2.1, hT _ (by rcases hkd with rfl | rfl | rfl | rfl | rfl <;> decide)⟩ false (h4 _ (fun _ => q) (fun h => by cases h))
        · exact m_size hi3 hkd e0 ⟨rfl, hV.1, hV.2.1, hV.2.2.1, hV.2.2.2.1, hV.2.2.2.2.1, hV.2.2.2.2.2.1, hV.2.2.2.2.2.2.1, hT _ (by rcases hkd with rfl | rfl | rfl | rfl | rfl <;> decide)⟩ true (h4 _ (fun h => by cases h) (fun _ => q))
      · refine k4 (by decide) (c_mark hkd (qm _ (kt' (g (kt (m_kind hi3 e0 ⟨fun q => ?_, fun q => ?_⟩))))))
        · exact m_mark hi3 hkd e0 ⟨rfl, hV.1, hV.2.1, hV.2.2.1, hV.2.2.2.1, hV.2.2.2.2.1, hV.2.2.2.2.2.1, hV.2.2.2.2.2.2.1, hT _ (by rcases hkd with rfl | rfl | rfl | rfl | rfl <;> decide)⟩ false (h4 _ (fun _ => q) (fun h => by cases h))
        · exact m_mark hi3 hkd e0 ⟨rfl, hV.1, hV.2.1, hV.2.2.1, hV.2.2.2.1, hV.2.2.2.2.1, hV.2.2.2.2.2.1, hV.2.2.2.2.2.2.1, hT _ (by rcases hkd with rfl | rfl | rfl | rfl | rfl <;> decide)⟩ true (h4 _ (fun h => by cases h) (fun _ => q))
