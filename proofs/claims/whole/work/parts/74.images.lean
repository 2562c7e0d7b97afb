-- images
theorem upd_s {f : Nat → Int32} {k : Nat} {x : Int32} : upd f k x k = x := if_pos rfl
theorem upd_n {f : Nat → Int32} {k j : Nat} {x : Int32} (h : j ≠ k) : upd f k x j = f j := if_neg h
theorem up_s {α : Type} {f : Nat → α} {k : Nat} {x : α} : va_up f k x k = x := if_pos rfl
theorem up_n {α : Type} {f : Nat → α} {k j : Nat} {x : α} (h : j ≠ k) : va_up f k x j = f j := if_neg h
theorem VI_cg {ns : NS} {v v' : VT} {f f' : Nat → Int32} (h : VI ns v f) (e1 : v'.1 = v.1) (e2 : v'.2.1 = v.2.1) (e3 : v'.2.2.1 = v.2.2.1) (e4 : v'.2.2.2.1 = v.2.2.2.1) (e5 : v'.2.2.2.2.1 = v.2.2.2.2.1) (e6 : v'.2.2.2.2.2.1 = v.2.2.2.2.2.1) (hp : ∀ i, i < 3 → v'.2.2.2.2.2.2.1 i = v.2.2.2.2.2.2.1 i) (hm : ∀ i, i < 3 → v'.2.2.2.2.2.2.2.1 i = v.2.2.2.2.2.2.2.1 i) (hq : ∀ i, i < 3 → v'.2.2.2.2.2.2.2.2.1 i = v.2.2.2.2.2.2.2.2.1 i) (hl : ∀ k, k < 100 → v'.2.2.2.2.2.2.2.2.2 k = v.2.2.2.2.2.2.2.2.2 k) (hf : ∀ k, k < 124 → f' k = f k) : VI ns v' f' := by
  obtain ⟨n, d, w, r, a1, a2, a3, a4, a5, a6, a7, a8, a9, b1, b2, b3, b4, b5, b6, b7, b8, b9, c1, c2, c3, c4⟩ := h
  refine ⟨n, d, w, r, a1, a2, a3, a4, by rw [e2, a5], by rw [e3, a6], by rw [e5, a7], by rw [e6, a8], by rw [hf 0 (by omega), a9, e1], by rw [hf 1 (by omega), b1], by rw [hf 2 (by omega), b2], by rw [hf 3 (by omega), b3], by rw [hf 4 (by omega), b4, e4], by rw [hf 5 (by omega), b5], fun i hi => ?_, fun k hk => ?_, fun k h1 h2 => ?_, fun i hi => ?_, fun i h1 h2 => ?_, c2, fun q => ?_, fun i hi a q => ?_⟩
  · rw [hm i hi, hq i hi, hf _ (by omega), hf _ (by omega)]
    exact b6 i hi
  · rw [hl k hk, hf _ (by omega)]
    exact b7 k hk
  · rw [hf _ (by omega)]
    exact b8 k h1 h2
  · rw [hp i (by omega), hf _ (by omega), hf _ (by omega), hf _ (by omega), hf _ (by omega)]
    exact b9 i hi
  · rw [hf _ (by omega), hf _ (by omega)]
    exact c1 i h1 h2
  · rw [e4]
    rw [e1] at q
    exact c3 q
  · rw [hp i hi] at q
    exact c4 i hi a q
theorem take_from {th : Bool} {si da : Int32} {ev : Bool} {we ri : Int32} {ath : Bool} {asi ada : Int32} {aev : Bool} {awe ari : Int32} {ali li : Nat → Int32} {pp app : Nat → Option Nat} {me ame pu apu : Nat → Int32} {pe : Pe} {post : Unit → Bool → Int32 → Int32 → Bool → Int32 → Int32 → (Nat → Int32) → (Nat → Option Nat) → (Nat → Int32) → (Nat → Int32) → Prop}
    (ha : ∀ i, i < 3 → ∀ a, app i = some a → a ∈ pe.1)
    (hp : ∀ (li' : Nat → Int32) (pp' : Nat → Option Nat) (me' pu' : Nat → Int32), (∀ k, k < 100 → li' k = ali k) → (∀ i, i < 3 → pp' i = app i) → (∀ i, i < 3 → me' i = ame i) → (∀ i, i < 3 → pu' i = apu i) → post () ath asi ada aev awe ari li' pp' me' pu') : wpX9_takeFrom th si da ev we ri ath asi ada aev awe ari ali li pp app me ame pu apu pe post := by
  unfold wpX9_takeFrom
  refine lp (σ := (Nat → Option Nat) × (Nat → Int32) × (Nat → Int32)) (fun n i s => wlX9_takeFrom_50 ath asi ada aev awe ari ali app ame apu pe post n (nI i) ath asi ada aev awe ari li s.1 s.2.1 s.2.2) (fun i s => ∀ j, j < i → s.1 j = app j ∧ s.2.1 j = ame j ∧ s.2.2 j = apu j) 3 (fun n s h => ?_) (fun n i s hi h k => ?_) fu 0 (pp, me, pu) (by decide) (by decide) (fun j hj => absurd hj (Nat.not_lt_zero j))
  · unfold wlX9_takeFrom_50
    refine k1 (nI_le (a := 3) (Nat.le_refl _) (by decide)) (hp _ _ _ _ (fun k hk => ?_) (fun i hi => (h i hi).1) (fun i hi => (h i hi).2.1) (fun i hi => (h i hi).2.2))
    rw [show (0 : Int32).toNatClampNeg = 0 from rfl, show (100 : Int32).toNatClampNeg = 100 from rfl, pk_cpy_in (by omega) (by omega)]
    congr 1
    omega
  · unfold wlX9_takeFrom_50
    have vi : vp_in (nI i) 3 := vp_in_nI hi (by decide)
    refine k2 (nI_ge (b := 3) hi (by decide)) ⟨vi, ?_⟩
    rw [nI_clamp (by omega), nI_1]
    have step : ∀ x : Option Nat, app i = x → wlX9_takeFrom_50 ath asi ada aev awe ari ali app ame apu pe post n (nI (i + 1)) ath asi ada aev awe ari li (va_up s.1 i x) (upd s.2.1 i (ame i)) (upd s.2.2 i (apu i)) := by
      intro x hx
      refine k (_, _, _) (fun j hj => ?_)
      show va_up s.1 i x j = app j ∧ upd s.2.1 i (ame i) j = ame j ∧ upd s.2.2 i (apu i) j = apu j
      by_cases e : j = i
      · subst e
        rw [up_s, upd_s, upd_s, hx]
        exact ⟨rfl, rfl, rfl⟩
      · rw [up_n e, upd_n e, upd_n e]
        exact h j (by omega)
    refine ⟨fun q => ⟨vi, vi, vi, vi, vi, step none q⟩, fun a q => ⟨ha i hi a q, vi, vi, vi, vi, vi, step (some a) q⟩⟩
theorem bz_t : bz true = 1 := rfl
theorem bz_f : bz false = 0 := rfl
theorem m_image {f kept images : Nat → Int32} {k : Nat} (hk : k < 2) {post : Int32 → (Nat → Int32) → (Nat → Int32) → Prop} (hp : ∀ im' : Nat → Int32, (∀ j, j < 124 → im' (124 * k + j) = f j) → (∀ j, j < 124 * k ∨ 124 * k + 124 ≤ j → im' j = images j) → post 1 (upd kept k 1) im') : wlX12_image_24 f post fu (nI k) 0 kept images := by
  refine lp (σ := Nat → Int32) (fun n i s => wlX12_image_24 f post n (nI k) (nI i) kept s) (fun i s => (∀ j, j < i → s (124 * k + j) = f j) ∧ (∀ j, j < 124 * k ∨ 124 * k + 124 ≤ j → s j = images j)) 124 (fun n s h => ?_) (fun n i s hi h q => ?_) fu 0 images (by decide) (by decide) ⟨(fun j hj => absurd hj (Nat.not_lt_zero j)), fun _ _ => rfl⟩
  · unfold wlX12_image_24
    refine k1 (nI_le (a := 124) (Nat.le_refl _) (by decide)) ⟨vp_in_nI hk (by decide), ?_⟩
    rw [nI_clamp (by omega)]
    exact hp s h.1 h.2
  · unfold wlX12_image_24
    have e : (124 : Int32) * nI k + nI i = nI (124 * k + i) := by rw [show (124 : Int32) = nI 124 from rfl, pk_mul, nI_add]
    rw [e, nI_clamp (show 124 * k + i < 2 ^ 31 by omega), nI_clamp (show i < 2 ^ 31 by omega), nI_1]
    refine k2 (nI_ge (b := 124) hi (by decide)) ⟨vp_in_nI hi (by decide), vp_in_nI (by omega) (by decide), q _ ⟨fun j hj => ?_, fun j hj => ?_⟩⟩
    · unfold upd
      by_cases e : j = i
      · rw [e, if_pos rfl]
      · rw [if_neg (by omega)]
        exact h.1 j (by omega)
    · unfold upd
      rw [if_neg (by omega)]
      exact h.2 j hj
theorem m_restore {f kept images : Nat → Int32} {k : Nat} {ac : Int32} (hk : k < 2) {post : Int32 → Int32 → (Nat → Int32) → Prop} (hp : ∀ f' : Nat → Int32, (∀ j, j < 124 → f' j = images (124 * k + j)) → post 1 0 f') : wlX12_restore_26 kept images post fu (nI k) 0 ac f := by
  refine lp (σ := Nat → Int32) (fun n i s => wlX12_restore_26 kept images post n (nI k) (nI i) ac s) (fun i s => ∀ j, j < i → s j = images (124 * k + j)) 124 (fun n s h => ?_) (fun n i s hi h q => ?_) fu 0 f (by decide) (by decide) (fun j hj => absurd hj (Nat.not_lt_zero j))
  · unfold wlX12_restore_26
    exact k1 (nI_le (a := 124) (Nat.le_refl _) (by decide)) (hp s h)
  · unfold wlX12_restore_26
    have e : (124 : Int32) * nI k + nI i = nI (124 * k + i) := by rw [show (124 : Int32) = nI 124 from rfl, pk_mul, nI_add]
    rw [e, nI_clamp (show 124 * k + i < 2 ^ 31 by omega), nI_clamp (show i < 2 ^ 31 by omega), nI_1]
    refine k2 (nI_ge (b := 124) hi (by decide)) ⟨vp_in_nI (by omega) (by decide), vp_in_nI hi (by decide), q _ (fun j hj => ?_)⟩
    unfold upd
    by_cases e : j = i
    · rw [e, if_pos rfl]
    · rw [if_neg e]
      exact h j (by omega)
theorem VI_0 {ns : NS} {v : VT} {f : Nat → Int32} (h : VI ns v f) : f 0 = bz v.1 := by
  obtain ⟨n, d, w, r, a1, a2, a3, a4, a5, a6, a7, a8, a9, -⟩ := h
  exact a9
theorem VI_a {ns : NS} {v : VT} {f : Nat → Int32} (h : VI ns v f) : ∀ i, i < 3 → ∀ a, v.2.2.2.2.2.2.1 i = some a → a ∈ (pN ns).1 := by
  obtain ⟨n, d, w, r, a1, a2, a3, a4, a5, a6, a7, a8, a9, b1, b2, b3, b4, b5, b6, b7, b8, b9, c1, c2, c3, c4⟩ := h
  exact c4
/-- an act's list is empty: it holds for any village -/
theorem AI_0 {q : Nat} (hq : q < 24) {next : Int32} (h : next = nI q) {acts past : Nat → Int32} {th : Bool} {n d : Nat} {x : Int32} : AI next 0 acts 0 past th n d x :=
  ⟨q, [], hq, by decide, h, rfl, rfl, (fun i a h => by simp at h), trivial, fun _ => rfl⟩
theorem pu_image_0 : Pu_image_0 Inv := by
  intro S M ns hV p0 h0
  subst h0
  have e0 := VI_0 hV.2.2.2.2.1
  unfold wpX11_image_0 wpX12_image
  refine ⟨fun ht => ?_, fun ht => ?_⟩
  · refine take_from (VI_a hV.2.2.2.2.1) (fun li' pp' me' pu' g1 g2 g3 g4 => in_t (by decide) (by decide) (kt ?_))
    unfold wpX12_isVillage
    rw [e0, ht]
    refine k3 rfl (kt (m_image (k := 0) (by decide) (fun im' q1 q2 => ⟨rfl, hV.1, hV.2.1, hV.2.2.1, hV.2.2.2.1, hV.2.2.2.2.1, ⟨rfl, hV.2.2.2.2.2.1.2.1, fun _ => ?_, fun h => ?_⟩, hV.2.2.2.2.2.2⟩)))
    · exact VI_cg hV.2.2.2.2.1 ht.symm rfl rfl rfl rfl rfl g2 g3 g4 g1 (fun k hk => by simpa using q1 k hk)
    · exact VI_cg (hV.2.2.2.2.2.1.2.2.2 h) rfl rfl rfl rfl rfl rfl (fun _ _ => rfl) (fun _ _ => rfl) (fun _ _ => rfl) (fun _ _ => rfl) (fun k hk => q2 (124 + k) (Or.inr (by omega)))
  · refine in_t (by decide) (by decide) (kt ?_)
    unfold wpX12_isVillage
    rw [e0, ht]
    exact k4 (by decide) (kf ⟨rfl, hV⟩)
theorem pu_image_1 : Pu_image_1 Inv := by
  intro S M ns hV p0 h0
  subst h0
  have e0 := VI_0 hV.2.2.2.2.1
  unfold wpX11_image_1 wpX12_image
  refine ⟨fun ht => ?_, fun ht => ?_⟩
  · refine take_from (VI_a hV.2.2.2.2.1) (fun li' pp' me' pu' g1 g2 g3 g4 => in_t (by decide) (by decide) (kt ?_))
    unfold wpX12_isVillage
    rw [e0, ht]
    refine k3 rfl (kt (m_image (k := 1) (by decide) (fun im' q1 q2 => ⟨rfl, hV.1, hV.2.1, hV.2.2.1, hV.2.2.2.1, hV.2.2.2.2.1, ⟨hV.2.2.2.2.2.1.1, rfl, fun h => ?_, fun _ => ?_⟩, hV.2.2.2.2.2.2⟩)))
    · exact VI_cg (hV.2.2.2.2.2.1.2.2.1 h) rfl rfl rfl rfl rfl rfl (fun _ _ => rfl) (fun _ _ => rfl) (fun _ _ => rfl) (fun _ _ => rfl) (fun k hk => q2 k (Or.inl (by omega)))
    · exact VI_cg hV.2.2.2.2.1 ht.symm rfl rfl rfl rfl rfl g2 g3 g4 g1 (fun k hk => q1 k hk)
  · refine in_t (by decide) (by decide) (kt ?_)
    unfold wpX12_isVillage
    rw [e0, ht]
    exact k4 (by decide) (kf ⟨rfl, hV⟩)
theorem out2 {p0 : Int32} (h0 : ¬ p0 = 0) (h1 : ¬ p0 = 1) : p0 < 0 ∨ 2 ≤ p0 := by
  rcases ix_case p0 2 (by decide) with h | ⟨h, h2⟩ | ⟨j, hj, rfl⟩
  · exact Or.inl h
  · exact Or.inr h2
  · have : j = 0 ∨ j = 1 := by omega
    rcases this with rfl | rfl
    · exact absurd rfl h0
    · exact absurd rfl h1
theorem out2' {p0 : Int32} (h : p0 < 0 ∨ 2 ≤ p0) : p0 < 0 ∨ 1 < p0 := by
  rcases h with h | h
  · exact Or.inl h
  · exact Or.inr (gt_of_ge (n := 1) h (by decide))
theorem pu_image_o : Pu_image_o Inv := by
  intro S M ns hV p0 h0 h1
  have h := out2 h0 h1
  unfold wpX11_image_o wpX12_image
  exact ⟨h, in_f (out2' h) (kf ⟨rfl, hV⟩)⟩
theorem pu_restore_o : Pu_restore_o Inv := by
  intro S M ns hV p0 h0 h1
  have h := out2 h0 h1
  unfold wpX11_restore_o wpX12_restore
  exact ⟨h, in_f (out2' h) (kf ⟨rfl, hV⟩)⟩
theorem pu_restore_0 : Pu_restore_0 Inv := by
  intro S M ns hV p0 h0
  subst h0
  obtain ⟨i0, i1, i2, i3⟩ := hV.2.2.2.2.2.1
  obtain ⟨q, l, q1, q2, q3, -⟩ := hV.2.2.2.2.2.2.1
  unfold wpX11_restore_0 wpX12_restore
  refine ⟨fun ht => ?_, fun ht => ?_⟩
  · refine take_from (VI_a (i2 ht)) (fun li' pp' me' pu' g1 g2 g3 g4 => ?_)
    unfold wpX11_forgetActs
    refine in_t (by decide) (by decide) (kt ⟨vp_in_nI (n := 0) (by decide) (by decide), k4 (by rw [show ((0 : Int32)).toNatClampNeg = 0 from rfl, i0, ht]; decide) (m_restore (k := 0) (by decide) (fun f' s1 => ?_))⟩)
    refine ⟨rfl, hV.1, hV.2.1, hV.2.2.1, hV.2.2.2.1, ?_, hV.2.2.2.2.2.1, AI_0 q1 q3, hV.2.2.2.2.2.2.2⟩
    exact VI_cg (i2 ht) rfl rfl rfl rfl rfl rfl g2 g3 g4 g1 (fun k hk => by simpa using s1 k hk)
  · exact in_t (by decide) (by decide) (kt ⟨vp_in_nI (n := 0) (by decide) (by decide), k3 (by rw [show ((0 : Int32)).toNatClampNeg = 0 from rfl, i0, ht]; rfl) ⟨rfl, hV⟩⟩)
theorem pu_restore_1 : Pu_restore_1 Inv := by
  intro S M ns hV p0 h0
  subst h0
  obtain ⟨i0, i1, i2, i3⟩ := hV.2.2.2.2.2.1
  obtain ⟨q, l, q1, q2, q3, -⟩ := hV.2.2.2.2.2.2.1
  unfold wpX11_restore_1 wpX12_restore
  refine ⟨fun ht => ?_, fun ht => ?_⟩
  · refine take_from (VI_a (i3 ht)) (fun li' pp' me' pu' g1 g2 g3 g4 => ?_)
    unfold wpX11_forgetActs
    refine in_t (by decide) (by decide) (kt ⟨vp_in_nI (n := 1) (by decide) (by decide), k4 (by rw [show ((1 : Int32)).toNatClampNeg = 1 from rfl, i1, ht]; decide) (m_restore (k := 1) (by decide) (fun f' s1 => ?_))⟩)
    refine ⟨rfl, hV.1, hV.2.1, hV.2.2.1, hV.2.2.2.1, ?_, hV.2.2.2.2.2.1, AI_0 q1 q3, hV.2.2.2.2.2.2.2⟩
    exact VI_cg (i3 ht) rfl rfl rfl rfl rfl rfl g2 g3 g4 g1 (fun k hk => s1 k hk)
  · exact in_t (by decide) (by decide) (kt ⟨vp_in_nI (n := 1) (by decide) (by decide), k3 (by rw [show ((1 : Int32)).toNatClampNeg = 1 from rfl, i1, ht]; rfl) ⟨rfl, hV⟩⟩)
