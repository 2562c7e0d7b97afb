-- habits; often
theorem hab {it : Nat → Nat → Int32} {la si lane many items f : Nat → Int32} (hR : RI it la si lane many items) {j n : Nat} (hj : j < 8) (hn : n ≤ 3) (e1 : f 1 = nI n) (fnd : Int32) (hc hm : Nat → Int32) :
    (∃ (ρ fnd' : Int32), ¬ ρ = 0 ∧ (∀ post : Int32 → Int32 → (Nat → Int32) → Prop, (∀ H, post ρ fnd' H) → wpX11_takeHabits (nI j) fnd si (nI n) it hc post) ∧ (∀ post : Int32 → Int32 → (Nat → Int32) → Prop, (∀ H, post ρ fnd' H) → wpX12_notHabits (nI j) fnd lane many f hm items post)) ∨
    (∃ h : Nat → Nat, (∀ i, i < n → h i ≤ 2) ∧ (∀ post : Int32 → Int32 → (Nat → Int32) → Prop, (∀ H : Nat → Int32, (∀ i, i < n → H i = nI (h i)) → post 0 0 H) → wpX11_takeHabits (nI j) fnd si (nI n) it hc post) ∧ (∀ post : Int32 → Int32 → (Nat → Int32) → Prop, (∀ H : Nat → Int32, (∀ i, i < n → H i = nI (h i)) → post 0 fnd H) → wpX12_notHabits (nI j) fnd lane many f hm items post)) := by
  unfold wpX11_takeHabits wpX12_notHabits wpX11_found wpX12_found
  rcases miss_case hR hj with ⟨ec, em⟩ | ⟨t, m, ht, hm40, h1, h2, h3, h4, ec, em⟩
  · exact Or.inl ⟨-1000010 - 1, 1, by decide, fun post hp => ec _ (kt' (hp _)), fun post hp => em _ (kt' (hp _))⟩
  have em' : ∀ (post : Bool → Prop), post false → wpX12_isMissing (nI j) lane post := em
  by_cases hnm : n ≤ m
  · have hpt : ∀ post : Bool → Prop, post true → wpX4_hasPart (nI j) 0 (nI n) si post := fun post hp => part_t hj rfl (by decide) (nI_pos (by omega)) (by rw [h3]; exact nI_nlt (by omega) (by omega)) (by rw [h3, pk_sub (by omega)]; exact nI_pos (by omega)) hp
    have hge : nI n ≤ nI m := nI_le hnm (by omega)
    have itq : ∀ i, i < n → it j i = items (40 * j + i) := fun i hi => (hR j hj).1 i (by omega)
    have hmod : ∀ post : Int32 → Int32 → (Nat → Int32) → Prop, wlX12_notHabits_37 lane many f items post fu (nI j) 0 fnd hm → (wpX12_isMissing (nI j) lane (fun r1 => (r1 = false → (vp_in (nI j) 8 ∧ ((f 1 ≤ many (nI j).toNatClampNeg → wlX12_notHabits_37 lane many f items post fu (nI j) 0 fnd hm) ∧ (¬ f 1 ≤ many (nI j).toNatClampNeg → post (-1000010 - 2) 2 hm)))) ∧ (r1 = true → post (-1000010 - 1) 1 hm))) := by
      intro post hp
      refine em _ (kf' ⟨in8 hj, ?_⟩)
      rw [cl8 hj, e1, h4]
      exact k1 hge hp
    by_cases hg : ∀ i, i < n → ¬ it j i < 0 ∧ it j i < 3
    · have hh : ∀ i, ∃ h : Nat, i < n → h ≤ 2 ∧ it j i = nI h := by
        intro i
        by_cases hi : i < n
        · obtain ⟨g1, g2⟩ := hg i hi
          rcases ix_case (it j i) 3 (by decide) with q | ⟨-, q⟩ | ⟨x, hx, e⟩
          · exact absurd q g1
          · exact absurd g2 (Int32.not_lt.mpr q)
          · exact ⟨x, fun _ => ⟨by omega, e⟩⟩
        · exact ⟨0, fun q => absurd q hi⟩
      refine Or.inr ⟨fun i => Classical.choose (hh i), fun i hi => (Classical.choose_spec (hh i) hi).1, fun post hp => ec _ (kf' (hpt _ (kt ?_))), fun post hp => hmod post ?_⟩
      · refine lp (σ := Nat → Int32) (fun m i s => wlX11_takeHabits_44 si (nI n) it post m (nI j) (nI i) fnd s) (fun i s => ∀ q, q < i → s q = it j q) n (fun m s h => ?_) (fun m i s hi h k => ?_) fu 0 hc (by omega) (by unfold fu; omega) (fun q hq => absurd hq (Nat.not_lt_zero q))
        · unfold wlX11_takeHabits_44 wpX11_answered
          exact k1 (nI_le (Nat.le_refl _) (by omega)) (hp s (fun i hi => (h i hi).trans (Classical.choose_spec (hh i) hi).2))
        · unfold wlX11_takeHabits_44 wpX4_itemAt
          rw [cl8 hj, nI_clamp (show i < 2 ^ 31 by omega), nI_1]
          refine k2 (nI_ge hi (by omega)) ⟨in8 hj, vp_in_nI (by omega) (by decide), k2 (hg i hi).1 (k1 (hg i hi).2 ⟨vp_in_nI (by omega) (by decide), k _ (fun q hq => ?_)⟩)⟩
          by_cases e : q = i
          · subst e
            exact upd_s
          · rw [upd_n e]
            exact h q (by omega)
      · refine lp (σ := Nat → Int32) (fun m i s => wlX12_notHabits_37 lane many f items post m (nI j) (nI i) fnd s) (fun i s => ∀ q, q < i → s q = it j q) n (fun m s h => ?_) (fun m i s hi h k => ?_) fu 0 hm (by omega) (by unfold fu; omega) (fun q hq => absurd hq (Nat.not_lt_zero q))
        · unfold wlX12_notHabits_37
          rw [e1]
          exact k1 (nI_le (Nat.le_refl _) (by omega)) (hp s (fun i hi => (h i hi).trans (Classical.choose_spec (hh i) hi).2))
        · unfold wlX12_notHabits_37
          rw [e1, ix40, nI_clamp (show 40 * j + i < 2 ^ 31 by omega), nI_clamp (show i < 2 ^ 31 by omega), nI_1, upd_s, ← itq i hi]
          have v3 : vp_in (nI i) 3 := vp_in_nI (by omega) (by decide)
          have g3 : ¬ (2 : Int32) < it j i := by
            have := (Classical.choose_spec (hh i) hi)
            rw [this.2]
            exact nI_nlt (a := 2) this.1 (by decide)
          refine k2 (nI_ge hi (by omega)) ⟨vp_in_nI (by omega) (by decide), v3, v3, in_t (hg i hi).1 g3 (kt (k _ (fun q hq => ?_)))⟩
          by_cases e : q = i
          · subst e
            exact upd_s
          · rw [upd_n e]
            exact h q (by omega)
    · refine Or.inl ⟨-1000001, fnd, by decide, fun post hp => ec _ (kf' (hpt _ (kt ?_))), fun post hp => hmod post ?_⟩
      · refine lp (σ := Nat → Int32) (fun m i s => wlX11_takeHabits_44 si (nI n) it post m (nI j) (nI i) fnd s) (fun i s => ∀ q, q < i → ¬ it j q < 0 ∧ it j q < 3) n (fun m s h => absurd h hg) (fun m i s hi h k => ?_) fu 0 hc (by omega) (by unfold fu; omega) (fun q hq => absurd hq (Nat.not_lt_zero q))
        unfold wlX11_takeHabits_44 wpX4_itemAt
        rw [cl8 hj, nI_clamp (show i < 2 ^ 31 by omega), nI_1]
        refine k2 (nI_ge hi (by omega)) ⟨in8 hj, vp_in_nI (by omega) (by decide), fun _ => hp _, fun g1 => ⟨fun g2 => ⟨vp_in_nI (by omega) (by decide), k _ (fun q hq => ?_)⟩, fun _ => hp _⟩⟩
        by_cases e : q = i
        · subst e
          exact ⟨g1, g2⟩
        · exact h q (by omega)
      · refine lp (σ := Nat → Int32) (fun m i s => wlX12_notHabits_37 lane many f items post m (nI j) (nI i) fnd s) (fun i s => ∀ q, q < i → ¬ it j q < 0 ∧ it j q < 3) n (fun m s h => absurd h hg) (fun m i s hi h k => ?_) fu 0 hm (by omega) (by unfold fu; omega) (fun q hq => absurd hq (Nat.not_lt_zero q))
        unfold wlX12_notHabits_37
        rw [e1, ix40, nI_clamp (show 40 * j + i < 2 ^ 31 by omega), nI_clamp (show i < 2 ^ 31 by omega), nI_1, upd_s, ← itq i hi]
        have v3 : vp_in (nI i) 3 := vp_in_nI (by omega) (by decide)
        refine k2 (nI_ge hi (by omega)) ⟨vp_in_nI (by omega) (by decide), v3, v3, ?_⟩
        rcases ix_case (it j i) 3 (by decide) with q | ⟨-, q⟩ | ⟨x, hx, e⟩
        · exact in_f (Or.inl q) (kf (hp _))
        · exact in_f (Or.inr (gt_of_ge (n := 2) q (by decide))) (kf (hp _))
        · refine in_t (by rw [e]; exact nI_pos (by omega)) (by rw [e]; exact nI_nlt (a := 2) (by omega) (by decide)) (kt (k _ (fun q hq => ?_)))
          by_cases e2 : q = i
          · subst e2
            rw [e]
            exact ⟨nI_pos (by omega), nI_lt (b := 3) hx (by decide)⟩
          · exact h q (by omega)
  · refine Or.inl ⟨-1000010 - 2, 2, by decide, fun post hp => ec _ (kf' (part_f hj rfl (Or.inr (Or.inr (Or.inl (by rw [h3]; exact nI_lt (by omega) (by omega))))) (kf (hp _)))), fun post hp => em _ (kf' ⟨in8 hj, ?_⟩)⟩
    rw [cl8 hj, e1, h4]
    exact k2 (nI_ge (by omega) (by omega)) (hp _)
