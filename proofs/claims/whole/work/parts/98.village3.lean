-- settling, and what stays
theorem va_up_s {α : Type} {f : Nat → α} {k : Nat} {x : α} : va_up f k x k = x := if_pos rfl
theorem va_up_n {α : Type} {f : Nat → α} {k j : Nat} {x : α} (h : j ≠ k) : va_up f k x j = f j := if_neg h
theorem ncF_in {nc : Nat → Option Nat} {q : Nat → Nat} : ∀ (n j : Nat), j < n → ncF nc q n j = some (q j)
  | 0, j, h => absurd h (Nat.not_lt_zero j)
  | n + 1, j, h => by
    rw [ncF]
    by_cases e : j = n
    · rw [e, va_up_s]
    · rw [va_up_n e]
      exact ncF_in n j (by omega)
theorem settle_c {n : Nat} (hn : n ≤ 3) {pe : Pe} {nc : Nat → Option Nat} {q : Nat → Nat} (hnc : ∀ j, j < n → nc j = some (q j)) (hpe : ∀ j, j < n → q j ∈ pe.1 ∧ ∃ i kd ch ga lo : Nat, pe.2 (q j) = (kd, nI i, nI ch, nI ga, nI lo) ∧ 1 ≤ kd ∧ kd ≤ 5) {th ev : Bool} {si da we ri : Int32} {me pu lv : Nat → Int32} {people : Nat → Option Nat}
    {post : Unit → Bool → Int32 → Int32 → Bool → Int32 → Int32 → (Nat → Int32) → (Nat → Int32) → (Nat → Int32) → (Nat → Option Nat) → Prop}
    (hp : ∀ people' : Nat → Option Nat, (∀ j, j < n → people' j = some (q j)) → (∀ j, n ≤ j → people' j = people j) → post () true (nI n) 0 false 0 (nI (RR (fun j => (pe.2 (q j)).1) n)) (fl 3 0 me) (fl 3 0 pu) (fl 100 0 lv) people') : wpX9_settle (nI n) th si da ev we ri nc me pu lv people pe post := by
  unfold wpX9_settle wp_fillI
  have h3 : ¬ (3 : Int32) < nI n := nI_nlt (a := 3) hn (by decide)
  rw [if_neg h3]
  refine lp (σ := Nat → Option Nat) (fun m i s => wlX9_settle_60 nc pe post m (nI i) true (nI n) 0 false 0 (nI (RR (fun j => (pe.2 (q j)).1) i)) (fl 3 0 me) (fl 3 0 pu) (fl 100 0 lv) s) (fun i s => (∀ j, j < i → s j = some (q j)) ∧ ∀ j, i ≤ j → s j = people j) n (fun m s h => ?_) (fun m i s hi h kk => ?_) fu 0 people (Nat.zero_le _) (by unfold fu; omega) ⟨(fun j hj => absurd hj (Nat.not_lt_zero j)), fun _ _ => rfl⟩
  · unfold wlX9_settle_60
    exact k1 (nI_le (Nat.le_refl _) (by omega)) (hp s h.1 h.2)
  · unfold wlX9_settle_60 wjX9_settle_106
    have v3 : vp_in (nI i) 3 := vp_in_nI (by omega) (by decide)
    refine k2 (nI_ge hi (by omega)) ⟨v3, ?_⟩
    rw [nI_clamp (show i < 2 ^ 31 by omega), hnc i hi, nI_1]
    obtain ⟨g1, x, kd, ch, ga, lo, g2, g3, g4⟩ := hpe i hi
    refine ks ⟨g1, v3, ?_⟩
    have st : (∀ j, j < i + 1 → va_up s i (some (q i)) j = some (q j)) ∧ ∀ j, i + 1 ≤ j → va_up s i (some (q i)) j = people j := by
      refine ⟨fun j hj => ?_, fun j hj => ?_⟩
      · by_cases e : j = i
        · rw [e, va_up_s]
        · rw [va_up_n e]
          exact h.1 j (by omega)
      · rw [va_up_n (by omega)]
        exact h.2 j (by omega)
    have go := kk _ st
    rw [RR] at go
    rw [g2] at go ⊢
    refine v_begins g3 g4 ?_
    by_cases e : kd = 5
    · rw [if_pos e] at go
      rw [show decide (kd ≠ 5) = false from decide_eq_false (fun z => z e)]
      exact kf' go
    · rw [if_neg e] at go
      rw [show decide (kd ≠ 5) = true from decide_eq_true e]
      rw [or_r (by omega) (RR_lt _ i)]
      exact kt' go
theorem pL_mem {ns : List (Nat × PT)} {a : Nat} (h : a ∈ ns.map (·.1)) : ∃ x ∈ ns, pL ns a = x.2 := by
  unfold pL
  cases e : ns.find? (fun x => x.1 == a) with
  | none =>
    obtain ⟨x, hx, rfl⟩ := List.mem_map.mp h
    have := List.find?_eq_none.mp e x hx
    simp at this
  | some x => exact ⟨x, List.mem_of_find?_eq_some e, rfl⟩
theorem pN_up {ns2 ns : NS} (hd : ((ns2 ++ ns).map (·.1)).Nodup) {a : Nat} (ha : a ∈ (pN ns).1) : a ∈ (pN (ns2 ++ ns)).1 ∧ (pN (ns2 ++ ns)).2 a = (pN ns).2 a := by
  obtain ⟨x, hx, rfl⟩ := List.mem_map.mp ha
  have hx2 : x ∈ ns2 ++ ns := List.mem_append_right _ hx
  have hd' : (ns.map (·.1)).Nodup := by
    rw [List.map_append, List.nodup_append] at hd
    exact hd.2.1
  refine ⟨List.mem_map.mpr ⟨x, hx2, rfl⟩, ?_⟩
  show pL (ns2 ++ ns) x.1 = pL ns x.1
  rw [pL_at hd hx2, pL_at hd' hx]
theorem VI_up {ns2 ns : NS} (hd : ((ns2 ++ ns).map (·.1)).Nodup) {v : VT} {f : Nat → Int32} (h : VI ns v f) : VI (ns2 ++ ns) v f := by
  obtain ⟨n, d, w, r, a1, a2, a3, a4, a5, a6, a7, a8, a9, b1, b2, b3, b4, b5, b6, b7, b8, b9, c1, c2, c3, c4⟩ := h
  refine ⟨n, d, w, r, a1, a2, a3, a4, a5, a6, a7, a8, a9, b1, b2, b3, b4, b5, b6, b7, b8, fun i hi => ?_, c1, c2, c3, fun i hi a ha => (pN_up hd (c4 i hi a ha)).1⟩
  obtain ⟨a, kd, ch, ga, lo, q1, q2, q3, q4⟩ := b9 i hi
  have := pN_up hd q2
  exact ⟨a, kd, ch, ga, lo, q1, this.1, by rw [this.2, q3], q4⟩
theorem II_up {ns2 ns : NS} (hd : ((ns2 ++ ns).map (·.1)).Nodup) {v0 v1 : VT} {im ke : Nat → Int32} (h : II ns v0 v1 im ke) : II (ns2 ++ ns) v0 v1 im ke := ⟨h.1, h.2.1, fun z => VI_up hd (h.2.2.1 z), fun z => VI_up hd (h.2.2.2 z)⟩
theorem nsF_mem {len : Nat} {c : Nat → Nat} {k0 : Nat} {q : Nat → Nat} {n j : Nat} (hj : j < n) : (q j, tP len c k0 j) ∈ nsF len c k0 q n := List.mem_map.mpr ⟨j, List.mem_range.mpr hj, rfl⟩
theorem TI_to {l t : Int32} {b m : Nat → Int32} (h : TI l b t m) : ∃ (n : Nat) (c : Nat → Nat), n ≤ 60 ∧ l = nI n ∧ t = nI n ∧ (∀ k, k < 60 → c k < 256 ∧ b k = nI (c k) ∧ m k = nI (c k)) := by
  obtain ⟨n, h1, h2, h3, h4⟩ := h
  have hx : ∀ k, ∃ x : Nat, k < 60 → x < 256 ∧ b k = nI x ∧ m k = nI x := fun k => by
    by_cases hk : k < 60
    · obtain ⟨x, hx⟩ := h4 k hk
      exact ⟨x, fun _ => hx⟩
    · exact ⟨0, fun z => absurd z hk⟩
  exact ⟨n, fun k => Classical.choose (hx k), h1, h2, h3, fun k hk => Classical.choose_spec (hx k) hk⟩
theorem TI_0 {l t : Int32} {b m : Nat → Int32} (h : TI l b t m) : TI 0 b 0 m := by
  obtain ⟨n, h1, h2, h3, h4⟩ := h
  exact ⟨0, by omega, rfl, rfl, h4⟩
theorem testBit_hi {r n i : Nat} (h : r < 2 ^ n) (hi : n ≤ i) : r.testBit i = false := Nat.testBit_lt_two_pow (Nat.lt_of_lt_of_le h (Nat.pow_le_pow_right (by decide) hi))
theorem VI_new {ns : NS} {len : Nat} {c : Nat → Nat} {k0 n : Nat} (hn : n ≤ 3) {q : Nat → Nat} (hq : ∀ j, j < n → q j ∈ (pN ns).1 ∧ (pN ns).2 (q j) = tP len c k0 j) {d f me pu lv : Nat → Int32} {people : Nat → Option Nat} (hpe : ∀ j, j < n → people j = some (q j)) (hpe2 : ∀ j, j < 3 → ∀ a, people j = some a → a ∈ (pN ns).1) (hd : DR len c k0 n d) (hf : ∀ k, k < 124 → f k = d k) :
    VI ns (true, nI n, 0, false, 0, nI (RR (kdF len c k0) n), people, fl 3 0 me, fl 3 0 pu, fl 100 0 lv) f := by
  obtain ⟨a0, a1, a2, a3, a4, a5, a6⟩ := hd
  have r1 := RR_lt (kdF len c k0) n
  have h8 : 2 ^ n ≤ 2 ^ 3 := Nat.pow_le_pow_right (by decide) hn
  refine ⟨n, 0, 0, RR (kdF len c k0) n, hn, by omega, by omega, by omega, rfl, rfl, rfl, rfl, ?_, ?_, ?_, ?_, ?_, ?_, fun i hi => ⟨?_, ?_⟩, fun k hk => ?_, fun k h1 h2 => ?_, fun i hi => ?_, fun i h1 h2 => ⟨?_, ?_⟩, fun i h1 h2 => ⟨testBit_hi r1 h1, Nat.zero_testBit i⟩, (fun z => by cases z), hpe2⟩
  · rw [hf 0 (by omega), a0]
    rfl
  · rw [hf 1 (by omega), a1]
  · rw [hf 2 (by omega), a2]
  · rw [hf 3 (by omega), a4 3 (by omega) (by omega)]
    rfl
  · rw [hf 4 (by omega), a4 4 (by omega) (by omega)]
    rfl
  · rw [hf 5 (by omega), a4 5 (by omega) (by omega)]
    rfl
  · rw [hf _ (by omega), (a6 i hi).2]
    exact if_pos hi
  · rw [hf _ (by omega), (a6 i hi).1]
    exact if_pos hi
  · rw [hf _ (by omega), a5 _ (by omega) (by omega)]
    exact if_pos hk
  · rw [hf _ (by omega), a5 _ (by omega) (by omega)]
  · obtain ⟨e1, e2, e3, e4⟩ := a3 i hi
    have kb := kindS_b (bA len c (KK len c k0 i))
    refine ⟨q i, kdF len c k0 i, chF len c k0 i, gaF len c k0 i, loF len c k0 i, hpe i hi, (hq i hi).1, (hq i hi).2, kb.1, kb.2, nm_le _ _, nm_le _ _, nm_le _ _, ?_, ?_, ?_, ?_⟩
    · rw [hf _ (by omega), e1]
    · rw [hf _ (by omega), e2]
    · rw [hf _ (by omega), e3]
    · rw [hf _ (by omega), e4]
  · rw [hf _ (by omega), (a6 i h2).2]
  · rw [hf _ (by omega), (a6 i h2).1]
theorem st0_s {len : Nat} {c : Nat → Nat} (h : (st0 len c).2 = 0) : st0 len c = ((st0 len c).1, 0) := Prod.ext rfl h
theorem pu_village : Pu_village Inv := by
  intro S M ns hV
  obtain ⟨hR, hst, hT, hfk, hVI, hII, hAI, hTR⟩ := id hV
  obtain ⟨len, c, hl, e1, e2, hb⟩ := TI_to hT
  have hc : ∀ k, k < len → c k < 256 := fun k hk => (hb k (by omega)).1
  have hb1 : ∀ k, k < 60 → S.2.2.1.2.2.2.1 k = nI (c k) := fun k hk => (hb k hk).2.1
  have hb2 : ∀ k, k < 60 → M.2.1.2.2.2.2.1 k = nI (c k) := fun k hk => (hb k hk).2.2
  have hT0 := TI_0 hT
  unfold wpX11_village
  rw [e1, e2]
  have ok0 : Ok len (st0 len c) := st0_ok
  have ok1 := ok0.1
  refine readVillage_c hl hc hb1 (fun hF => ?_) (fun h0 n e hn hg hE q => ?_)
  · refine k2 (nI_nz hF ok0.2) (fun hd _ => village_m hl hc hb2 (fun aft start tok val d hRM hD => ?_))
    rw [if_neg hF, if_neg hF]
    refine end_f (by omega) ⟨rfl, hR, hst, hT0, rfl, VI_up hd hVI, II_up hd hII, hAI, hTR⟩
  · by_cases he : e.2 = 0
    · refine k1 (by rw [he]; rfl) (settle_c hn (q := q) (fun j hj => ncF_in n j hj) (fun j hj => ?_) (fun people' hp1 hp2 => ?_))
      · have hm : q j ∈ (nsF len c (st0 len c).1 q n).map (·.1) := List.mem_map.mpr ⟨_, nsF_mem hj, rfl⟩
        refine ⟨hm, ?_⟩
        obtain ⟨x, hx, ex⟩ := pL_mem hm
        obtain ⟨j', -, rfl⟩ := List.mem_map.mp hx
        exact ⟨_, _, _, _, _, ex, (kindS_b _).1, (kindS_b _).2⟩
      · unfold wpX11_forgetActs
        intro hd hok
        have hd1 : ((nsF len c (st0 len c).1 q n).map (·.1)).Nodup := by
          rw [List.map_append, List.nodup_append] at hd
          exact hd.1
        have hq1 : ∀ j, j < n → pL (nsF len c (st0 len c).1 q n) (q j) = tP len c (st0 len c).1 j := fun j hj => pL_at hd1 (nsF_mem hj)
        have hq2 : ∀ j, j < n → q j ∈ (pN (nsF len c (st0 len c).1 q n ++ ns)).1 ∧ (pN (nsF len c (st0 len c).1 q n ++ ns)).2 (q j) = tP len c (st0 len c).1 j := fun j hj => ⟨List.mem_map.mpr ⟨_, List.mem_append_left _ (nsF_mem hj), rfl⟩, pL_at hd (List.mem_append_left _ (nsF_mem hj))⟩
        have eR : RR (fun j => ((pN (nsF len c (st0 len c).1 q n)).2 (q j)).1) n = RR (kdF len c (st0 len c).1) n := RR_c n (fun j hj => by
          show (pL (nsF len c (st0 len c).1 q n) (q j)).1 = _
          rw [hq1 j hj]
          rfl)
        rw [eR]
        refine village_m hl hc hb2 (fun aft start tok val d hRM hD => ?_)
        rw [if_pos h0, if_pos h0] at hRM ⊢
        rw [st0_s h0] at hRM
        refine loop_m89 hl hc hb2 ok1 hn hg hE hRM hD (fun _ fp aft' start' tok' val' d' now' hD' hnow => ?_) (fun z => absurd he z)
        have en : now' 1 = nI n := by rw [hnow 1 (by omega), hD'.2.1]
        refine ⟨en.symm, hR, hst, hT0, hfk, VI_new hn hq2 hp1 (fun j hj a ha => ?_) hD' hnow, II_up hd hII, ?_, hTR⟩
        · by_cases hjn : j < n
          · rw [hp1 j hjn] at ha
            cases ha
            exact (hq2 j hjn).1
          · rw [hp2 j (by omega)] at ha
            exact (pN_up hd (VI_a hVI j hj a ha)).1
        · obtain ⟨qq, l, g1, g2, g3, g4, g5, g6, g7, g8⟩ := hAI
          exact ⟨qq, [], g1, Nat.zero_le _, g3, rfl, rfl, (fun i a h => by cases h), trivial, fun _ => rfl⟩
    · have e3 : e.1 ≤ 60 ∧ e.2 ≤ 3 := by
        have hk := KK_le hl ok1 n hg
        rcases hE with ⟨g1, rfl⟩ | ⟨g1, g2, rfl⟩ | ⟨g1, g2, g3, rfl⟩ | ⟨g1, g2, g3, g4, rfl⟩
        · exact ⟨Nat.le_trans hk hl, Nat.zero_le _⟩
        · exact ⟨Nat.le_trans hk hl, show 1 ≤ 3 by decide⟩
        · exact ⟨Nat.le_trans hk hl, Nat.le_refl _⟩
        · have := cc4_ok (c := c) (st := (KK len c (st0 len c).1 n + 1, 0)) hl ⟨g1, Nat.zero_le _⟩
          exact ⟨Nat.le_trans this.1 hl, this.2⟩
      refine k2 (nI_nz he e3.2) (fun hd _ => village_m hl hc hb2 (fun aft start tok val d hRM hD => ?_))
      rw [if_pos h0, if_pos h0] at hRM ⊢
      rw [st0_s h0] at hRM
      exact loop_m89 hl hc hb2 ok1 hn hg hE hRM hD (fun z => absurd z he) (fun _ fp aft' start' tok' val' d' => ⟨rfl, hR, hst, hT0, rfl, VI_up hd hVI, II_up hd hII, hAI, hTR⟩)
-- the start
theorem VI_st : VI [] (false, 0, 0, false, 0, 0, (fun _ => none), (fun _ => 0), (fun _ => 0), (fun _ => 0)) (fun _ => 0) := ⟨0, 0, 0, 0, by omega, by omega, by omega, by omega, rfl, rfl, rfl, rfl, rfl, rfl, rfl, rfl, rfl, rfl, fun _ _ => ⟨rfl, rfl⟩, fun _ _ => rfl, fun _ _ _ => rfl, fun i hi => absurd hi (Nat.not_lt_zero i), fun _ _ _ => ⟨rfl, rfl⟩, fun i _ _ => ⟨Nat.zero_testBit i, Nat.zero_testBit i⟩, fun _ => ⟨rfl, rfl, rfl⟩, (fun i _ a h => by cases h)⟩
theorem RI_0 : RI (fun _ _ => 0) (fun _ => 0) (fl 8 (-1) (fun _ => 0)) (upd (upd (upd (upd (upd (upd (upd (upd (fun _ => 0) 0 (-1000000)) 1 (-1000000)) 2 (-1000000)) 3 (-1000000)) 4 (-1000000)) 5 (-1000000)) 6 (-1000000)) 7 (-1000000)) (fun _ => 0) (fun _ => 0) := by
  intro j hj
  refine ⟨fun _ _ => rfl, Or.inl ⟨if_pos hj, ?_⟩⟩
  rcases c8 hj with rfl | rfl | rfl | rfl | rfl | rfl | rfl | rfl <;> rfl
theorem Inv_0 : Inv S0 M0 [] := by
  refine ⟨RI_0, rfl, ⟨0, by omega, rfl, rfl, fun _ _ => ⟨0, by omega, rfl, rfl⟩⟩, rfl, VI_st, ⟨rfl, rfl, (fun h => by cases h), (fun h => by cases h)⟩, ⟨0, [], by omega, Nat.zero_le _, rfl, rfl, rfl, (fun i a h => by cases h), trivial, fun _ => rfl⟩, ⟨0, by omega, rfl, rfl, fun k hk => absurd hk (Nat.not_lt_zero k)⟩⟩
theorem pu_all : PuAll Inv := ⟨pu_row, pu_set, pu_copy, pu_drop, pu_feed, pu_village, pu_fault, pu_live, pu_again, pu_stand, pu_will, pu_undo, pu_person, pu_lives, pu_lived, pu_mean, pu_best, pu_rests, pu_worth, pu_knows, pu_often, pu_gone, pu_image_0, pu_image_1, pu_image_o, pu_restore_0, pu_restore_1, pu_restore_o, pu_kind, pu_as, pu_ask, pu_trace, pu_count, pu_status⟩
