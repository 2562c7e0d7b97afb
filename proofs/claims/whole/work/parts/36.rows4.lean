def cutl (ln v : Int32) : Int32 := if ln = 0 then v.toInt8.toInt32 else if ln = 1 then v.toInt16.toInt32 else v

def wpX4_itemAt (p0 : Int32) (p1 : Int32) (v_items : Nat → Nat → Int32) (post : Int32 → Prop) : Prop := vp_in p0 8 ∧ vp_in p1 40 ∧ post (v_items p0.toNatClampNeg p1.toNatClampNeg)
abbrev rmX4_itemAt : Room := rmX4_itemAt_r0
set_option maxHeartbeats 4000000 in
theorem ccX4_itemAt (l : Launch) (D : va_G) (cy : Nat → ClassId) (h_this : Nat) (h_items : Nat) (r_items : Nat → Nat) (x_lanes : Value) (x_sizes : Value) (v_items : Nat → Nat → Int32) (p0 : Int32) (p1 : Int32) (post : Int32 → Prop) (hF : wpX4_itemAt p0 p1 v_items post) : Cr l D cy miX4_itemAt rmX4_itemAt emI NP [.ref h_this, .int p0, .int p1] [(h_this, .inr (3, [.ref h_items, x_lanes, x_sizes])), (h_items, .inl (cy 5, 8, .inr (.inr (.inr (.inr (rO r_items)))))), (r_items 0, .inl (cy 0, 40, .inl (v_items 0))), (r_items 1, .inl (cy 0, 40, .inl (v_items 1))), (r_items 2, .inl (cy 0, 40, .inl (v_items 2))), (r_items 3, .inl (cy 0, 40, .inl (v_items 3))), (r_items 4, .inl (cy 0, 40, .inl (v_items 4))), (r_items 5, .inl (cy 0, 40, .inl (v_items 5))), (r_items 6, .inl (cy 0, 40, .inl (v_items 6))), (r_items 7, .inl (cy 0, 40, .inl (v_items 7)))] post := by
  unfold wpX4_itemAt at hF
  obtain ⟨hv0, hF⟩ := hF
  obtain ⟨j0, hj0, rfl⟩ := vp_in_of hv0 (by decide)
  rw [show (nI j0).toNatClampNeg = j0 from nI_clamp (by omega)] at hF
  match j0, hj0 with
  | 0, _ =>
    exact ccX4_itemAt_r0 l D cy h_this h_items r_items x_lanes x_sizes v_items p1 post hF
  | 1, _ =>
    exact ccX4_itemAt_r1 l D cy h_this h_items r_items x_lanes x_sizes v_items p1 post hF
  | 2, _ =>
    exact ccX4_itemAt_r2 l D cy h_this h_items r_items x_lanes x_sizes v_items p1 post hF
  | 3, _ =>
    exact ccX4_itemAt_r3 l D cy h_this h_items r_items x_lanes x_sizes v_items p1 post hF
  | 4, _ =>
    exact ccX4_itemAt_r4 l D cy h_this h_items r_items x_lanes x_sizes v_items p1 post hF
  | 5, _ =>
    exact ccX4_itemAt_r5 l D cy h_this h_items r_items x_lanes x_sizes v_items p1 post hF
  | 6, _ =>
    exact ccX4_itemAt_r6 l D cy h_this h_items r_items x_lanes x_sizes v_items p1 post hF
  | 7, _ =>
    exact ccX4_itemAt_r7 l D cy h_this h_items r_items x_lanes x_sizes v_items p1 post hF

def wpX4_lay (p0 : Int32) (p1 : Int32) (p2 : Int32) (v_items : Nat → Nat → Int32) (v_lanes : Nat → Int32) (v_sizes : Nat → Int32) (post : Unit → (Nat → Nat → Int32) → (Nat → Int32) → (Nat → Int32) → Prop) : Prop := vp_in p0 8 ∧ post () (va_up v_items p0.toNatClampNeg (fl 40 0 (v_items p0.toNatClampNeg))) (upd v_lanes p0.toNatClampNeg p1) (upd v_sizes p0.toNatClampNeg p2)
abbrev rmX4_lay : Room := rmX4_lay_r0
set_option maxHeartbeats 4000000 in
theorem ccX4_lay (l : Launch) (D : va_G) (cy : Nat → ClassId) (h_this : Nat) (h_items : Nat) (h_lanes : Nat) (h_sizes : Nat) (r_items : Nat → Nat) (v_items : Nat → Nat → Int32) (v_lanes : Nat → Int32) (v_sizes : Nat → Int32) (p0 : Int32) (p1 : Int32) (p2 : Int32) (post : Unit → (Nat → Nat → Int32) → (Nat → Int32) → (Nat → Int32) → Prop) (hF : wpX4_lay p0 p1 p2 v_items v_lanes v_sizes post) : Ct l D cy miX4_lay rmX4_lay emV NP [.ref h_this, .int p0, .int p1, .int p2] [(h_this, .inr (3, [.ref h_items, .ref h_lanes, .ref h_sizes])), (h_items, .inl (cy 5, 8, .inr (.inr (.inr (.inr (rO r_items)))))), (h_lanes, .inl (cy 0, 8, .inl v_lanes)), (h_sizes, .inl (cy 0, 8, .inl v_sizes)), (r_items 0, .inl (cy 0, 40, .inl (v_items 0))), (r_items 1, .inl (cy 0, 40, .inl (v_items 1))), (r_items 2, .inl (cy 0, 40, .inl (v_items 2))), (r_items 3, .inl (cy 0, 40, .inl (v_items 3))), (r_items 4, .inl (cy 0, 40, .inl (v_items 4))), (r_items 5, .inl (cy 0, 40, .inl (v_items 5))), (r_items 6, .inl (cy 0, 40, .inl (v_items 6))), (r_items 7, .inl (cy 0, 40, .inl (v_items 7)))] (fun r w1 => ∃ (w_items : Nat → Nat → Int32) (w_lanes : Nat → Int32) (w_sizes : Nat → Int32), w1 = [(h_this, .inr (3, [.ref h_items, .ref h_lanes, .ref h_sizes])), (h_items, .inl (cy 5, 8, .inr (.inr (.inr (.inr (rO r_items)))))), (h_lanes, .inl (cy 0, 8, .inl w_lanes)), (h_sizes, .inl (cy 0, 8, .inl w_sizes)), (r_items 0, .inl (cy 0, 40, .inl (w_items 0))), (r_items 1, .inl (cy 0, 40, .inl (w_items 1))), (r_items 2, .inl (cy 0, 40, .inl (w_items 2))), (r_items 3, .inl (cy 0, 40, .inl (w_items 3))), (r_items 4, .inl (cy 0, 40, .inl (w_items 4))), (r_items 5, .inl (cy 0, 40, .inl (w_items 5))), (r_items 6, .inl (cy 0, 40, .inl (w_items 6))), (r_items 7, .inl (cy 0, 40, .inl (w_items 7)))] ∧ post r w_items w_lanes w_sizes) := by
  unfold wpX4_lay at hF
  obtain ⟨hv0, hF⟩ := hF
  obtain ⟨j0, hj0, rfl⟩ := vp_in_of hv0 (by decide)
  rw [show (nI j0).toNatClampNeg = j0 from nI_clamp (by omega)] at hF
  match j0, hj0 with
  | 0, _ =>
    exact ccX4_lay_r0 l D cy h_this h_items h_lanes h_sizes r_items v_items v_lanes v_sizes p1 p2 post hF
  | 1, _ =>
    exact ccX4_lay_r1 l D cy h_this h_items h_lanes h_sizes r_items v_items v_lanes v_sizes p1 p2 post hF
  | 2, _ =>
    exact ccX4_lay_r2 l D cy h_this h_items h_lanes h_sizes r_items v_items v_lanes v_sizes p1 p2 post hF
  | 3, _ =>
    exact ccX4_lay_r3 l D cy h_this h_items h_lanes h_sizes r_items v_items v_lanes v_sizes p1 p2 post hF
  | 4, _ =>
    exact ccX4_lay_r4 l D cy h_this h_items h_lanes h_sizes r_items v_items v_lanes v_sizes p1 p2 post hF
  | 5, _ =>
    exact ccX4_lay_r5 l D cy h_this h_items h_lanes h_sizes r_items v_items v_lanes v_sizes p1 p2 post hF
  | 6, _ =>
    exact ccX4_lay_r6 l D cy h_this h_items h_lanes h_sizes r_items v_items v_lanes v_sizes p1 p2 post hF
  | 7, _ =>
    exact ccX4_lay_r7 l D cy h_this h_items h_lanes h_sizes r_items v_items v_lanes v_sizes p1 p2 post hF

def wpX4_put (p0 : Int32) (p1 : Int32) (p2 : Int32) (v_lanes : Nat → Int32) (v_items : Nat → Nat → Int32) (post : Int32 → (Nat → Nat → Int32) → Prop) : Prop := vp_in p0 8 ∧ vp_in p1 40 ∧ post (cutl (v_lanes p0.toNatClampNeg) p2) (va_up v_items p0.toNatClampNeg (upd (v_items p0.toNatClampNeg) p1.toNatClampNeg (cutl (v_lanes p0.toNatClampNeg) p2)))
abbrev rmX4_put : Room := rmX4_put_r0
set_option maxHeartbeats 4000000 in
theorem ccX4_put (l : Launch) (D : va_G) (cy : Nat → ClassId) (h_this : Nat) (h_lanes : Nat) (h_items : Nat) (r_items : Nat → Nat) (x_sizes : Value) (v_lanes : Nat → Int32) (v_items : Nat → Nat → Int32) (p0 : Int32) (p1 : Int32) (p2 : Int32) (post : Int32 → (Nat → Nat → Int32) → Prop) (hF : wpX4_put p0 p1 p2 v_lanes v_items post) : Ct l D cy miX4_put rmX4_put emI NP [.ref h_this, .int p0, .int p1, .int p2] [(h_this, .inr (3, [.ref h_items, .ref h_lanes, x_sizes])), (h_lanes, .inl (cy 0, 8, .inl v_lanes)), (h_items, .inl (cy 5, 8, .inr (.inr (.inr (.inr (rO r_items)))))), (r_items 0, .inl (cy 0, 40, .inl (v_items 0))), (r_items 1, .inl (cy 0, 40, .inl (v_items 1))), (r_items 2, .inl (cy 0, 40, .inl (v_items 2))), (r_items 3, .inl (cy 0, 40, .inl (v_items 3))), (r_items 4, .inl (cy 0, 40, .inl (v_items 4))), (r_items 5, .inl (cy 0, 40, .inl (v_items 5))), (r_items 6, .inl (cy 0, 40, .inl (v_items 6))), (r_items 7, .inl (cy 0, 40, .inl (v_items 7)))] (fun r w1 => ∃ (w_items : Nat → Nat → Int32), w1 = [(h_this, .inr (3, [.ref h_items, .ref h_lanes, x_sizes])), (h_lanes, .inl (cy 0, 8, .inl v_lanes)), (h_items, .inl (cy 5, 8, .inr (.inr (.inr (.inr (rO r_items)))))), (r_items 0, .inl (cy 0, 40, .inl (w_items 0))), (r_items 1, .inl (cy 0, 40, .inl (w_items 1))), (r_items 2, .inl (cy 0, 40, .inl (w_items 2))), (r_items 3, .inl (cy 0, 40, .inl (w_items 3))), (r_items 4, .inl (cy 0, 40, .inl (w_items 4))), (r_items 5, .inl (cy 0, 40, .inl (w_items 5))), (r_items 6, .inl (cy 0, 40, .inl (w_items 6))), (r_items 7, .inl (cy 0, 40, .inl (w_items 7)))] ∧ post r w_items) := by
  unfold wpX4_put at hF
  obtain ⟨hv0, hF⟩ := hF
  obtain ⟨j0, hj0, rfl⟩ := vp_in_of hv0 (by decide)
  rw [show (nI j0).toNatClampNeg = j0 from nI_clamp (by omega)] at hF
  match j0, hj0 with
  | 0, _ =>
    exact ccX4_put_r0 l D cy h_this h_lanes h_items r_items x_sizes v_lanes v_items p1 p2 post ⟨fun h => ⟨fun h2 => ⟨hF.1, by simpa [cutl, h, h2] using hF.2⟩, fun h2 => ⟨hF.1, by simpa [cutl, h, h2] using hF.2⟩⟩, fun h => ⟨hF.1, by simpa [cutl, h] using hF.2⟩⟩
  | 1, _ =>
    exact ccX4_put_r1 l D cy h_this h_lanes h_items r_items x_sizes v_lanes v_items p1 p2 post ⟨fun h => ⟨fun h2 => ⟨hF.1, by simpa [cutl, h, h2] using hF.2⟩, fun h2 => ⟨hF.1, by simpa [cutl, h, h2] using hF.2⟩⟩, fun h => ⟨hF.1, by simpa [cutl, h] using hF.2⟩⟩
  | 2, _ =>
    exact ccX4_put_r2 l D cy h_this h_lanes h_items r_items x_sizes v_lanes v_items p1 p2 post ⟨fun h => ⟨fun h2 => ⟨hF.1, by simpa [cutl, h, h2] using hF.2⟩, fun h2 => ⟨hF.1, by simpa [cutl, h, h2] using hF.2⟩⟩, fun h => ⟨hF.1, by simpa [cutl, h] using hF.2⟩⟩
  | 3, _ =>
    exact ccX4_put_r3 l D cy h_this h_lanes h_items r_items x_sizes v_lanes v_items p1 p2 post ⟨fun h => ⟨fun h2 => ⟨hF.1, by simpa [cutl, h, h2] using hF.2⟩, fun h2 => ⟨hF.1, by simpa [cutl, h, h2] using hF.2⟩⟩, fun h => ⟨hF.1, by simpa [cutl, h] using hF.2⟩⟩
  | 4, _ =>
    exact ccX4_put_r4 l D cy h_this h_lanes h_items r_items x_sizes v_lanes v_items p1 p2 post ⟨fun h => ⟨fun h2 => ⟨hF.1, by simpa [cutl, h, h2] using hF.2⟩, fun h2 => ⟨hF.1, by simpa [cutl, h, h2] using hF.2⟩⟩, fun h => ⟨hF.1, by simpa [cutl, h] using hF.2⟩⟩
  | 5, _ =>
    exact ccX4_put_r5 l D cy h_this h_lanes h_items r_items x_sizes v_lanes v_items p1 p2 post ⟨fun h => ⟨fun h2 => ⟨hF.1, by simpa [cutl, h, h2] using hF.2⟩, fun h2 => ⟨hF.1, by simpa [cutl, h, h2] using hF.2⟩⟩, fun h => ⟨hF.1, by simpa [cutl, h] using hF.2⟩⟩
  | 6, _ =>
    exact ccX4_put_r6 l D cy h_this h_lanes h_items r_items x_sizes v_lanes v_items p1 p2 post ⟨fun h => ⟨fun h2 => ⟨hF.1, by simpa [cutl, h, h2] using hF.2⟩, fun h2 => ⟨hF.1, by simpa [cutl, h, h2] using hF.2⟩⟩, fun h => ⟨hF.1, by simpa [cutl, h] using hF.2⟩⟩
  | 7, _ =>
    exact ccX4_put_r7 l D cy h_this h_lanes h_items r_items x_sizes v_lanes v_items p1 p2 post ⟨fun h => ⟨fun h2 => ⟨hF.1, by simpa [cutl, h, h2] using hF.2⟩, fun h2 => ⟨hF.1, by simpa [cutl, h, h2] using hF.2⟩⟩, fun h => ⟨hF.1, by simpa [cutl, h] using hF.2⟩⟩

def wpX4_carry (p0 : Int32) (p1 : Int32) (p2 : Int32) (p3 : Int32) (p4 : Int32) (v_items : Nat → Nat → Int32) (post : Unit → (Nat → Nat → Int32) → Prop) : Prop := vp_in p0 8 ∧ vp_in p2 8 ∧ ¬ p1 < 0 ∧ ¬ p3 < 0 ∧ ¬ p4 < 0 ∧ p1.toNatClampNeg + p4.toNatClampNeg ≤ 40 ∧ p3.toNatClampNeg + p4.toNatClampNeg ≤ 40 ∧ post () (va_up v_items p2.toNatClampNeg (va_cpy (v_items p0.toNatClampNeg) (v_items p2.toNatClampNeg) p1.toNatClampNeg p3.toNatClampNeg p4.toNatClampNeg))
abbrev rmX4_carry : Room := rmX4_carry_r00
set_option maxHeartbeats 4000000 in
theorem ccX4_carry (l : Launch) (D : va_G) (cy : Nat → ClassId) (h_this : Nat) (h_items : Nat) (r_items : Nat → Nat) (x_lanes : Value) (x_sizes : Value) (v_items : Nat → Nat → Int32) (p0 : Int32) (p1 : Int32) (p2 : Int32) (p3 : Int32) (p4 : Int32) (post : Unit → (Nat → Nat → Int32) → Prop) (hF : wpX4_carry p0 p1 p2 p3 p4 v_items post) : Ct l D cy miX4_carry rmX4_carry emV NP [.ref h_this, .int p0, .int p1, .int p2, .int p3, .int p4] [(h_this, .inr (3, [.ref h_items, x_lanes, x_sizes])), (h_items, .inl (cy 5, 8, .inr (.inr (.inr (.inr (rO r_items)))))), (r_items 0, .inl (cy 0, 40, .inl (v_items 0))), (r_items 1, .inl (cy 0, 40, .inl (v_items 1))), (r_items 2, .inl (cy 0, 40, .inl (v_items 2))), (r_items 3, .inl (cy 0, 40, .inl (v_items 3))), (r_items 4, .inl (cy 0, 40, .inl (v_items 4))), (r_items 5, .inl (cy 0, 40, .inl (v_items 5))), (r_items 6, .inl (cy 0, 40, .inl (v_items 6))), (r_items 7, .inl (cy 0, 40, .inl (v_items 7)))] (fun r w1 => ∃ (w_items : Nat → Nat → Int32), w1 = [(h_this, .inr (3, [.ref h_items, x_lanes, x_sizes])), (h_items, .inl (cy 5, 8, .inr (.inr (.inr (.inr (rO r_items)))))), (r_items 0, .inl (cy 0, 40, .inl (w_items 0))), (r_items 1, .inl (cy 0, 40, .inl (w_items 1))), (r_items 2, .inl (cy 0, 40, .inl (w_items 2))), (r_items 3, .inl (cy 0, 40, .inl (w_items 3))), (r_items 4, .inl (cy 0, 40, .inl (w_items 4))), (r_items 5, .inl (cy 0, 40, .inl (w_items 5))), (r_items 6, .inl (cy 0, 40, .inl (w_items 6))), (r_items 7, .inl (cy 0, 40, .inl (w_items 7)))] ∧ post r w_items) := by
  unfold wpX4_carry at hF
  obtain ⟨hv0, hF⟩ := hF
  obtain ⟨hv2, hF⟩ := hF
  obtain ⟨j0, hj0, rfl⟩ := vp_in_of hv0 (by decide)
  rw [show (nI j0).toNatClampNeg = j0 from nI_clamp (by omega)] at hF
  obtain ⟨j2, hj2, rfl⟩ := vp_in_of hv2 (by decide)
  rw [show (nI j2).toNatClampNeg = j2 from nI_clamp (by omega)] at hF
  match j0, hj0 with
  | 0, _ =>
    match j2, hj2 with
    | 0, _ =>
      exact ccX4_carry_r00 l D cy h_this h_items r_items x_lanes x_sizes v_items p1 p3 p4 post hF
    | 1, _ =>
      exact ccX4_carry_r01 l D cy h_this h_items r_items x_lanes x_sizes v_items p1 p3 p4 post hF
    | 2, _ =>
      exact ccX4_carry_r02 l D cy h_this h_items r_items x_lanes x_sizes v_items p1 p3 p4 post hF
    | 3, _ =>
      exact ccX4_carry_r03 l D cy h_this h_items r_items x_lanes x_sizes v_items p1 p3 p4 post hF
    | 4, _ =>
      exact ccX4_carry_r04 l D cy h_this h_items r_items x_lanes x_sizes v_items p1 p3 p4 post hF
    | 5, _ =>
      exact ccX4_carry_r05 l D cy h_this h_items r_items x_lanes x_sizes v_items p1 p3 p4 post hF
    | 6, _ =>
      exact ccX4_carry_r06 l D cy h_this h_items r_items x_lanes x_sizes v_items p1 p3 p4 post hF
    | 7, _ =>
      exact ccX4_carry_r07 l D cy h_this h_items r_items x_lanes x_sizes v_items p1 p3 p4 post hF
  | 1, _ =>
    match j2, hj2 with
    | 0, _ =>
      exact ccX4_carry_r10 l D cy h_this h_items r_items x_lanes x_sizes v_items p1 p3 p4 post hF
    | 1, _ =>
      exact ccX4_carry_r11 l D cy h_this h_items r_items x_lanes x_sizes v_items p1 p3 p4 post hF
    | 2, _ =>
      exact ccX4_carry_r12 l D cy h_this h_items r_items x_lanes x_sizes v_items p1 p3 p4 post hF
    | 3, _ =>
      exact ccX4_carry_r13 l D cy h_this h_items r_items x_lanes x_sizes v_items p1 p3 p4 post hF
    | 4, _ =>
      exact ccX4_carry_r14 l D cy h_this h_items r_items x_lanes x_sizes v_items p1 p3 p4 post hF
    | 5, _ =>
      exact ccX4_carry_r15 l D cy h_this h_items r_items x_lanes x_sizes v_items p1 p3 p4 post hF
    | 6, _ =>
      exact ccX4_carry_r16 l D cy h_this h_items r_items x_lanes x_sizes v_items p1 p3 p4 post hF
    | 7, _ =>
      exact ccX4_carry_r17 l D cy h_this h_items r_items x_lanes x_sizes v_items p1 p3 p4 post hF
  | 2, _ =>
    match j2, hj2 with
    | 0, _ =>
      exact ccX4_carry_r20 l D cy h_this h_items r_items x_lanes x_sizes v_items p1 p3 p4 post hF
    | 1, _ =>
      exact ccX4_carry_r21 l D cy h_this h_items r_items x_lanes x_sizes v_items p1 p3 p4 post hF
    | 2, _ =>
      exact ccX4_carry_r22 l D cy h_this h_items r_items x_lanes x_sizes v_items p1 p3 p4 post hF
    | 3, _ =>
      exact ccX4_carry_r23 l D cy h_this h_items r_items x_lanes x_sizes v_items p1 p3 p4 post hF
    | 4, _ =>
      exact ccX4_carry_r24 l D cy h_this h_items r_items x_lanes x_sizes v_items p1 p3 p4 post hF
    | 5, _ =>
      exact ccX4_carry_r25 l D cy h_this h_items r_items x_lanes x_sizes v_items p1 p3 p4 post hF
    | 6, _ =>
      exact ccX4_carry_r26 l D cy h_this h_items r_items x_lanes x_sizes v_items p1 p3 p4 post hF
    | 7, _ =>
      exact ccX4_carry_r27 l D cy h_this h_items r_items x_lanes x_sizes v_items p1 p3 p4 post hF
  | 3, _ =>
    match j2, hj2 with
    | 0, _ =>
      exact ccX4_carry_r30 l D cy h_this h_items r_items x_lanes x_sizes v_items p1 p3 p4 post hF
    | 1, _ =>
      exact ccX4_carry_r31 l D cy h_this h_items r_items x_lanes x_sizes v_items p1 p3 p4 post hF
    | 2, _ =>
      exact ccX4_carry_r32 l D cy h_this h_items r_items x_lanes x_sizes v_items p1 p3 p4 post hF
    | 3, _ =>
      exact ccX4_carry_r33 l D cy h_this h_items r_items x_lanes x_sizes v_items p1 p3 p4 post hF
    | 4, _ =>
      exact ccX4_carry_r34 l D cy h_this h_items r_items x_lanes x_sizes v_items p1 p3 p4 post hF
    | 5, _ =>
      exact ccX4_carry_r35 l D cy h_this h_items r_items x_lanes x_sizes v_items p1 p3 p4 post hF
    | 6, _ =>
      exact ccX4_carry_r36 l D cy h_this h_items r_items x_lanes x_sizes v_items p1 p3 p4 post hF
    | 7, _ =>
      exact ccX4_carry_r37 l D cy h_this h_items r_items x_lanes x_sizes v_items p1 p3 p4 post hF
  | 4, _ =>
    match j2, hj2 with
    | 0, _ =>
      exact ccX4_carry_r40 l D cy h_this h_items r_items x_lanes x_sizes v_items p1 p3 p4 post hF
    | 1, _ =>
      exact ccX4_carry_r41 l D cy h_this h_items r_items x_lanes x_sizes v_items p1 p3 p4 post hF
    | 2, _ =>
      exact ccX4_carry_r42 l D cy h_this h_items r_items x_lanes x_sizes v_items p1 p3 p4 post hF
    | 3, _ =>
      exact ccX4_carry_r43 l D cy h_this h_items r_items x_lanes x_sizes v_items p1 p3 p4 post hF
    | 4, _ =>
      exact ccX4_carry_r44 l D cy h_this h_items r_items x_lanes x_sizes v_items p1 p3 p4 post hF
    | 5, _ =>
      exact ccX4_carry_r45 l D cy h_this h_items r_items x_lanes x_sizes v_items p1 p3 p4 post hF
    | 6, _ =>
      exact ccX4_carry_r46 l D cy h_this h_items r_items x_lanes x_sizes v_items p1 p3 p4 post hF
    | 7, _ =>
      exact ccX4_carry_r47 l D cy h_this h_items r_items x_lanes x_sizes v_items p1 p3 p4 post hF
  | 5, _ =>
    match j2, hj2 with
    | 0, _ =>
      exact ccX4_carry_r50 l D cy h_this h_items r_items x_lanes x_sizes v_items p1 p3 p4 post hF
    | 1, _ =>
      exact ccX4_carry_r51 l D cy h_this h_items r_items x_lanes x_sizes v_items p1 p3 p4 post hF
    | 2, _ =>
      exact ccX4_carry_r52 l D cy h_this h_items r_items x_lanes x_sizes v_items p1 p3 p4 post hF
    | 3, _ =>
      exact ccX4_carry_r53 l D cy h_this h_items r_items x_lanes x_sizes v_items p1 p3 p4 post hF
    | 4, _ =>
      exact ccX4_carry_r54 l D cy h_this h_items r_items x_lanes x_sizes v_items p1 p3 p4 post hF
    | 5, _ =>
      exact ccX4_carry_r55 l D cy h_this h_items r_items x_lanes x_sizes v_items p1 p3 p4 post hF
    | 6, _ =>
      exact ccX4_carry_r56 l D cy h_this h_items r_items x_lanes x_sizes v_items p1 p3 p4 post hF
    | 7, _ =>
      exact ccX4_carry_r57 l D cy h_this h_items r_items x_lanes x_sizes v_items p1 p3 p4 post hF
  | 6, _ =>
    match j2, hj2 with
    | 0, _ =>
      exact ccX4_carry_r60 l D cy h_this h_items r_items x_lanes x_sizes v_items p1 p3 p4 post hF
    | 1, _ =>
      exact ccX4_carry_r61 l D cy h_this h_items r_items x_lanes x_sizes v_items p1 p3 p4 post hF
    | 2, _ =>
      exact ccX4_carry_r62 l D cy h_this h_items r_items x_lanes x_sizes v_items p1 p3 p4 post hF
    | 3, _ =>
      exact ccX4_carry_r63 l D cy h_this h_items r_items x_lanes x_sizes v_items p1 p3 p4 post hF
    | 4, _ =>
      exact ccX4_carry_r64 l D cy h_this h_items r_items x_lanes x_sizes v_items p1 p3 p4 post hF
    | 5, _ =>
      exact ccX4_carry_r65 l D cy h_this h_items r_items x_lanes x_sizes v_items p1 p3 p4 post hF
    | 6, _ =>
      exact ccX4_carry_r66 l D cy h_this h_items r_items x_lanes x_sizes v_items p1 p3 p4 post hF
    | 7, _ =>
      exact ccX4_carry_r67 l D cy h_this h_items r_items x_lanes x_sizes v_items p1 p3 p4 post hF
  | 7, _ =>
    match j2, hj2 with
    | 0, _ =>
      exact ccX4_carry_r70 l D cy h_this h_items r_items x_lanes x_sizes v_items p1 p3 p4 post hF
    | 1, _ =>
      exact ccX4_carry_r71 l D cy h_this h_items r_items x_lanes x_sizes v_items p1 p3 p4 post hF
    | 2, _ =>
      exact ccX4_carry_r72 l D cy h_this h_items r_items x_lanes x_sizes v_items p1 p3 p4 post hF
    | 3, _ =>
      exact ccX4_carry_r73 l D cy h_this h_items r_items x_lanes x_sizes v_items p1 p3 p4 post hF
    | 4, _ =>
      exact ccX4_carry_r74 l D cy h_this h_items r_items x_lanes x_sizes v_items p1 p3 p4 post hF
    | 5, _ =>
      exact ccX4_carry_r75 l D cy h_this h_items r_items x_lanes x_sizes v_items p1 p3 p4 post hF
    | 6, _ =>
      exact ccX4_carry_r76 l D cy h_this h_items r_items x_lanes x_sizes v_items p1 p3 p4 post hF
    | 7, _ =>
      exact ccX4_carry_r77 l D cy h_this h_items r_items x_lanes x_sizes v_items p1 p3 p4 post hF
