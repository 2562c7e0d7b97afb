def wpX4_itemAt_r0 (p1 : Int32) (v_items : Nat → Nat → Int32) (post : Int32 → Prop) : Prop := vp_in p1 40 ∧ (post ((v_items 0) ((p1).toNatClampNeg)))
abbrev miX4_itemAt : MI := (yX4_itemAt, cX4_itemAt, 3, (some .int))
theorem mfX4_itemAt : MF miX4_itemAt 2 := ⟨t3_81, t1_2, by decide +kernel⟩
abbrev rmX4_itemAt_r0 : Room := { frames := 0, cells := 0, slots := 0, locals := 0 }
set_option maxHeartbeats 4000000 in
set_option maxRecDepth 100000 in
theorem ccX4_itemAt_r0 (l : Launch) (D : va_G) (cy : Nat → ClassId) (h_this : Nat) (h_items : Nat) (r_items : Nat → Nat) (x_lanes : Value) (x_sizes : Value) (v_items : Nat → Nat → Int32) (p1 : Int32) (post : Int32 → Prop) (hF : wpX4_itemAt_r0 p1 v_items post) : Cr l D cy miX4_itemAt rmX4_itemAt_r0 emI NP [.ref h_this, .int 0, .int p1] [(h_this, .inr (3, [.ref h_items, x_lanes, x_sizes])), (h_items, .inl (cy 5, 8, .inr (.inr (.inr (.inr (rO r_items)))))), (r_items 0, .inl (cy 0, 40, .inl (v_items 0))), (r_items 1, .inl (cy 0, 40, .inl (v_items 1))), (r_items 2, .inl (cy 0, 40, .inl (v_items 2))), (r_items 3, .inl (cy 0, 40, .inl (v_items 3))), (r_items 4, .inl (cy 0, 40, .inl (v_items 4))), (r_items 5, .inl (cy 0, 40, .inl (v_items 5))), (r_items 6, .inl (cy 0, 40, .inl (v_items 6))), (r_items 7, .inl (cy 0, 40, .inl (v_items 7)))] post := by
  refine Cr.of (by decide) (Nat.le_of_ble_eq_true rfl) ?_
  intro p e s m args below meth c ls Q C hQ hO hP hl
  obtain ⟨hx, hb, hr, hml, hown, hts, hK, hlk, hnm⟩ := id C
  have hb : c.code = cX4_itemAt := hb
  have hml : c.maxLocals = 3 := hml
  have hown : s.vm.findClass RX4 = some m.cls := hown
  have hl : lv_has ls 3 [(0, .ref h_this), (1, .int 0), (2, .int p1)] := hl
  unfold wpX4_itemAt_r0 at hF
  refine lv_aload_n hx hb dX4_itemAt_0 rfl (lv_at hl 0 rfl) ?_
  refine va_get (D := D) (ci := 3) (v := .ref h_items) (C := RX4) (T := TX4) (N := 3) hx hb hts inTX4 hown hK.1 hP 0 rfl rfl 0 (by decide) (hts _ t1_37) (fun _ h9 => h9) rfl dX4_itemAt_1 ?_
  refine lv_iload_n hx hb dX4_itemAt_4 rfl (lv_at hl 1 rfl) ?_
  refine s_aldg (j := 0) (y := r_items 0) hx hb hK.1 hP 1 5 rfl rfl (vi (by decide)) (by decide) rfl dX4_itemAt_5 ?_
  refine lv_iload_n hx hb dX4_itemAt_6 rfl (lv_at hl 2 rfl) ?_
  obtain ⟨hi1, hF⟩ := hF
  refine s_iald (j := (p1).toNatClampNeg) hx hb hK.1 hP 2 0 rfl rfl hi1 rfl dX4_itemAt_7 ?_
  exact rr_i C hQ rfl hF dX4_itemAt_8

def wpX4_lay_r0 (p1 : Int32) (p2 : Int32) (v_items : Nat → Nat → Int32) (v_lanes : Nat → Int32) (v_sizes : Nat → Int32) (post : Unit → (Nat → Nat → Int32) → (Nat → Int32) → (Nat → Int32) → Prop) : Prop := wp_fillI 40 0 (v_items 0) (fun _ u2_items_i0 => post () (va_up v_items 0 u2_items_i0) (upd v_lanes 0 p1) (upd v_sizes 0 p2))
abbrev miX4_lay : MI := (yX4_lay, cX4_lay, 4, none)
theorem mfX4_lay : MF miX4_lay 3 := ⟨t1_230, t1_2, by decide +kernel⟩
abbrev rmX4_lay_r0 : Room := { frames := 1, cells := 0, slots := 0, locals := 23 }
set_option maxHeartbeats 4000000 in
set_option maxRecDepth 100000 in
theorem ccX4_lay_r0 (l : Launch) (D : va_G) (cy : Nat → ClassId) (h_this : Nat) (h_items : Nat) (h_lanes : Nat) (h_sizes : Nat) (r_items : Nat → Nat) (v_items : Nat → Nat → Int32) (v_lanes : Nat → Int32) (v_sizes : Nat → Int32) (p1 : Int32) (p2 : Int32) (post : Unit → (Nat → Nat → Int32) → (Nat → Int32) → (Nat → Int32) → Prop) (hF : wpX4_lay_r0 p1 p2 v_items v_lanes v_sizes post) : Ct l D cy miX4_lay rmX4_lay_r0 emV NP [.ref h_this, .int 0, .int p1, .int p2] [(h_this, .inr (3, [.ref h_items, .ref h_lanes, .ref h_sizes])), (h_items, .inl (cy 5, 8, .inr (.inr (.inr (.inr (rO r_items)))))), (h_lanes, .inl (cy 0, 8, .inl v_lanes)), (h_sizes, .inl (cy 0, 8, .inl v_sizes)), (r_items 0, .inl (cy 0, 40, .inl (v_items 0))), (r_items 1, .inl (cy 0, 40, .inl (v_items 1))), (r_items 2, .inl (cy 0, 40, .inl (v_items 2))), (r_items 3, .inl (cy 0, 40, .inl (v_items 3))), (r_items 4, .inl (cy 0, 40, .inl (v_items 4))), (r_items 5, .inl (cy 0, 40, .inl (v_items 5))), (r_items 6, .inl (cy 0, 40, .inl (v_items 6))), (r_items 7, .inl (cy 0, 40, .inl (v_items 7)))] (fun r w1 => ∃ (w_items : Nat → Nat → Int32) (w_lanes : Nat → Int32) (w_sizes : Nat → Int32), w1 = [(h_this, .inr (3, [.ref h_items, .ref h_lanes, .ref h_sizes])), (h_items, .inl (cy 5, 8, .inr (.inr (.inr (.inr (rO r_items)))))), (h_lanes, .inl (cy 0, 8, .inl w_lanes)), (h_sizes, .inl (cy 0, 8, .inl w_sizes)), (r_items 0, .inl (cy 0, 40, .inl (w_items 0))), (r_items 1, .inl (cy 0, 40, .inl (w_items 1))), (r_items 2, .inl (cy 0, 40, .inl (w_items 2))), (r_items 3, .inl (cy 0, 40, .inl (w_items 3))), (r_items 4, .inl (cy 0, 40, .inl (w_items 4))), (r_items 5, .inl (cy 0, 40, .inl (w_items 5))), (r_items 6, .inl (cy 0, 40, .inl (w_items 6))), (r_items 7, .inl (cy 0, 40, .inl (w_items 7)))] ∧ post r w_items w_lanes w_sizes) := by
  refine Ct.of (by decide) (Nat.le_of_ble_eq_true rfl) ?_
  intro p e s m args below meth c A ls Q C hQ hA hI hP hD hS hl
  obtain ⟨hx, hb, hr, hml, hown, hts, hK, hlk, hnm⟩ := id C
  have hb : c.code = cX4_lay := hb
  have hml : c.maxLocals = 4 := hml
  have hown : s.vm.findClass RX4 = some m.cls := hown
  have hl : lv_has ls 4 [(0, .ref h_this), (1, .int 0), (2, .int p1), (3, .int p2)] := hl
  unfold wpX4_lay_r0 at hF
  refine lv_aload_n hx hb dX4_lay_0 rfl (lv_at hl 0 rfl) ?_
  refine va_get (D := D) (ci := 3) (v := .ref h_items) (C := RX4) (T := TX4) (N := 3) hx hb hts inTX4 hown hK.1 hP 0 rfl rfl 0 (by decide) (hts _ t1_37) (fun _ h9 => h9) rfl dX4_lay_1 ?_
  refine lv_iload_n hx hb dX4_lay_4 rfl (lv_at hl 1 rfl) ?_
  refine s_aldg (j := 0) (y := r_items 0) hx hb hK.1 hP 1 5 rfl rfl (vi (by decide)) (by decide) rfl dX4_lay_5 ?_
  refine lv_iconst (v := 0) hx hb dX4_lay_6 (by decide) ?_
  refine cS_t (As := [.ref (r_items 0), .int 0]) (wr := [(h_this, .inr (3, [.ref h_items, .ref h_lanes, .ref h_sizes])), (h_items, .inl (cy 5, 8, .inr (.inr (.inr (.inr (rO r_items)))))), (h_lanes, .inl (cy 0, 8, .inl v_lanes)), (h_sizes, .inl (cy 0, 8, .inl v_sizes)), (r_items 1, .inl (cy 0, 40, .inl (v_items 1))), (r_items 2, .inl (cy 0, 40, .inl (v_items 2))), (r_items 3, .inl (cy 0, 40, .inl (v_items 3))), (r_items 4, .inl (cy 0, 40, .inl (v_items 4))), (r_items 5, .inl (cy 0, 40, .inl (v_items 5))), (r_items 6, .inl (cy 0, 40, .inl (v_items 6))), (r_items 7, .inl (cy 0, 40, .inl (v_items 7)))]) C hA hP hD hS mfJ7_fill_53178 t1_35 t1_34 (c_fillI l D cy 40 (by decide) (r_items 0) (v_items 0) 0 _ hF) [4] [0, 1, 2, 3, 5, 6, 7, 8, 9, 10, 11] rfl rfl (by decide) (by decide) (by decide) PO.np rfl hl.1 rfl (Nat.le_of_ble_eq_true rfl) dX4_lay_7 ⟨Nat.le_of_ble_eq_true rfl, Nat.le_of_ble_eq_true rfl⟩ ⟨Nat.le_of_ble_eq_true rfl, Nat.le_of_ble_eq_true rfl⟩ ?_
  rintro ⟨⟩ w1 H locs ⟨u2_items_i0, rfl, hF⟩ hP hD hS
  have hP : va_P D CL [(h_this, .inr (3, [.ref h_items, .ref h_lanes, .ref h_sizes])), (h_items, .inl (cy 5, 8, .inr (.inr (.inr (.inr (rO r_items)))))), (h_lanes, .inl (cy 0, 8, .inl v_lanes)), (h_sizes, .inl (cy 0, 8, .inl v_sizes)), (r_items 1, .inl (cy 0, 40, .inl ((va_up v_items 0 u2_items_i0) 1))), (r_items 2, .inl (cy 0, 40, .inl ((va_up v_items 0 u2_items_i0) 2))), (r_items 3, .inl (cy 0, 40, .inl ((va_up v_items 0 u2_items_i0) 3))), (r_items 4, .inl (cy 0, 40, .inl ((va_up v_items 0 u2_items_i0) 4))), (r_items 5, .inl (cy 0, 40, .inl ((va_up v_items 0 u2_items_i0) 5))), (r_items 6, .inl (cy 0, 40, .inl ((va_up v_items 0 u2_items_i0) 6))), (r_items 7, .inl (cy 0, 40, .inl ((va_up v_items 0 u2_items_i0) 7))), (r_items 0, .inl (cy 0, 40, .inl ((va_up v_items 0 u2_items_i0) 0)))] H := hP
  have hD : va_D A [(h_this, .inr (3, [.ref h_items, .ref h_lanes, .ref h_sizes])), (h_items, .inl (cy 5, 8, .inr (.inr (.inr (.inr (rO r_items)))))), (h_lanes, .inl (cy 0, 8, .inl v_lanes)), (h_sizes, .inl (cy 0, 8, .inl v_sizes)), (r_items 1, .inl (cy 0, 40, .inl ((va_up v_items 0 u2_items_i0) 1))), (r_items 2, .inl (cy 0, 40, .inl ((va_up v_items 0 u2_items_i0) 2))), (r_items 3, .inl (cy 0, 40, .inl ((va_up v_items 0 u2_items_i0) 3))), (r_items 4, .inl (cy 0, 40, .inl ((va_up v_items 0 u2_items_i0) 4))), (r_items 5, .inl (cy 0, 40, .inl ((va_up v_items 0 u2_items_i0) 5))), (r_items 6, .inl (cy 0, 40, .inl ((va_up v_items 0 u2_items_i0) 6))), (r_items 7, .inl (cy 0, 40, .inl ((va_up v_items 0 u2_items_i0) 7))), (r_items 0, .inl (cy 0, 40, .inl ((va_up v_items 0 u2_items_i0) 0)))] := hD
  refine W.eq (g2 := F0 m 10 ls []) rfl ?_
  refine lv_aload_n hx hb dX4_lay_10 rfl (lv_at hl 0 rfl) ?_
  refine va_get (D := D) (ci := 3) (v := .ref h_lanes) (C := RX4) (T := TX4) (N := 3) hx hb hts inTX4 hown hK.1 hP 0 rfl rfl 1 (by decide) (hts _ t1_38) (fun _ h9 => h9) rfl dX4_lay_11 ?_
  refine lv_iload_n hx hb dX4_lay_14 rfl (lv_at hl 1 rfl) ?_
  refine lv_iload_n hx hb dX4_lay_15 rfl (lv_at hl 2 rfl) ?_
  refine s_iast (j := 0) hx hb hK.1 hP hD hS 2 0 rfl rfl (vi (by decide)) (by decide) dX4_lay_16 (fun H locs hP hD hS => ?_)
  have hP : va_P D CL [(h_this, .inr (3, [.ref h_items, .ref h_lanes, .ref h_sizes])), (h_items, .inl (cy 5, 8, .inr (.inr (.inr (.inr (rO r_items)))))), (h_lanes, .inl (cy 0, 8, .inl (upd v_lanes 0 p1))), (h_sizes, .inl (cy 0, 8, .inl v_sizes)), (r_items 1, .inl (cy 0, 40, .inl ((va_up v_items 0 u2_items_i0) 1))), (r_items 2, .inl (cy 0, 40, .inl ((va_up v_items 0 u2_items_i0) 2))), (r_items 3, .inl (cy 0, 40, .inl ((va_up v_items 0 u2_items_i0) 3))), (r_items 4, .inl (cy 0, 40, .inl ((va_up v_items 0 u2_items_i0) 4))), (r_items 5, .inl (cy 0, 40, .inl ((va_up v_items 0 u2_items_i0) 5))), (r_items 6, .inl (cy 0, 40, .inl ((va_up v_items 0 u2_items_i0) 6))), (r_items 7, .inl (cy 0, 40, .inl ((va_up v_items 0 u2_items_i0) 7))), (r_items 0, .inl (cy 0, 40, .inl ((va_up v_items 0 u2_items_i0) 0)))] H := hP
  have hD : va_D A [(h_this, .inr (3, [.ref h_items, .ref h_lanes, .ref h_sizes])), (h_items, .inl (cy 5, 8, .inr (.inr (.inr (.inr (rO r_items)))))), (h_lanes, .inl (cy 0, 8, .inl (upd v_lanes 0 p1))), (h_sizes, .inl (cy 0, 8, .inl v_sizes)), (r_items 1, .inl (cy 0, 40, .inl ((va_up v_items 0 u2_items_i0) 1))), (r_items 2, .inl (cy 0, 40, .inl ((va_up v_items 0 u2_items_i0) 2))), (r_items 3, .inl (cy 0, 40, .inl ((va_up v_items 0 u2_items_i0) 3))), (r_items 4, .inl (cy 0, 40, .inl ((va_up v_items 0 u2_items_i0) 4))), (r_items 5, .inl (cy 0, 40, .inl ((va_up v_items 0 u2_items_i0) 5))), (r_items 6, .inl (cy 0, 40, .inl ((va_up v_items 0 u2_items_i0) 6))), (r_items 7, .inl (cy 0, 40, .inl ((va_up v_items 0 u2_items_i0) 7))), (r_items 0, .inl (cy 0, 40, .inl ((va_up v_items 0 u2_items_i0) 0)))] := hD
  refine lv_aload_n hx hb dX4_lay_17 rfl (lv_at hl 0 rfl) ?_
  refine va_get (D := D) (ci := 3) (v := .ref h_sizes) (C := RX4) (T := TX4) (N := 3) hx hb hts inTX4 hown hK.1 hP 0 rfl rfl 2 (by decide) (hts _ t1_39) (fun _ h9 => h9) rfl dX4_lay_18 ?_
  refine lv_iload_n hx hb dX4_lay_21 rfl (lv_at hl 1 rfl) ?_
  refine lv_iload_n hx hb dX4_lay_22 rfl (lv_at hl 3 rfl) ?_
  refine s_iast (j := 0) hx hb hK.1 hP hD hS 3 0 rfl rfl (vi (by decide)) (by decide) dX4_lay_23 (fun H locs hP hD hS => ?_)
  have hP : va_P D CL [(h_this, .inr (3, [.ref h_items, .ref h_lanes, .ref h_sizes])), (h_items, .inl (cy 5, 8, .inr (.inr (.inr (.inr (rO r_items)))))), (h_lanes, .inl (cy 0, 8, .inl (upd v_lanes 0 p1))), (h_sizes, .inl (cy 0, 8, .inl (upd v_sizes 0 p2))), (r_items 1, .inl (cy 0, 40, .inl ((va_up v_items 0 u2_items_i0) 1))), (r_items 2, .inl (cy 0, 40, .inl ((va_up v_items 0 u2_items_i0) 2))), (r_items 3, .inl (cy 0, 40, .inl ((va_up v_items 0 u2_items_i0) 3))), (r_items 4, .inl (cy 0, 40, .inl ((va_up v_items 0 u2_items_i0) 4))), (r_items 5, .inl (cy 0, 40, .inl ((va_up v_items 0 u2_items_i0) 5))), (r_items 6, .inl (cy 0, 40, .inl ((va_up v_items 0 u2_items_i0) 6))), (r_items 7, .inl (cy 0, 40, .inl ((va_up v_items 0 u2_items_i0) 7))), (r_items 0, .inl (cy 0, 40, .inl ((va_up v_items 0 u2_items_i0) 0)))] H := hP
  have hD : va_D A [(h_this, .inr (3, [.ref h_items, .ref h_lanes, .ref h_sizes])), (h_items, .inl (cy 5, 8, .inr (.inr (.inr (.inr (rO r_items)))))), (h_lanes, .inl (cy 0, 8, .inl (upd v_lanes 0 p1))), (h_sizes, .inl (cy 0, 8, .inl (upd v_sizes 0 p2))), (r_items 1, .inl (cy 0, 40, .inl ((va_up v_items 0 u2_items_i0) 1))), (r_items 2, .inl (cy 0, 40, .inl ((va_up v_items 0 u2_items_i0) 2))), (r_items 3, .inl (cy 0, 40, .inl ((va_up v_items 0 u2_items_i0) 3))), (r_items 4, .inl (cy 0, 40, .inl ((va_up v_items 0 u2_items_i0) 4))), (r_items 5, .inl (cy 0, 40, .inl ((va_up v_items 0 u2_items_i0) 5))), (r_items 6, .inl (cy 0, 40, .inl ((va_up v_items 0 u2_items_i0) 6))), (r_items 7, .inl (cy 0, 40, .inl ((va_up v_items 0 u2_items_i0) 7))), (r_items 0, .inl (cy 0, 40, .inl ((va_up v_items 0 u2_items_i0) 0)))] := hD
  have hP : va_P D CL [(h_this, .inr (3, [.ref h_items, .ref h_lanes, .ref h_sizes])), (h_items, .inl (cy 5, 8, .inr (.inr (.inr (.inr (rO r_items)))))), (h_lanes, .inl (cy 0, 8, .inl (upd v_lanes 0 p1))), (h_sizes, .inl (cy 0, 8, .inl (upd v_sizes 0 p2))), (r_items 0, .inl (cy 0, 40, .inl ((va_up v_items 0 u2_items_i0) 0))), (r_items 1, .inl (cy 0, 40, .inl ((va_up v_items 0 u2_items_i0) 1))), (r_items 2, .inl (cy 0, 40, .inl ((va_up v_items 0 u2_items_i0) 2))), (r_items 3, .inl (cy 0, 40, .inl ((va_up v_items 0 u2_items_i0) 3))), (r_items 4, .inl (cy 0, 40, .inl ((va_up v_items 0 u2_items_i0) 4))), (r_items 5, .inl (cy 0, 40, .inl ((va_up v_items 0 u2_items_i0) 5))), (r_items 6, .inl (cy 0, 40, .inl ((va_up v_items 0 u2_items_i0) 6))), (r_items 7, .inl (cy 0, 40, .inl ((va_up v_items 0 u2_items_i0) 7)))] H := (hP.sub [0, 1, 2, 3, 11, 4, 5, 6, 7, 8, 9, 10] rfl)
  have hD : va_D A [(h_this, .inr (3, [.ref h_items, .ref h_lanes, .ref h_sizes])), (h_items, .inl (cy 5, 8, .inr (.inr (.inr (.inr (rO r_items)))))), (h_lanes, .inl (cy 0, 8, .inl (upd v_lanes 0 p1))), (h_sizes, .inl (cy 0, 8, .inl (upd v_sizes 0 p2))), (r_items 0, .inl (cy 0, 40, .inl ((va_up v_items 0 u2_items_i0) 0))), (r_items 1, .inl (cy 0, 40, .inl ((va_up v_items 0 u2_items_i0) 1))), (r_items 2, .inl (cy 0, 40, .inl ((va_up v_items 0 u2_items_i0) 2))), (r_items 3, .inl (cy 0, 40, .inl ((va_up v_items 0 u2_items_i0) 3))), (r_items 4, .inl (cy 0, 40, .inl ((va_up v_items 0 u2_items_i0) 4))), (r_items 5, .inl (cy 0, 40, .inl ((va_up v_items 0 u2_items_i0) 5))), (r_items 6, .inl (cy 0, 40, .inl ((va_up v_items 0 u2_items_i0) 6))), (r_items 7, .inl (cy 0, 40, .inl ((va_up v_items 0 u2_items_i0) 7)))] := (hD.sub [0, 1, 2, 3, 11, 4, 5, 6, 7, 8, 9, 10] (by decide) rfl)
  exact rt_v C hQ rfl hP hD hS ⟨(va_up v_items 0 u2_items_i0), (upd v_lanes 0 p1), (upd v_sizes 0 p2), rfl, hF⟩ dX4_lay_24

def wjX4_put_r0_33 (v_lanes : Nat → Int32) (post : Int32 → (Nat → Nat → Int32) → Prop) (l2 : Int32) (l4 : Int32) (w_items : Nat → Nat → Int32) : Prop := vp_in l2 40 ∧ (post l4 (va_up w_items 0 (upd (w_items 0) ((l2).toNatClampNeg) l4)))
def wpX4_put_r0 (p1 : Int32) (p2 : Int32) (v_lanes : Nat → Int32) (v_items : Nat → Nat → Int32) (post : Int32 → (Nat → Nat → Int32) → Prop) : Prop := (¬ (v_lanes 0) = 0 → ((¬ (v_lanes 0) = 1 → (wjX4_put_r0_33 v_lanes post p1 p2 v_items)) ∧ ((v_lanes 0) = 1 → (wjX4_put_r0_33 v_lanes post p1 ((p2).toInt16.toInt32) v_items)))) ∧ ((v_lanes 0) = 0 → (wjX4_put_r0_33 v_lanes post p1 ((p2).toInt8.toInt32) v_items))
abbrev miX4_put : MI := (yX4_put, cX4_put, 5, (some .int))
theorem mfX4_put : MF miX4_put 3 := ⟨t2_10, t1_2, by decide +kernel⟩
abbrev rmX4_put_r0 : Room := { frames := 0, cells := 0, slots := 0, locals := 0 }
set_option maxHeartbeats 4000000 in
set_option maxRecDepth 100000 in
theorem ccX4_put_r0 (l : Launch) (D : va_G) (cy : Nat → ClassId) (h_this : Nat) (h_lanes : Nat) (h_items : Nat) (r_items : Nat → Nat) (x_sizes : Value) (v_lanes : Nat → Int32) (v_items : Nat → Nat → Int32) (p1 : Int32) (p2 : Int32) (post : Int32 → (Nat → Nat → Int32) → Prop) (hF : wpX4_put_r0 p1 p2 v_lanes v_items post) : Ct l D cy miX4_put rmX4_put_r0 emI NP [.ref h_this, .int 0, .int p1, .int p2] [(h_this, .inr (3, [.ref h_items, .ref h_lanes, x_sizes])), (h_lanes, .inl (cy 0, 8, .inl v_lanes)), (h_items, .inl (cy 5, 8, .inr (.inr (.inr (.inr (rO r_items)))))), (r_items 0, .inl (cy 0, 40, .inl (v_items 0))), (r_items 1, .inl (cy 0, 40, .inl (v_items 1))), (r_items 2, .inl (cy 0, 40, .inl (v_items 2))), (r_items 3, .inl (cy 0, 40, .inl (v_items 3))), (r_items 4, .inl (cy 0, 40, .inl (v_items 4))), (r_items 5, .inl (cy 0, 40, .inl (v_items 5))), (r_items 6, .inl (cy 0, 40, .inl (v_items 6))), (r_items 7, .inl (cy 0, 40, .inl (v_items 7)))] (fun r w1 => ∃ (w_items : Nat → Nat → Int32), w1 = [(h_this, .inr (3, [.ref h_items, .ref h_lanes, x_sizes])), (h_lanes, .inl (cy 0, 8, .inl v_lanes)), (h_items, .inl (cy 5, 8, .inr (.inr (.inr (.inr (rO r_items)))))), (r_items 0, .inl (cy 0, 40, .inl (w_items 0))), (r_items 1, .inl (cy 0, 40, .inl (w_items 1))), (r_items 2, .inl (cy 0, 40, .inl (w_items 2))), (r_items 3, .inl (cy 0, 40, .inl (w_items 3))), (r_items 4, .inl (cy 0, 40, .inl (w_items 4))), (r_items 5, .inl (cy 0, 40, .inl (w_items 5))), (r_items 6, .inl (cy 0, 40, .inl (w_items 6))), (r_items 7, .inl (cy 0, 40, .inl (w_items 7)))] ∧ post r w_items) := by
  refine Ct.of (by decide) (Nat.le_of_ble_eq_true rfl) ?_
  intro p e s m args below meth c A ls Q C hQ hA hI hP hD hS hl
  obtain ⟨hx, hb, hr, hml, hown, hts, hK, hlk, hnm⟩ := id C
  have hb : c.code = cX4_put := hb
  have hml : c.maxLocals = 5 := hml
  have hown : s.vm.findClass RX4 = some m.cls := hown
  have hl : lv_has ls 5 [(0, .ref h_this), (1, .int 0), (2, .int p1), (3, .int p2)] := hl
  have J_33 : ∀ (l2 : Int32) (l4 : Int32) (w_items : Nat → Nat → Int32) (H : Heap) (locs : List Loc) (ls : Array Slot), va_P D CL [(h_this, .inr (3, [.ref h_items, .ref h_lanes, x_sizes])), (h_lanes, .inl (cy 0, 8, .inl v_lanes)), (h_items, .inl (cy 5, 8, .inr (.inr (.inr (.inr (rO r_items)))))), (r_items 0, .inl (cy 0, 40, .inl (w_items 0))), (r_items 1, .inl (cy 0, 40, .inl (w_items 1))), (r_items 2, .inl (cy 0, 40, .inl (w_items 2))), (r_items 3, .inl (cy 0, 40, .inl (w_items 3))), (r_items 4, .inl (cy 0, 40, .inl (w_items 4))), (r_items 5, .inl (cy 0, 40, .inl (w_items 5))), (r_items 6, .inl (cy 0, 40, .inl (w_items 6))), (r_items 7, .inl (cy 0, 40, .inl (w_items 7)))] H → va_D A [(h_this, .inr (3, [.ref h_items, .ref h_lanes, x_sizes])), (h_lanes, .inl (cy 0, 8, .inl v_lanes)), (h_items, .inl (cy 5, 8, .inr (.inr (.inr (.inr (rO r_items)))))), (r_items 0, .inl (cy 0, 40, .inl (w_items 0))), (r_items 1, .inl (cy 0, 40, .inl (w_items 1))), (r_items 2, .inl (cy 0, 40, .inl (w_items 2))), (r_items 3, .inl (cy 0, 40, .inl (w_items 3))), (r_items 4, .inl (cy 0, 40, .inl (w_items 4))), (r_items 5, .inl (cy 0, 40, .inl (w_items 5))), (r_items 6, .inl (cy 0, 40, .inl (w_items 6))), (r_items 7, .inl (cy 0, 40, .inl (w_items 7)))] → va_S A s.heap H locs → lv_has ls 5 [(0, .ref h_this), (1, .int 0), (2, .int l2), (4, .int l4)] → wjX4_put_r0_33 v_lanes post l2 l4 w_items → W p l e rmX4_put_r0 s m args below meth c H locs 0 0 Q (F0 m 33 ls []) := by
    intro l2 l4 w_items H locs ls  hP hD hS hl hF
    unfold wjX4_put_r0_33 at hF
    refine lv_aload_n hx hb dX4_put_33 rfl (lv_at hl 0 rfl) ?_
    refine va_get (D := D) (ci := 3) (v := .ref h_items) (C := RX4) (T := TX4) (N := 3) hx hb hts inTX4 hown hK.1 hP 0 rfl rfl 0 (by decide) (hts _ t1_37) (fun _ h9 => h9) rfl dX4_put_34 ?_
    refine lv_iload_n hx hb dX4_put_37 rfl (lv_at hl 1 rfl) ?_
    refine s_aldg (j := 0) (y := r_items 0) hx hb hK.1 hP 2 5 rfl rfl (vi (by decide)) (by decide) rfl dX4_put_38 ?_
    refine lv_iload_n hx hb dX4_put_39 rfl (lv_at hl 2 rfl) ?_
    refine lv_iload hx hb dX4_put_40 (lv_at hl 3 rfl) ?_
    obtain ⟨hi1, hF⟩ := hF
    refine s_iast (j := (l2).toNatClampNeg) hx hb hK.1 hP hD hS 3 0 rfl rfl hi1 rfl dX4_put_42 (fun H locs hP hD hS => ?_)
    have hP : va_P D CL [(h_this, .inr (3, [.ref h_items, .ref h_lanes, x_sizes])), (h_lanes, .inl (cy 0, 8, .inl v_lanes)), (h_items, .inl (cy 5, 8, .inr (.inr (.inr (.inr (rO r_items)))))), (r_items 0, .inl (cy 0, 40, .inl ((va_up w_items 0 (upd (w_items 0) ((l2).toNatClampNeg) l4)) 0))), (r_items 1, .inl (cy 0, 40, .inl ((va_up w_items 0 (upd (w_items 0) ((l2).toNatClampNeg) l4)) 1))), (r_items 2, .inl (cy 0, 40, .inl ((va_up w_items 0 (upd (w_items 0) ((l2).toNatClampNeg) l4)) 2))), (r_items 3, .inl (cy 0, 40, .inl ((va_up w_items 0 (upd (w_items 0) ((l2).toNatClampNeg) l4)) 3))), (r_items 4, .inl (cy 0, 40, .inl ((va_up w_items 0 (upd (w_items 0) ((l2).toNatClampNeg) l4)) 4))), (r_items 5, .inl (cy 0, 40, .inl ((va_up w_items 0 (upd (w_items 0) ((l2).toNatClampNeg) l4)) 5))), (r_items 6, .inl (cy 0, 40, .inl ((va_up w_items 0 (upd (w_items 0) ((l2).toNatClampNeg) l4)) 6))), (r_items 7, .inl (cy 0, 40, .inl ((va_up w_items 0 (upd (w_items 0) ((l2).toNatClampNeg) l4)) 7)))] H := hP
    have hD : va_D A [(h_this, .inr (3, [.ref h_items, .ref h_lanes, x_sizes])), (h_lanes, .inl (cy 0, 8, .inl v_lanes)), (h_items, .inl (cy 5, 8, .inr (.inr (.inr (.inr (rO r_items)))))), (r_items 0, .inl (cy 0, 40, .inl ((va_up w_items 0 (upd (w_items 0) ((l2).toNatClampNeg) l4)) 0))), (r_items 1, .inl (cy 0, 40, .inl ((va_up w_items 0 (upd (w_items 0) ((l2).toNatClampNeg) l4)) 1))), (r_items 2, .inl (cy 0, 40, .inl ((va_up w_items 0 (upd (w_items 0) ((l2).toNatClampNeg) l4)) 2))), (r_items 3, .inl (cy 0, 40, .inl ((va_up w_items 0 (upd (w_items 0) ((l2).toNatClampNeg) l4)) 3))), (r_items 4, .inl (cy 0, 40, .inl ((va_up w_items 0 (upd (w_items 0) ((l2).toNatClampNeg) l4)) 4))), (r_items 5, .inl (cy 0, 40, .inl ((va_up w_items 0 (upd (w_items 0) ((l2).toNatClampNeg) l4)) 5))), (r_items 6, .inl (cy 0, 40, .inl ((va_up w_items 0 (upd (w_items 0) ((l2).toNatClampNeg) l4)) 6))), (r_items 7, .inl (cy 0, 40, .inl ((va_up w_items 0 (upd (w_items 0) ((l2).toNatClampNeg) l4)) 7)))] := hD
    refine lv_iload hx hb dX4_put_43 (lv_at hl 3 rfl) ?_
    exact rt_i C hQ rfl hP hD hS ⟨(va_up w_items 0 (upd (w_items 0) ((l2).toNatClampNeg) l4)), rfl, hF⟩ dX4_put_45
  unfold wpX4_put_r0 at hF
  refine lv_iload_n hx hb dX4_put_0 rfl (lv_at hl 3 rfl) ?_
  refine lv_istore (lv' := [(4, .int p2), (0, .ref h_this), (1, .int 0), (2, .int p1), (3, .int p2)]) hx hb dX4_put_1 hl (by decide) rfl (fun ls hl => ?_)
  refine lv_aload_n hx hb dX4_put_3 rfl (lv_at hl 1 rfl) ?_
  refine va_get (D := D) (ci := 3) (v := .ref h_lanes) (C := RX4) (T := TX4) (N := 3) hx hb hts inTX4 hown hK.1 hP 0 rfl rfl 1 (by decide) (hts _ t1_38) (fun _ h9 => h9) rfl dX4_put_4 ?_
  refine lv_iload_n hx hb dX4_put_7 rfl (lv_at hl 2 rfl) ?_
  refine s_iald (j := 0) hx hb hK.1 hP 1 0 rfl rfl (vi (by decide)) (by decide) dX4_put_8 ?_
  refine lv_if_ne (tgt := 19) hx hb dX4_put_9 (by decide) (fun c_ => ?_) (fun c_ => ?_)
  · have hF := hF.1 c_
    refine lv_aload_n hx hb dX4_put_19 rfl (lv_at hl 1 rfl) ?_
    refine va_get (D := D) (ci := 3) (v := .ref h_lanes) (C := RX4) (T := TX4) (N := 3) hx hb hts inTX4 hown hK.1 hP 0 rfl rfl 1 (by decide) (hts _ t1_38) (fun _ h9 => h9) rfl dX4_put_20 ?_
    refine lv_iload_n hx hb dX4_put_23 rfl (lv_at hl 2 rfl) ?_
    refine s_iald (j := 0) hx hb hK.1 hP 1 0 rfl rfl (vi (by decide)) (by decide) dX4_put_24 ?_
    refine lv_iconst (v := 1) hx hb dX4_put_25 (by decide) ?_
    refine lv_icmp_ne (tgt := 33) hx hb dX4_put_26 (by decide) (fun c_ => ?_) (fun c_ => ?_)
    · have hF := hF.1 c_
      exact J_33 p1 p2 v_items _ _ ls  hP hD hS (lv_sub hl [1, 2, 3, 0] rfl) hF
    · have hF := hF.2 c_
      refine lv_iload_n hx hb dX4_put_29 rfl (lv_at hl 4 rfl) ?_
      refine lv_i2s hx hb dX4_put_30 rfl ?_
      refine lv_istore (lv' := [(4, .int ((p2).toInt16.toInt32)), (0, .ref h_this), (1, .int 0), (2, .int p1), (3, .int p2)]) hx hb dX4_put_31 hl (by decide) rfl (fun ls hl => ?_)
      exact J_33 p1 ((p2).toInt16.toInt32) v_items _ _ ls  hP hD hS (lv_sub hl [1, 2, 3, 0] rfl) hF
  · have hF := hF.2 c_
    refine lv_iload_n hx hb dX4_put_12 rfl (lv_at hl 4 rfl) ?_
    refine lv_i2b hx hb dX4_put_13 rfl ?_
    refine lv_istore (lv' := [(4, .int ((p2).toInt8.toInt32)), (0, .ref h_this), (1, .int 0), (2, .int p1), (3, .int p2)]) hx hb dX4_put_14 hl (by decide) rfl (fun ls hl => ?_)
    refine lv_goto (tgt := 33) hx hb dX4_put_16 (by decide) ?_
    exact J_33 p1 ((p2).toInt8.toInt32) v_items _ _ ls  hP hD hS (lv_sub hl [1, 2, 3, 0] rfl) hF

def wpX4_itemAt_r1 (p1 : Int32) (v_items : Nat → Nat → Int32) (post : Int32 → Prop) : Prop := vp_in p1 40 ∧ (post ((v_items 1) ((p1).toNatClampNeg)))
abbrev rmX4_itemAt_r1 : Room := { frames := 0, cells := 0, slots := 0, locals := 0 }
set_option maxHeartbeats 4000000 in
set_option maxRecDepth 100000 in
theorem ccX4_itemAt_r1 (l : Launch) (D : va_G) (cy : Nat → ClassId) (h_this : Nat) (h_items : Nat) (r_items : Nat → Nat) (x_lanes : Value) (x_sizes : Value) (v_items : Nat → Nat → Int32) (p1 : Int32) (post : Int32 → Prop) (hF : wpX4_itemAt_r1 p1 v_items post) : Cr l D cy miX4_itemAt rmX4_itemAt_r1 emI NP [.ref h_this, .int 1, .int p1] [(h_this, .inr (3, [.ref h_items, x_lanes, x_sizes])), (h_items, .inl (cy 5, 8, .inr (.inr (.inr (.inr (rO r_items)))))), (r_items 0, .inl (cy 0, 40, .inl (v_items 0))), (r_items 1, .inl (cy 0, 40, .inl (v_items 1))), (r_items 2, .inl (cy 0, 40, .inl (v_items 2))), (r_items 3, .inl (cy 0, 40, .inl (v_items 3))), (r_items 4, .inl (cy 0, 40, .inl (v_items 4))), (r_items 5, .inl (cy 0, 40, .inl (v_items 5))), (r_items 6, .inl (cy 0, 40, .inl (v_items 6))), (r_items 7, .inl (cy 0, 40, .inl (v_items 7)))] post := by
  refine Cr.of (by decide) (Nat.le_of_ble_eq_true rfl) ?_
  intro p e s m args below meth c ls Q C hQ hO hP hl
  obtain ⟨hx, hb, hr, hml, hown, hts, hK, hlk, hnm⟩ := id C
  have hb : c.code = cX4_itemAt := hb
  have hml : c.maxLocals = 3 := hml
  have hown : s.vm.findClass RX4 = some m.cls := hown
  have hl : lv_has ls 3 [(0, .ref h_this), (1, .int 1), (2, .int p1)] := hl
  unfold wpX4_itemAt_r1 at hF
  refine lv_aload_n hx hb dX4_itemAt_0 rfl (lv_at hl 0 rfl) ?_
  refine va_get (D := D) (ci := 3) (v := .ref h_items) (C := RX4) (T := TX4) (N := 3) hx hb hts inTX4 hown hK.1 hP 0 rfl rfl 0 (by decide) (hts _ t1_37) (fun _ h9 => h9) rfl dX4_itemAt_1 ?_
  refine lv_iload_n hx hb dX4_itemAt_4 rfl (lv_at hl 1 rfl) ?_
  refine s_aldg (j := 1) (y := r_items 1) hx hb hK.1 hP 1 5 rfl rfl (vi (by decide)) (by decide) rfl dX4_itemAt_5 ?_
  refine lv_iload_n hx hb dX4_itemAt_6 rfl (lv_at hl 2 rfl) ?_
  obtain ⟨hi1, hF⟩ := hF
  refine s_iald (j := (p1).toNatClampNeg) hx hb hK.1 hP 3 0 rfl rfl hi1 rfl dX4_itemAt_7 ?_
  exact rr_i C hQ rfl hF dX4_itemAt_8

def wpX4_lay_r1 (p1 : Int32) (p2 : Int32) (v_items : Nat → Nat → Int32) (v_lanes : Nat → Int32) (v_sizes : Nat → Int32) (post : Unit → (Nat → Nat → Int32) → (Nat → Int32) → (Nat → Int32) → Prop) : Prop := wp_fillI 40 0 (v_items 1) (fun _ u2_items_i1 => post () (va_up v_items 1 u2_items_i1) (upd v_lanes 1 p1) (upd v_sizes 1 p2))
abbrev rmX4_lay_r1 : Room := { frames := 1, cells := 0, slots := 0, locals := 23 }
set_option maxHeartbeats 4000000 in
set_option maxRecDepth 100000 in
theorem ccX4_lay_r1 (l : Launch) (D : va_G) (cy : Nat → ClassId) (h_this : Nat) (h_items : Nat) (h_lanes : Nat) (h_sizes : Nat) (r_items : Nat → Nat) (v_items : Nat → Nat → Int32) (v_lanes : Nat → Int32) (v_sizes : Nat → Int32) (p1 : Int32) (p2 : Int32) (post : Unit → (Nat → Nat → Int32) → (Nat → Int32) → (Nat → Int32) → Prop) (hF : wpX4_lay_r1 p1 p2 v_items v_lanes v_sizes post) : Ct l D cy miX4_lay rmX4_lay_r1 emV NP [.ref h_this, .int 1, .int p1, .int p2] [(h_this, .inr (3, [.ref h_items, .ref h_lanes, .ref h_sizes])), (h_items, .inl (cy 5, 8, .inr (.inr (.inr (.inr (rO r_items)))))), (h_lanes, .inl (cy 0, 8, .inl v_lanes)), (h_sizes, .inl (cy 0, 8, .inl v_sizes)), (r_items 0, .inl (cy 0, 40, .inl (v_items 0))), (r_items 1, .inl (cy 0, 40, .inl (v_items 1))), (r_items 2, .inl (cy 0, 40, .inl (v_items 2))), (r_items 3, .inl (cy 0, 40, .inl (v_items 3))), (r_items 4, .inl (cy 0, 40, .inl (v_items 4))), (r_items 5, .inl (cy 0, 40, .inl (v_items 5))), (r_items 6, .inl (cy 0, 40, .inl (v_items 6))), (r_items 7, .inl (cy 0, 40, .inl (v_items 7)))] (fun r w1 => ∃ (w_items : Nat → Nat → Int32) (w_lanes : Nat → Int32) (w_sizes : Nat → Int32), w1 = [(h_this, .inr (3, [.ref h_items, .ref h_lanes, .ref h_sizes])), (h_items, .inl (cy 5, 8, .inr (.inr (.inr (.inr (rO r_items)))))), (h_lanes, .inl (cy 0, 8, .inl w_lanes)), (h_sizes, .inl (cy 0, 8, .inl w_sizes)), (r_items 0, .inl (cy 0, 40, .inl (w_items 0))), (r_items 1, .inl (cy 0, 40, .inl (w_items 1))), (r_items 2, .inl (cy 0, 40, .inl (w_items 2))), (r_items 3, .inl (cy 0, 40, .inl (w_items 3))), (r_items 4, .inl (cy 0, 40, .inl (w_items 4))), (r_items 5, .inl (cy 0, 40, .inl (w_items 5))), (r_items 6, .inl (cy 0, 40, .inl (w_items 6))), (r_items 7, .inl (cy 0, 40, .inl (w_items 7)))] ∧ post r w_items w_lanes w_sizes) := by
  refine Ct.of (by decide) (Nat.le_of_ble_eq_true rfl) ?_
  intro p e s m args below meth c A ls Q C hQ hA hI hP hD hS hl
  obtain ⟨hx, hb, hr, hml, hown, hts, hK, hlk, hnm⟩ := id C
  have hb : c.code = cX4_lay := hb
  have hml : c.maxLocals = 4 := hml
  have hown : s.vm.findClass RX4 = some m.cls := hown
  have hl : lv_has ls 4 [(0, .ref h_this), (1, .int 1), (2, .int p1), (3, .int p2)] := hl
  unfold wpX4_lay_r1 at hF
  refine lv_aload_n hx hb dX4_lay_0 rfl (lv_at hl 0 rfl) ?_
  refine va_get (D := D) (ci := 3) (v := .ref h_items) (C := RX4) (T := TX4) (N := 3) hx hb hts inTX4 hown hK.1 hP 0 rfl rfl 0 (by decide) (hts _ t1_37) (fun _ h9 => h9) rfl dX4_lay_1 ?_
  refine lv_iload_n hx hb dX4_lay_4 rfl (lv_at hl 1 rfl) ?_
  refine s_aldg (j := 1) (y := r_items 1) hx hb hK.1 hP 1 5 rfl rfl (vi (by decide)) (by decide) rfl dX4_lay_5 ?_
  refine lv_iconst (v := 0) hx hb dX4_lay_6 (by decide) ?_
  refine cS_t (As := [.ref (r_items 1), .int 0]) (wr := [(h_this, .inr (3, [.ref h_items, .ref h_lanes, .ref h_sizes])), (h_items, .inl (cy 5, 8, .inr (.inr (.inr (.inr (rO r_items)))))), (h_lanes, .inl (cy 0, 8, .inl v_lanes)), (h_sizes, .inl (cy 0, 8, .inl v_sizes)), (r_items 0, .inl (cy 0, 40, .inl (v_items 0))), (r_items 2, .inl (cy 0, 40, .inl (v_items 2))), (r_items 3, .inl (cy 0, 40, .inl (v_items 3))), (r_items 4, .inl (cy 0, 40, .inl (v_items 4))), (r_items 5, .inl (cy 0, 40, .inl (v_items 5))), (r_items 6, .inl (cy 0, 40, .inl (v_items 6))), (r_items 7, .inl (cy 0, 40, .inl (v_items 7)))]) C hA hP hD hS mfJ7_fill_53178 t1_35 t1_34 (c_fillI l D cy 40 (by decide) (r_items 1) (v_items 1) 0 _ hF) [5] [0, 1, 2, 3, 4, 6, 7, 8, 9, 10, 11] rfl rfl (by decide) (by decide) (by decide) PO.np rfl hl.1 rfl (Nat.le_of_ble_eq_true rfl) dX4_lay_7 ⟨Nat.le_of_ble_eq_true rfl, Nat.le_of_ble_eq_true rfl⟩ ⟨Nat.le_of_ble_eq_true rfl, Nat.le_of_ble_eq_true rfl⟩ ?_
  rintro ⟨⟩ w1 H locs ⟨u2_items_i1, rfl, hF⟩ hP hD hS
  have hP : va_P D CL [(h_this, .inr (3, [.ref h_items, .ref h_lanes, .ref h_sizes])), (h_items, .inl (cy 5, 8, .inr (.inr (.inr (.inr (rO r_items)))))), (h_lanes, .inl (cy 0, 8, .inl v_lanes)), (h_sizes, .inl (cy 0, 8, .inl v_sizes)), (r_items 0, .inl (cy 0, 40, .inl ((va_up v_items 1 u2_items_i1) 0))), (r_items 2, .inl (cy 0, 40, .inl ((va_up v_items 1 u2_items_i1) 2))), (r_items 3, .inl (cy 0, 40, .inl ((va_up v_items 1 u2_items_i1) 3))), (r_items 4, .inl (cy 0, 40, .inl ((va_up v_items 1 u2_items_i1) 4))), (r_items 5, .inl (cy 0, 40, .inl ((va_up v_items 1 u2_items_i1) 5))), (r_items 6, .inl (cy 0, 40, .inl ((va_up v_items 1 u2_items_i1) 6))), (r_items 7, .inl (cy 0, 40, .inl ((va_up v_items 1 u2_items_i1) 7))), (r_items 1, .inl (cy 0, 40, .inl ((va_up v_items 1 u2_items_i1) 1)))] H := hP
  have hD : va_D A [(h_this, .inr (3, [.ref h_items, .ref h_lanes, .ref h_sizes])), (h_items, .inl (cy 5, 8, .inr (.inr (.inr (.inr (rO r_items)))))), (h_lanes, .inl (cy 0, 8, .inl v_lanes)), (h_sizes, .inl (cy 0, 8, .inl v_sizes)), (r_items 0, .inl (cy 0, 40, .inl ((va_up v_items 1 u2_items_i1) 0))), (r_items 2, .inl (cy 0, 40, .inl ((va_up v_items 1 u2_items_i1) 2))), (r_items 3, .inl (cy 0, 40, .inl ((va_up v_items 1 u2_items_i1) 3))), (r_items 4, .inl (cy 0, 40, .inl ((va_up v_items 1 u2_items_i1) 4))), (r_items 5, .inl (cy 0, 40, .inl ((va_up v_items 1 u2_items_i1) 5))), (r_items 6, .inl (cy 0, 40, .inl ((va_up v_items 1 u2_items_i1) 6))), (r_items 7, .inl (cy 0, 40, .inl ((va_up v_items 1 u2_items_i1) 7))), (r_items 1, .inl (cy 0, 40, .inl ((va_up v_items 1 u2_items_i1) 1)))] := hD
  refine W.eq (g2 := F0 m 10 ls []) rfl ?_
  refine lv_aload_n hx hb dX4_lay_10 rfl (lv_at hl 0 rfl) ?_
  refine va_get (D := D) (ci := 3) (v := .ref h_lanes) (C := RX4) (T := TX4) (N := 3) hx hb hts inTX4 hown hK.1 hP 0 rfl rfl 1 (by decide) (hts _ t1_38) (fun _ h9 => h9) rfl dX4_lay_11 ?_
  refine lv_iload_n hx hb dX4_lay_14 rfl (lv_at hl 1 rfl) ?_
  refine lv_iload_n hx hb dX4_lay_15 rfl (lv_at hl 2 rfl) ?_
  refine s_iast (j := 1) hx hb hK.1 hP hD hS 2 0 rfl rfl (vi (by decide)) (by decide) dX4_lay_16 (fun H locs hP hD hS => ?_)
  have hP : va_P D CL [(h_this, .inr (3, [.ref h_items, .ref h_lanes, .ref h_sizes])), (h_items, .inl (cy 5, 8, .inr (.inr (.inr (.inr (rO r_items)))))), (h_lanes, .inl (cy 0, 8, .inl (upd v_lanes 1 p1))), (h_sizes, .inl (cy 0, 8, .inl v_sizes)), (r_items 0, .inl (cy 0, 40, .inl ((va_up v_items 1 u2_items_i1) 0))), (r_items 2, .inl (cy 0, 40, .inl ((va_up v_items 1 u2_items_i1) 2))), (r_items 3, .inl (cy 0, 40, .inl ((va_up v_items 1 u2_items_i1) 3))), (r_items 4, .inl (cy 0, 40, .inl ((va_up v_items 1 u2_items_i1) 4))), (r_items 5, .inl (cy 0, 40, .inl ((va_up v_items 1 u2_items_i1) 5))), (r_items 6, .inl (cy 0, 40, .inl ((va_up v_items 1 u2_items_i1) 6))), (r_items 7, .inl (cy 0, 40, .inl ((va_up v_items 1 u2_items_i1) 7))), (r_items 1, .inl (cy 0, 40, .inl ((va_up v_items 1 u2_items_i1) 1)))] H := hP
  have hD : va_D A [(h_this, .inr (3, [.ref h_items, .ref h_lanes, .ref h_sizes])), (h_items, .inl (cy 5, 8, .inr (.inr (.inr (.inr (rO r_items)))))), (h_lanes, .inl (cy 0, 8, .inl (upd v_lanes 1 p1))), (h_sizes, .inl (cy 0, 8, .inl v_sizes)), (r_items 0, .inl (cy 0, 40, .inl ((va_up v_items 1 u2_items_i1) 0))), (r_items 2, .inl (cy 0, 40, .inl ((va_up v_items 1 u2_items_i1) 2))), (r_items 3, .inl (cy 0, 40, .inl ((va_up v_items 1 u2_items_i1) 3))), (r_items 4, .inl (cy 0, 40, .inl ((va_up v_items 1 u2_items_i1) 4))), (r_items 5, .inl (cy 0, 40, .inl ((va_up v_items 1 u2_items_i1) 5))), (r_items 6, .inl (cy 0, 40, .inl ((va_up v_items 1 u2_items_i1) 6))), (r_items 7, .inl (cy 0, 40, .inl ((va_up v_items 1 u2_items_i1) 7))), (r_items 1, .inl (cy 0, 40, .inl ((va_up v_items 1 u2_items_i1) 1)))] := hD
  refine lv_aload_n hx hb dX4_lay_17 rfl (lv_at hl 0 rfl) ?_
  refine va_get (D := D) (ci := 3) (v := .ref h_sizes) (C := RX4) (T := TX4) (N := 3) hx hb hts inTX4 hown hK.1 hP 0 rfl rfl 2 (by decide) (hts _ t1_39) (fun _ h9 => h9) rfl dX4_lay_18 ?_
  refine lv_iload_n hx hb dX4_lay_21 rfl (lv_at hl 1 rfl) ?_
  refine lv_iload_n hx hb dX4_lay_22 rfl (lv_at hl 3 rfl) ?_
  refine s_iast (j := 1) hx hb hK.1 hP hD hS 3 0 rfl rfl (vi (by decide)) (by decide) dX4_lay_23 (fun H locs hP hD hS => ?_)
  have hP : va_P D CL [(h_this, .inr (3, [.ref h_items, .ref h_lanes, .ref h_sizes])), (h_items, .inl (cy 5, 8, .inr (.inr (.inr (.inr (rO r_items)))))), (h_lanes, .inl (cy 0, 8, .inl (upd v_lanes 1 p1))), (h_sizes, .inl (cy 0, 8, .inl (upd v_sizes 1 p2))), (r_items 0, .inl (cy 0, 40, .inl ((va_up v_items 1 u2_items_i1) 0))), (r_items 2, .inl (cy 0, 40, .inl ((va_up v_items 1 u2_items_i1) 2))), (r_items 3, .inl (cy 0, 40, .inl ((va_up v_items 1 u2_items_i1) 3))), (r_items 4, .inl (cy 0, 40, .inl ((va_up v_items 1 u2_items_i1) 4))), (r_items 5, .inl (cy 0, 40, .inl ((va_up v_items 1 u2_items_i1) 5))), (r_items 6, .inl (cy 0, 40, .inl ((va_up v_items 1 u2_items_i1) 6))), (r_items 7, .inl (cy 0, 40, .inl ((va_up v_items 1 u2_items_i1) 7))), (r_items 1, .inl (cy 0, 40, .inl ((va_up v_items 1 u2_items_i1) 1)))] H := hP
  have hD : va_D A [(h_this, .inr (3, [.ref h_items, .ref h_lanes, .ref h_sizes])), (h_items, .inl (cy 5, 8, .inr (.inr (.inr (.inr (rO r_items)))))), (h_lanes, .inl (cy 0, 8, .inl (upd v_lanes 1 p1))), (h_sizes, .inl (cy 0, 8, .inl (upd v_sizes 1 p2))), (r_items 0, .inl (cy 0, 40, .inl ((va_up v_items 1 u2_items_i1) 0))), (r_items 2, .inl (cy 0, 40, .inl ((va_up v_items 1 u2_items_i1) 2))), (r_items 3, .inl (cy 0, 40, .inl ((va_up v_items 1 u2_items_i1) 3))), (r_items 4, .inl (cy 0, 40, .inl ((va_up v_items 1 u2_items_i1) 4))), (r_items 5, .inl (cy 0, 40, .inl ((va_up v_items 1 u2_items_i1) 5))), (r_items 6, .inl (cy 0, 40, .inl ((va_up v_items 1 u2_items_i1) 6))), (r_items 7, .inl (cy 0, 40, .inl ((va_up v_items 1 u2_items_i1) 7))), (r_items 1, .inl (cy 0, 40, .inl ((va_up v_items 1 u2_items_i1) 1)))] := hD
  have hP : va_P D CL [(h_this, .inr (3, [.ref h_items, .ref h_lanes, .ref h_sizes])), (h_items, .inl (cy 5, 8, .inr (.inr (.inr (.inr (rO r_items)))))), (h_lanes, .inl (cy 0, 8, .inl (upd v_lanes 1 p1))), (h_sizes, .inl (cy 0, 8, .inl (upd v_sizes 1 p2))), (r_items 0, .inl (cy 0, 40, .inl ((va_up v_items 1 u2_items_i1) 0))), (r_items 1, .inl (cy 0, 40, .inl ((va_up v_items 1 u2_items_i1) 1))), (r_items 2, .inl (cy 0, 40, .inl ((va_up v_items 1 u2_items_i1) 2))), (r_items 3, .inl (cy 0, 40, .inl ((va_up v_items 1 u2_items_i1) 3))), (r_items 4, .inl (cy 0, 40, .inl ((va_up v_items 1 u2_items_i1) 4))), (r_items 5, .inl (cy 0, 40, .inl ((va_up v_items 1 u2_items_i1) 5))), (r_items 6, .inl (cy 0, 40, .inl ((va_up v_items 1 u2_items_i1) 6))), (r_items 7, .inl (cy 0, 40, .inl ((va_up v_items 1 u2_items_i1) 7)))] H := (hP.sub [0, 1, 2, 3, 4, 11, 5, 6, 7, 8, 9, 10] rfl)
  have hD : va_D A [(h_this, .inr (3, [.ref h_items, .ref h_lanes, .ref h_sizes])), (h_items, .inl (cy 5, 8, .inr (.inr (.inr (.inr (rO r_items)))))), (h_lanes, .inl (cy 0, 8, .inl (upd v_lanes 1 p1))), (h_sizes, .inl (cy 0, 8, .inl (upd v_sizes 1 p2))), (r_items 0, .inl (cy 0, 40, .inl ((va_up v_items 1 u2_items_i1) 0))), (r_items 1, .inl (cy 0, 40, .inl ((va_up v_items 1 u2_items_i1) 1))), (r_items 2, .inl (cy 0, 40, .inl ((va_up v_items 1 u2_items_i1) 2))), (r_items 3, .inl (cy 0, 40, .inl ((va_up v_items 1 u2_items_i1) 3))), (r_items 4, .inl (cy 0, 40, .inl ((va_up v_items 1 u2_items_i1) 4))), (r_items 5, .inl (cy 0, 40, .inl ((va_up v_items 1 u2_items_i1) 5))), (r_items 6, .inl (cy 0, 40, .inl ((va_up v_items 1 u2_items_i1) 6))), (r_items 7, .inl (cy 0, 40, .inl ((va_up v_items 1 u2_items_i1) 7)))] := (hD.sub [0, 1, 2, 3, 4, 11, 5, 6, 7, 8, 9, 10] (by decide) rfl)
  exact rt_v C hQ rfl hP hD hS ⟨(va_up v_items 1 u2_items_i1), (upd v_lanes 1 p1), (upd v_sizes 1 p2), rfl, hF⟩ dX4_lay_24

def wjX4_put_r1_33 (v_lanes : Nat → Int32) (post : Int32 → (Nat → Nat → Int32) → Prop) (l2 : Int32) (l4 : Int32) (w_items : Nat → Nat → Int32) : Prop := vp_in l2 40 ∧ (post l4 (va_up w_items 1 (upd (w_items 1) ((l2).toNatClampNeg) l4)))
def wpX4_put_r1 (p1 : Int32) (p2 : Int32) (v_lanes : Nat → Int32) (v_items : Nat → Nat → Int32) (post : Int32 → (Nat → Nat → Int32) → Prop) : Prop := (¬ (v_lanes 1) = 0 → ((¬ (v_lanes 1) = 1 → (wjX4_put_r1_33 v_lanes post p1 p2 v_items)) ∧ ((v_lanes 1) = 1 → (wjX4_put_r1_33 v_lanes post p1 ((p2).toInt16.toInt32) v_items)))) ∧ ((v_lanes 1) = 0 → (wjX4_put_r1_33 v_lanes post p1 ((p2).toInt8.toInt32) v_items))
abbrev rmX4_put_r1 : Room := { frames := 0, cells := 0, slots := 0, locals := 0 }
set_option maxHeartbeats 4000000 in
set_option maxRecDepth 100000 in
theorem ccX4_put_r1 (l : Launch) (D : va_G) (cy : Nat → ClassId) (h_this : Nat) (h_lanes : Nat) (h_items : Nat) (r_items : Nat → Nat) (x_sizes : Value) (v_lanes : Nat → Int32) (v_items : Nat → Nat → Int32) (p1 : Int32) (p2 : Int32) (post : Int32 → (Nat → Nat → Int32) → Prop) (hF : wpX4_put_r1 p1 p2 v_lanes v_items post) : Ct l D cy miX4_put rmX4_put_r1 emI NP [.ref h_this, .int 1, .int p1, .int p2] [(h_this, .inr (3, [.ref h_items, .ref h_lanes, x_sizes])), (h_lanes, .inl (cy 0, 8, .inl v_lanes)), (h_items, .inl (cy 5, 8, .inr (.inr (.inr (.inr (rO r_items)))))), (r_items 0, .inl (cy 0, 40, .inl (v_items 0))), (r_items 1, .inl (cy 0, 40, .inl (v_items 1))), (r_items 2, .inl (cy 0, 40, .inl (v_items 2))), (r_items 3, .inl (cy 0, 40, .inl (v_items 3))), (r_items 4, .inl (cy 0, 40, .inl (v_items 4))), (r_items 5, .inl (cy 0, 40, .inl (v_items 5))), (r_items 6, .inl (cy 0, 40, .inl (v_items 6))), (r_items 7, .inl (cy 0, 40, .inl (v_items 7)))] (fun r w1 => ∃ (w_items : Nat → Nat → Int32), w1 = [(h_this, .inr (3, [.ref h_items, .ref h_lanes, x_sizes])), (h_lanes, .inl (cy 0, 8, .inl v_lanes)), (h_items, .inl (cy 5, 8, .inr (.inr (.inr (.inr (rO r_items)))))), (r_items 0, .inl (cy 0, 40, .inl (w_items 0))), (r_items 1, .inl (cy 0, 40, .inl (w_items 1))), (r_items 2, .inl (cy 0, 40, .inl (w_items 2))), (r_items 3, .inl (cy 0, 40, .inl (w_items 3))), (r_items 4, .inl (cy 0, 40, .inl (w_items 4))), (r_items 5, .inl (cy 0, 40, .inl (w_items 5))), (r_items 6, .inl (cy 0, 40, .inl (w_items 6))), (r_items 7, .inl (cy 0, 40, .inl (w_items 7)))] ∧ post r w_items) := by
  refine Ct.of (by decide) (Nat.le_of_ble_eq_true rfl) ?_
  intro p e s m args below meth c A ls Q C hQ hA hI hP hD hS hl
  obtain ⟨hx, hb, hr, hml, hown, hts, hK, hlk, hnm⟩ := id C
  have hb : c.code = cX4_put := hb
  have hml : c.maxLocals = 5 := hml
  have hown : s.vm.findClass RX4 = some m.cls := hown
  have hl : lv_has ls 5 [(0, .ref h_this), (1, .int 1), (2, .int p1), (3, .int p2)] := hl
  have J_33 : ∀ (l2 : Int32) (l4 : Int32) (w_items : Nat → Nat → Int32) (H : Heap) (locs : List Loc) (ls : Array Slot), va_P D CL [(h_this, .inr (3, [.ref h_items, .ref h_lanes, x_sizes])), (h_lanes, .inl (cy 0, 8, .inl v_lanes)), (h_items, .inl (cy 5, 8, .inr (.inr (.inr (.inr (rO r_items)))))), (r_items 0, .inl (cy 0, 40, .inl (w_items 0))), (r_items 1, .inl (cy 0, 40, .inl (w_items 1))), (r_items 2, .inl (cy 0, 40, .inl (w_items 2))), (r_items 3, .inl (cy 0, 40, .inl (w_items 3))), (r_items 4, .inl (cy 0, 40, .inl (w_items 4))), (r_items 5, .inl (cy 0, 40, .inl (w_items 5))), (r_items 6, .inl (cy 0, 40, .inl (w_items 6))), (r_items 7, .inl (cy 0, 40, .inl (w_items 7)))] H → va_D A [(h_this, .inr (3, [.ref h_items, .ref h_lanes, x_sizes])), (h_lanes, .inl (cy 0, 8, .inl v_lanes)), (h_items, .inl (cy 5, 8, .inr (.inr (.inr (.inr (rO r_items)))))), (r_items 0, .inl (cy 0, 40, .inl (w_items 0))), (r_items 1, .inl (cy 0, 40, .inl (w_items 1))), (r_items 2, .inl (cy 0, 40, .inl (w_items 2))), (r_items 3, .inl (cy 0, 40, .inl (w_items 3))), (r_items 4, .inl (cy 0, 40, .inl (w_items 4))), (r_items 5, .inl (cy 0, 40, .inl (w_items 5))), (r_items 6, .inl (cy 0, 40, .inl (w_items 6))), (r_items 7, .inl (cy 0, 40, .inl (w_items 7)))] → va_S A s.heap H locs → lv_has ls 5 [(0, .ref h_this), (1, .int 1), (2, .int l2), (4, .int l4)] → wjX4_put_r1_33 v_lanes post l2 l4 w_items → W p l e rmX4_put_r1 s m args below meth c H locs 0 0 Q (F0 m 33 ls []) := by
    intro l2 l4 w_items H locs ls  hP hD hS hl hF
    unfold wjX4_put_r1_33 at hF
    refine lv_aload_n hx hb dX4_put_33 rfl (lv_at hl 0 rfl) ?_
    refine va_get (D := D) (ci := 3) (v := .ref h_items) (C := RX4) (T := TX4) (N := 3) hx hb hts inTX4 hown hK.1 hP 0 rfl rfl 0 (by decide) (hts _ t1_37) (fun _ h9 => h9) rfl dX4_put_34 ?_
    refine lv_iload_n hx hb dX4_put_37 rfl (lv_at hl 1 rfl) ?_
    refine s_aldg (j := 1) (y := r_items 1) hx hb hK.1 hP 2 5 rfl rfl (vi (by decide)) (by decide) rfl dX4_put_38 ?_
    refine lv_iload_n hx hb dX4_put_39 rfl (lv_at hl 2 rfl) ?_
    refine lv_iload hx hb dX4_put_40 (lv_at hl 3 rfl) ?_
    obtain ⟨hi1, hF⟩ := hF
    refine s_iast (j := (l2).toNatClampNeg) hx hb hK.1 hP hD hS 4 0 rfl rfl hi1 rfl dX4_put_42 (fun H locs hP hD hS => ?_)
    have hP : va_P D CL [(h_this, .inr (3, [.ref h_items, .ref h_lanes, x_sizes])), (h_lanes, .inl (cy 0, 8, .inl v_lanes)), (h_items, .inl (cy 5, 8, .inr (.inr (.inr (.inr (rO r_items)))))), (r_items 0, .inl (cy 0, 40, .inl ((va_up w_items 1 (upd (w_items 1) ((l2).toNatClampNeg) l4)) 0))), (r_items 1, .inl (cy 0, 40, .inl ((va_up w_items 1 (upd (w_items 1) ((l2).toNatClampNeg) l4)) 1))), (r_items 2, .inl (cy 0, 40, .inl ((va_up w_items 1 (upd (w_items 1) ((l2).toNatClampNeg) l4)) 2))), (r_items 3, .inl (cy 0, 40, .inl ((va_up w_items 1 (upd (w_items 1) ((l2).toNatClampNeg) l4)) 3))), (r_items 4, .inl (cy 0, 40, .inl ((va_up w_items 1 (upd (w_items 1) ((l2).toNatClampNeg) l4)) 4))), (r_items 5, .inl (cy 0, 40, .inl ((va_up w_items 1 (upd (w_items 1) ((l2).toNatClampNeg) l4)) 5))), (r_items 6, .inl (cy 0, 40, .inl ((va_up w_items 1 (upd (w_items 1) ((l2).toNatClampNeg) l4)) 6))), (r_items 7, .inl (cy 0, 40, .inl ((va_up w_items 1 (upd (w_items 1) ((l2).toNatClampNeg) l4)) 7)))] H := hP
    have hD : va_D A [(h_this, .inr (3, [.ref h_items, .ref h_lanes, x_sizes])), (h_lanes, .inl (cy 0, 8, .inl v_lanes)), (h_items, .inl (cy 5, 8, .inr (.inr (.inr (.inr (rO r_items)))))), (r_items 0, .inl (cy 0, 40, .inl ((va_up w_items 1 (upd (w_items 1) ((l2).toNatClampNeg) l4)) 0))), (r_items 1, .inl (cy 0, 40, .inl ((va_up w_items 1 (upd (w_items 1) ((l2).toNatClampNeg) l4)) 1))), (r_items 2, .inl (cy 0, 40, .inl ((va_up w_items 1 (upd (w_items 1) ((l2).toNatClampNeg) l4)) 2))), (r_items 3, .inl (cy 0, 40, .inl ((va_up w_items 1 (upd (w_items 1) ((l2).toNatClampNeg) l4)) 3))), (r_items 4, .inl (cy 0, 40, .inl ((va_up w_items 1 (upd (w_items 1) ((l2).toNatClampNeg) l4)) 4))), (r_items 5, .inl (cy 0, 40, .inl ((va_up w_items 1 (upd (w_items 1) ((l2).toNatClampNeg) l4)) 5))), (r_items 6, .inl (cy 0, 40, .inl ((va_up w_items 1 (upd (w_items 1) ((l2).toNatClampNeg) l4)) 6))), (r_items 7, .inl (cy 0, 40, .inl ((va_up w_items 1 (upd (w_items 1) ((l2).toNatClampNeg) l4)) 7)))] := hD
    refine lv_iload hx hb dX4_put_43 (lv_at hl 3 rfl) ?_
    exact rt_i C hQ rfl hP hD hS ⟨(va_up w_items 1 (upd (w_items 1) ((l2).toNatClampNeg) l4)), rfl, hF⟩ dX4_put_45
  unfold wpX4_put_r1 at hF
  refine lv_iload_n hx hb dX4_put_0 rfl (lv_at hl 3 rfl) ?_
  refine lv_istore (lv' := [(4, .int p2), (0, .ref h_this), (1, .int 1), (2, .int p1), (3, .int p2)]) hx hb dX4_put_1 hl (by decide) rfl (fun ls hl => ?_)
  refine lv_aload_n hx hb dX4_put_3 rfl (lv_at hl 1 rfl) ?_
  refine va_get (D := D) (ci := 3) (v := .ref h_lanes) (C := RX4) (T := TX4) (N := 3) hx hb hts inTX4 hown hK.1 hP 0 rfl rfl 1 (by decide) (hts _ t1_38) (fun _ h9 => h9) rfl dX4_put_4 ?_
  refine lv_iload_n hx hb dX4_put_7 rfl (lv_at hl 2 rfl) ?_
  refine s_iald (j := 1) hx hb hK.1 hP 1 0 rfl rfl (vi (by decide)) (by decide) dX4_put_8 ?_
  refine lv_if_ne (tgt := 19) hx hb dX4_put_9 (by decide) (fun c_ => ?_) (fun c_ => ?_)
  · have hF := hF.1 c_
    refine lv_aload_n hx hb dX4_put_19 rfl (lv_at hl 1 rfl) ?_
    refine va_get (D := D) (ci := 3) (v := .ref h_lanes) (C := RX4) (T := TX4) (N := 3) hx hb hts inTX4 hown hK.1 hP 0 rfl rfl 1 (by decide) (hts _ t1_38) (fun _ h9 => h9) rfl dX4_put_20 ?_
    refine lv_iload_n hx hb dX4_put_23 rfl (lv_at hl 2 rfl) ?_
    refine s_iald (j := 1) hx hb hK.1 hP 1 0 rfl rfl (vi (by decide)) (by decide) dX4_put_24 ?_
    refine lv_iconst (v := 1) hx hb dX4_put_25 (by decide) ?_
    refine lv_icmp_ne (tgt := 33) hx hb dX4_put_26 (by decide) (fun c_ => ?_) (fun c_ => ?_)
    · have hF := hF.1 c_
      exact J_33 p1 p2 v_items _ _ ls  hP hD hS (lv_sub hl [1, 2, 3, 0] rfl) hF
    · have hF := hF.2 c_
      refine lv_iload_n hx hb dX4_put_29 rfl (lv_at hl 4 rfl) ?_
      refine lv_i2s hx hb dX4_put_30 rfl ?_
      refine lv_istore (lv' := [(4, .int ((p2).toInt16.toInt32)), (0, .ref h_this), (1, .int 1), (2, .int p1), (3, .int p2)]) hx hb dX4_put_31 hl (by decide) rfl (fun ls hl => ?_)
      exact J_33 p1 ((p2).toInt16.toInt32) v_items _ _ ls  hP hD hS (lv_sub hl [1, 2, 3, 0] rfl) hF
  · have hF := hF.2 c_
    refine lv_iload_n hx hb dX4_put_12 rfl (lv_at hl 4 rfl) ?_
    refine lv_i2b hx hb dX4_put_13 rfl ?_
    refine lv_istore (lv' := [(4, .int ((p2).toInt8.toInt32)), (0, .ref h_this), (1, .int 1), (2, .int p1), (3, .int p2)]) hx hb dX4_put_14 hl (by decide) rfl (fun ls hl => ?_)
    refine lv_goto (tgt := 33) hx hb dX4_put_16 (by decide) ?_
    exact J_33 p1 ((p2).toInt8.toInt32) v_items _ _ ls  hP hD hS (lv_sub hl [1, 2, 3, 0] rfl) hF

def wpX4_itemAt_r2 (p1 : Int32) (v_items : Nat → Nat → Int32) (post : Int32 → Prop) : Prop := vp_in p1 40 ∧ (post ((v_items 2) ((p1).toNatClampNeg)))
abbrev rmX4_itemAt_r2 : Room := { frames := 0, cells := 0, slots := 0, locals := 0 }
set_option maxHeartbeats 4000000 in
set_option maxRecDepth 100000 in
theorem ccX4_itemAt_r2 (l : Launch) (D : va_G) (cy : Nat → ClassId) (h_this : Nat) (h_items : Nat) (r_items : Nat → Nat) (x_lanes : Value) (x_sizes : Value) (v_items : Nat → Nat → Int32) (p1 : Int32) (post : Int32 → Prop) (hF : wpX4_itemAt_r2 p1 v_items post) : Cr l D cy miX4_itemAt rmX4_itemAt_r2 emI NP [.ref h_this, .int 2, .int p1] [(h_this, .inr (3, [.ref h_items, x_lanes, x_sizes])), (h_items, .inl (cy 5, 8, .inr (.inr (.inr (.inr (rO r_items)))))), (r_items 0, .inl (cy 0, 40, .inl (v_items 0))), (r_items 1, .inl (cy 0, 40, .inl (v_items 1))), (r_items 2, .inl (cy 0, 40, .inl (v_items 2))), (r_items 3, .inl (cy 0, 40, .inl (v_items 3))), (r_items 4, .inl (cy 0, 40, .inl (v_items 4))), (r_items 5, .inl (cy 0, 40, .inl (v_items 5))), (r_items 6, .inl (cy 0, 40, .inl (v_items 6))), (r_items 7, .inl (cy 0, 40, .inl (v_items 7)))] post := by
  refine Cr.of (by decide) (Nat.le_of_ble_eq_true rfl) ?_
  intro p e s m args below meth c ls Q C hQ hO hP hl
  obtain ⟨hx, hb, hr, hml, hown, hts, hK, hlk, hnm⟩ := id C
  have hb : c.code = cX4_itemAt := hb
  have hml : c.maxLocals = 3 := hml
  have hown : s.vm.findClass RX4 = some m.cls := hown
  have hl : lv_has ls 3 [(0, .ref h_this), (1, .int 2), (2, .int p1)] := hl
  unfold wpX4_itemAt_r2 at hF
  refine lv_aload_n hx hb dX4_itemAt_0 rfl (lv_at hl 0 rfl) ?_
  refine va_get (D := D) (ci := 3) (v := .ref h_items) (C := RX4) (T := TX4) (N := 3) hx hb hts inTX4 hown hK.1 hP 0 rfl rfl 0 (by decide) (hts _ t1_37) (fun _ h9 => h9) rfl dX4_itemAt_1 ?_
  refine lv_iload_n hx hb dX4_itemAt_4 rfl (lv_at hl 1 rfl) ?_
  refine s_aldg (j := 2) (y := r_items 2) hx hb hK.1 hP 1 5 rfl rfl (vi (by decide)) (by decide) rfl dX4_itemAt_5 ?_
  refine lv_iload_n hx hb dX4_itemAt_6 rfl (lv_at hl 2 rfl) ?_
  obtain ⟨hi1, hF⟩ := hF
  refine s_iald (j := (p1).toNatClampNeg) hx hb hK.1 hP 4 0 rfl rfl hi1 rfl dX4_itemAt_7 ?_
  exact rr_i C hQ rfl hF dX4_itemAt_8

def wpX4_lay_r2 (p1 : Int32) (p2 : Int32) (v_items : Nat → Nat → Int32) (v_lanes : Nat → Int32) (v_sizes : Nat → Int32) (post : Unit → (Nat → Nat → Int32) → (Nat → Int32) → (Nat → Int32) → Prop) : Prop := wp_fillI 40 0 (v_items 2) (fun _ u2_items_i2 => post () (va_up v_items 2 u2_items_i2) (upd v_lanes 2 p1) (upd v_sizes 2 p2))
abbrev rmX4_lay_r2 : Room := { frames := 1, cells := 0, slots := 0, locals := 23 }
set_option maxHeartbeats 4000000 in
set_option maxRecDepth 100000 in
theorem ccX4_lay_r2 (l : Launch) (D : va_G) (cy : Nat → ClassId) (h_this : Nat) (h_items : Nat) (h_lanes : Nat) (h_sizes : Nat) (r_items : Nat → Nat) (v_items : Nat → Nat → Int32) (v_lanes : Nat → Int32) (v_sizes : Nat → Int32) (p1 : Int32) (p2 : Int32) (post : Unit → (Nat → Nat → Int32) → (Nat → Int32) → (Nat → Int32) → Prop) (hF : wpX4_lay_r2 p1 p2 v_items v_lanes v_sizes post) : Ct l D cy miX4_lay rmX4_lay_r2 emV NP [.ref h_this, .int 2, .int p1, .int p2] [(h_this, .inr (3, [.ref h_items, .ref h_lanes, .ref h_sizes])), (h_items, .inl (cy 5, 8, .inr (.inr (.inr (.inr (rO r_items)))))), (h_lanes, .inl (cy 0, 8, .inl v_lanes)), (h_sizes, .inl (cy 0, 8, .inl v_sizes)), (r_items 0, .inl (cy 0, 40, .inl (v_items 0))), (r_items 1, .inl (cy 0, 40, .inl (v_items 1))), (r_items 2, .inl (cy 0, 40, .inl (v_items 2))), (r_items 3, .inl (cy 0, 40, .inl (v_items 3))), (r_items 4, .inl (cy 0, 40, .inl (v_items 4))), (r_items 5, .inl (cy 0, 40, .inl (v_items 5))), (r_items 6, .inl (cy 0, 40, .inl (v_items 6))), (r_items 7, .inl (cy 0, 40, .inl (v_items 7)))] (fun r w1 => ∃ (w_items : Nat → Nat → Int32) (w_lanes : Nat → Int32) (w_sizes : Nat → Int32), w1 = [(h_this, .inr (3, [.ref h_items, .ref h_lanes, .ref h_sizes])), (h_items, .inl (cy 5, 8, .inr (.inr (.inr (.inr (rO r_items)))))), (h_lanes, .inl (cy 0, 8, .inl w_lanes)), (h_sizes, .inl (cy 0, 8, .inl w_sizes)), (r_items 0, .inl (cy 0, 40, .inl (w_items 0))), (r_items 1, .inl (cy 0, 40, .inl (w_items 1))), (r_items 2, .inl (cy 0, 40, .inl (w_items 2))), (r_items 3, .inl (cy 0, 40, .inl (w_items 3))), (r_items 4, .inl (cy 0, 40, .inl (w_items 4))), (r_items 5, .inl (cy 0, 40, .inl (w_items 5))), (r_items 6, .inl (cy 0, 40, .inl (w_items 6))), (r_items 7, .inl (cy 0, 40, .inl (w_items 7)))] ∧ post r w_items w_lanes w_sizes) := by
  refine Ct.of (by decide) (Nat.le_of_ble_eq_true rfl) ?_
  intro p e s m args below meth c A ls Q C hQ hA hI hP hD hS hl
  obtain ⟨hx, hb, hr, hml, hown, hts, hK, hlk, hnm⟩ := id C
  have hb : c.code = cX4_lay := hb
  have hml : c.maxLocals = 4 := hml
  have hown : s.vm.findClass RX4 = some m.cls := hown
  have hl : lv_has ls 4 [(0, .ref h_this), (1, .int 2), (2, .int p1), (3, .int p2)] := hl
  unfold wpX4_lay_r2 at hF
  refine lv_aload_n hx hb dX4_lay_0 rfl (lv_at hl 0 rfl) ?_
  refine va_get (D := D) (ci := 3) (v := .ref h_items) (C := RX4) (T := TX4) (N := 3) hx hb hts inTX4 hown hK.1 hP 0 rfl rfl 0 (by decide) (hts _ t1_37) (fun _ h9 => h9) rfl dX4_lay_1 ?_
  refine lv_iload_n hx hb dX4_lay_4 rfl (lv_at hl 1 rfl) ?_
  refine s_aldg (j := 2) (y := r_items 2) hx hb hK.1 hP 1 5 rfl rfl (vi (by decide)) (by decide) rfl dX4_lay_5 ?_
  refine lv_iconst (v := 0) hx hb dX4_lay_6 (by decide) ?_
  refine cS_t (As := [.ref (r_items 2), .int 0]) (wr := [(h_this, .inr (3, [.ref h_items, .ref h_lanes, .ref h_sizes])), (h_items, .inl (cy 5, 8, .inr (.inr (.inr (.inr (rO r_items)))))), (h_lanes, .inl (cy 0, 8, .inl v_lanes)), (h_sizes, .inl (cy 0, 8, .inl v_sizes)), (r_items 0, .inl (cy 0, 40, .inl (v_items 0))), (r_items 1, .inl (cy 0, 40, .inl (v_items 1))), (r_items 3, .inl (cy 0, 40, .inl (v_items 3))), (r_items 4, .inl (cy 0, 40, .inl (v_items 4))), (r_items 5, .inl (cy 0, 40, .inl (v_items 5))), (r_items 6, .inl (cy 0, 40, .inl (v_items 6))), (r_items 7, .inl (cy 0, 40, .inl (v_items 7)))]) C hA hP hD hS mfJ7_fill_53178 t1_35 t1_34 (c_fillI l D cy 40 (by decide) (r_items 2) (v_items 2) 0 _ hF) [6] [0, 1, 2, 3, 4, 5, 7, 8, 9, 10, 11] rfl rfl (by decide) (by decide) (by decide) PO.np rfl hl.1 rfl (Nat.le_of_ble_eq_true rfl) dX4_lay_7 ⟨Nat.le_of_ble_eq_true rfl, Nat.le_of_ble_eq_true rfl⟩ ⟨Nat.le_of_ble_eq_true rfl, Nat.le_of_ble_eq_true rfl⟩ ?_
  rintro ⟨⟩ w1 H locs ⟨u2_items_i2, rfl, hF⟩ hP hD hS
  have hP : va_P D CL [(h_this, .inr (3, [.ref h_items, .ref h_lanes, .ref h_sizes])), (h_items, .inl (cy 5, 8, .inr (.inr (.inr (.inr (rO r_items)))))), (h_lanes, .inl (cy 0, 8, .inl v_lanes)), (h_sizes, .inl (cy 0, 8, .inl v_sizes)), (r_items 0, .inl (cy 0, 40, .inl ((va_up v_items 2 u2_items_i2) 0))), (r_items 1, .inl (cy 0, 40, .inl ((va_up v_items 2 u2_items_i2) 1))), (r_items 3, .inl (cy 0, 40, .inl ((va_up v_items 2 u2_items_i2) 3))), (r_items 4, .inl (cy 0, 40, .inl ((va_up v_items 2 u2_items_i2) 4))), (r_items 5, .inl (cy 0, 40, .inl ((va_up v_items 2 u2_items_i2) 5))), (r_items 6, .inl (cy 0, 40, .inl ((va_up v_items 2 u2_items_i2) 6))), (r_items 7, .inl (cy 0, 40, .inl ((va_up v_items 2 u2_items_i2) 7))), (r_items 2, .inl (cy 0, 40, .inl ((va_up v_items 2 u2_items_i2) 2)))] H := hP
  have hD : va_D A [(h_this, .inr (3, [.ref h_items, .ref h_lanes, .ref h_sizes])), (h_items, .inl (cy 5, 8, .inr (.inr (.inr (.inr (rO r_items)))))), (h_lanes, .inl (cy 0, 8, .inl v_lanes)), (h_sizes, .inl (cy 0, 8, .inl v_sizes)), (r_items 0, .inl (cy 0, 40, .inl ((va_up v_items 2 u2_items_i2) 0))), (r_items 1, .inl (cy 0, 40, .inl ((va_up v_items 2 u2_items_i2) 1))), (r_items 3, .inl (cy 0, 40, .inl ((va_up v_items 2 u2_items_i2) 3))), (r_items 4, .inl (cy 0, 40, .inl ((va_up v_items 2 u2_items_i2) 4))), (r_items 5, .inl (cy 0, 40, .inl ((va_up v_items 2 u2_items_i2) 5))), (r_items 6, .inl (cy 0, 40, .inl ((va_up v_items 2 u2_items_i2) 6))), (r_items 7, .inl (cy 0, 40, .inl ((va_up v_items 2 u2_items_i2) 7))), (r_items 2, .inl (cy 0, 40, .inl ((va_up v_items 2 u2_items_i2) 2)))] := hD
  refine W.eq (g2 := F0 m 10 ls []) rfl ?_
  refine lv_aload_n hx hb dX4_lay_10 rfl (lv_at hl 0 rfl) ?_
  refine va_get (D := D) (ci := 3) (v := .ref h_lanes) (C := RX4) (T := TX4) (N := 3) hx hb hts inTX4 hown hK.1 hP 0 rfl rfl 1 (by decide) (hts _ t1_38) (fun _ h9 => h9) rfl dX4_lay_11 ?_
  refine lv_iload_n hx hb dX4_lay_14 rfl (lv_at hl 1 rfl) ?_
  refine lv_iload_n hx hb dX4_lay_15 rfl (lv_at hl 2 rfl) ?_
  refine s_iast (j := 2) hx hb hK.1 hP hD hS 2 0 rfl rfl (vi (by decide)) (by decide) dX4_lay_16 (fun H locs hP hD hS => ?_)
  have hP : va_P D CL [(h_this, .inr (3, [.ref h_items, .ref h_lanes, .ref h_sizes])), (h_items, .inl (cy 5, 8, .inr (.inr (.inr (.inr (rO r_items)))))), (h_lanes, .inl (cy 0, 8, .inl (upd v_lanes 2 p1))), (h_sizes, .inl (cy 0, 8, .inl v_sizes)), (r_items 0, .inl (cy 0, 40, .inl ((va_up v_items 2 u2_items_i2) 0))), (r_items 1, .inl (cy 0, 40, .inl ((va_up v_items 2 u2_items_i2) 1))), (r_items 3, .inl (cy 0, 40, .inl ((va_up v_items 2 u2_items_i2) 3))), (r_items 4, .inl (cy 0, 40, .inl ((va_up v_items 2 u2_items_i2) 4))), (r_items 5, .inl (cy 0, 40, .inl ((va_up v_items 2 u2_items_i2) 5))), (r_items 6, .inl (cy 0, 40, .inl ((va_up v_items 2 u2_items_i2) 6))), (r_items 7, .inl (cy 0, 40, .inl ((va_up v_items 2 u2_items_i2) 7))), (r_items 2, .inl (cy 0, 40, .inl ((va_up v_items 2 u2_items_i2) 2)))] H := hP
  have hD : va_D A [(h_this, .inr (3, [.ref h_items, .ref h_lanes, .ref h_sizes])), (h_items, .inl (cy 5, 8, .inr (.inr (.inr (.inr (rO r_items)))))), (h_lanes, .inl (cy 0, 8, .inl (upd v_lanes 2 p1))), (h_sizes, .inl (cy 0, 8, .inl v_sizes)), (r_items 0, .inl (cy 0, 40, .inl ((va_up v_items 2 u2_items_i2) 0))), (r_items 1, .inl (cy 0, 40, .inl ((va_up v_items 2 u2_items_i2) 1))), (r_items 3, .inl (cy 0, 40, .inl ((va_up v_items 2 u2_items_i2) 3))), (r_items 4, .inl (cy 0, 40, .inl ((va_up v_items 2 u2_items_i2) 4))), (r_items 5, .inl (cy 0, 40, .inl ((va_up v_items 2 u2_items_i2) 5))), (r_items 6, .inl (cy 0, 40, .inl ((va_up v_items 2 u2_items_i2) 6))), (r_items 7, .inl (cy 0, 40, .inl ((va_up v_items 2 u2_items_i2) 7))), (r_items 2, .inl (cy 0, 40, .inl ((va_up v_items 2 u2_items_i2) 2)))] := hD
  refine lv_aload_n hx hb dX4_lay_17 rfl (lv_at hl 0 rfl) ?_
  refine va_get (D := D) (ci := 3) (v := .ref h_sizes) (C := RX4) (T := TX4) (N := 3) hx hb hts inTX4 hown hK.1 hP 0 rfl rfl 2 (by decide) (hts _ t1_39) (fun _ h9 => h9) rfl dX4_lay_18 ?_
  refine lv_iload_n hx hb dX4_lay_21 rfl (lv_at hl 1 rfl) ?_
  refine lv_iload_n hx hb dX4_lay_22 rfl (lv_at hl 3 rfl) ?_
  refine s_iast (j := 2) hx hb hK.1 hP hD hS 3 0 rfl rfl (vi (by decide)) (by decide) dX4_lay_23 (fun H locs hP hD hS => ?_)
  have hP : va_P D CL [(h_this, .inr (3, [.ref h_items, .ref h_lanes, .ref h_sizes])), (h_items, .inl (cy 5, 8, .inr (.inr (.inr (.inr (rO r_items)))))), (h_lanes, .inl (cy 0, 8, .inl (upd v_lanes 2 p1))), (h_sizes, .inl (cy 0, 8, .inl (upd v_sizes 2 p2))), (r_items 0, .inl (cy 0, 40, .inl ((va_up v_items 2 u2_items_i2) 0))), (r_items 1, .inl (cy 0, 40, .inl ((va_up v_items 2 u2_items_i2) 1))), (r_items 3, .inl (cy 0, 40, .inl ((va_up v_items 2 u2_items_i2) 3))), (r_items 4, .inl (cy 0, 40, .inl ((va_up v_items 2 u2_items_i2) 4))), (r_items 5, .inl (cy 0, 40, .inl ((va_up v_items 2 u2_items_i2) 5))), (r_items 6, .inl (cy 0, 40, .inl ((va_up v_items 2 u2_items_i2) 6))), (r_items 7, .inl (cy 0, 40, .inl ((va_up v_items 2 u2_items_i2) 7))), (r_items 2, .inl (cy 0, 40, .inl ((va_up v_items 2 u2_items_i2) 2)))] H := hP
  have hD : va_D A [(h_this, .inr (3, [.ref h_items, .ref h_lanes, .ref h_sizes])), (h_items, .inl (cy 5, 8, .inr (.inr (.inr (.inr (rO r_items)))))), (h_lanes, .inl (cy 0, 8, .inl (upd v_lanes 2 p1))), (h_sizes, .inl (cy 0, 8, .inl (upd v_sizes 2 p2))), (r_items 0, .inl (cy 0, 40, .inl ((va_up v_items 2 u2_items_i2) 0))), (r_items 1, .inl (cy 0, 40, .inl ((va_up v_items 2 u2_items_i2) 1))), (r_items 3, .inl (cy 0, 40, .inl ((va_up v_items 2 u2_items_i2) 3))), (r_items 4, .inl (cy 0, 40, .inl ((va_up v_items 2 u2_items_i2) 4))), (r_items 5, .inl (cy 0, 40, .inl ((va_up v_items 2 u2_items_i2) 5))), (r_items 6, .inl (cy 0, 40, .inl ((va_up v_items 2 u2_items_i2) 6))), (r_items 7, .inl (cy 0, 40, .inl ((va_up v_items 2 u2_items_i2) 7))), (r_items 2, .inl (cy 0, 40, .inl ((va_up v_items 2 u2_items_i2) 2)))] := hD
  have hP : va_P D CL [(h_this, .inr (3, [.ref h_items, .ref h_lanes, .ref h_sizes])), (h_items, .inl (cy 5, 8, .inr (.inr (.inr (.inr (rO r_items)))))), (h_lanes, .inl (cy 0, 8, .inl (upd v_lanes 2 p1))), (h_sizes, .inl (cy 0, 8, .inl (upd v_sizes 2 p2))), (r_items 0, .inl (cy 0, 40, .inl ((va_up v_items 2 u2_items_i2) 0))), (r_items 1, .inl (cy 0, 40, .inl ((va_up v_items 2 u2_items_i2) 1))), (r_items 2, .inl (cy 0, 40, .inl ((va_up v_items 2 u2_items_i2) 2))), (r_items 3, .inl (cy 0, 40, .inl ((va_up v_items 2 u2_items_i2) 3))), (r_items 4, .inl (cy 0, 40, .inl ((va_up v_items 2 u2_items_i2) 4))), (r_items 5, .inl (cy 0, 40, .inl ((va_up v_items 2 u2_items_i2) 5))), (r_items 6, .inl (cy 0, 40, .inl ((va_up v_items 2 u2_items_i2) 6))), (r_items 7, .inl (cy 0, 40, .inl ((va_up v_items 2 u2_items_i2) 7)))] H := (hP.sub [0, 1, 2, 3, 4, 5, 11, 6, 7, 8, 9, 10] rfl)
  have hD : va_D A [(h_this, .inr (3, [.ref h_items, .ref h_lanes, .ref h_sizes])), (h_items, .inl (cy 5, 8, .inr (.inr (.inr (.inr (rO r_items)))))), (h_lanes, .inl (cy 0, 8, .inl (upd v_lanes 2 p1))), (h_sizes, .inl (cy 0, 8, .inl (upd v_sizes 2 p2))), (r_items 0, .inl (cy 0, 40, .inl ((va_up v_items 2 u2_items_i2) 0))), (r_items 1, .inl (cy 0, 40, .inl ((va_up v_items 2 u2_items_i2) 1))), (r_items 2, .inl (cy 0, 40, .inl ((va_up v_items 2 u2_items_i2) 2))), (r_items 3, .inl (cy 0, 40, .inl ((va_up v_items 2 u2_items_i2) 3))), (r_items 4, .inl (cy 0, 40, .inl ((va_up v_items 2 u2_items_i2) 4))), (r_items 5, .inl (cy 0, 40, .inl ((va_up v_items 2 u2_items_i2) 5))), (r_items 6, .inl (cy 0, 40, .inl ((va_up v_items 2 u2_items_i2) 6))), (r_items 7, .inl (cy 0, 40, .inl ((va_up v_items 2 u2_items_i2) 7)))] := (hD.sub [0, 1, 2, 3, 4, 5, 11, 6, 7, 8, 9, 10] (by decide) rfl)
  exact rt_v C hQ rfl hP hD hS ⟨(va_up v_items 2 u2_items_i2), (upd v_lanes 2 p1), (upd v_sizes 2 p2), rfl, hF⟩ dX4_lay_24

def wjX4_put_r2_33 (v_lanes : Nat → Int32) (post : Int32 → (Nat → Nat → Int32) → Prop) (l2 : Int32) (l4 : Int32) (w_items : Nat → Nat → Int32) : Prop := vp_in l2 40 ∧ (post l4 (va_up w_items 2 (upd (w_items 2) ((l2).toNatClampNeg) l4)))
def wpX4_put_r2 (p1 : Int32) (p2 : Int32) (v_lanes : Nat → Int32) (v_items : Nat → Nat → Int32) (post : Int32 → (Nat → Nat → Int32) → Prop) : Prop := (¬ (v_lanes 2) = 0 → ((¬ (v_lanes 2) = 1 → (wjX4_put_r2_33 v_lanes post p1 p2 v_items)) ∧ ((v_lanes 2) = 1 → (wjX4_put_r2_33 v_lanes post p1 ((p2).toInt16.toInt32) v_items)))) ∧ ((v_lanes 2) = 0 → (wjX4_put_r2_33 v_lanes post p1 ((p2).toInt8.toInt32) v_items))
abbrev rmX4_put_r2 : Room := { frames := 0, cells := 0, slots := 0, locals := 0 }
set_option maxHeartbeats 4000000 in
set_option maxRecDepth 100000 in
theorem ccX4_put_r2 (l : Launch) (D : va_G) (cy : Nat → ClassId) (h_this : Nat) (h_lanes : Nat) (h_items : Nat) (r_items : Nat → Nat) (x_sizes : Value) (v_lanes : Nat → Int32) (v_items : Nat → Nat → Int32) (p1 : Int32) (p2 : Int32) (post : Int32 → (Nat → Nat → Int32) → Prop) (hF : wpX4_put_r2 p1 p2 v_lanes v_items post) : Ct l D cy miX4_put rmX4_put_r2 emI NP [.ref h_this, .int 2, .int p1, .int p2] [(h_this, .inr (3, [.ref h_items, .ref h_lanes, x_sizes])), (h_lanes, .inl (cy 0, 8, .inl v_lanes)), (h_items, .inl (cy 5, 8, .inr (.inr (.inr (.inr (rO r_items)))))), (r_items 0, .inl (cy 0, 40, .inl (v_items 0))), (r_items 1, .inl (cy 0, 40, .inl (v_items 1))), (r_items 2, .inl (cy 0, 40, .inl (v_items 2))), (r_items 3, .inl (cy 0, 40, .inl (v_items 3))), (r_items 4, .inl (cy 0, 40, .inl (v_items 4))), (r_items 5, .inl (cy 0, 40, .inl (v_items 5))), (r_items 6, .inl (cy 0, 40, .inl (v_items 6))), (r_items 7, .inl (cy 0, 40, .inl (v_items 7)))] (fun r w1 => ∃ (w_items : Nat → Nat → Int32), w1 = [(h_this, .inr (3, [.ref h_items, .ref h_lanes, x_sizes])), (h_lanes, .inl (cy 0, 8, .inl v_lanes)), (h_items, .inl (cy 5, 8, .inr (.inr (.inr (.inr (rO r_items)))))), (r_items 0, .inl (cy 0, 40, .inl (w_items 0))), (r_items 1, .inl (cy 0, 40, .inl (w_items 1))), (r_items 2, .inl (cy 0, 40, .inl (w_items 2))), (r_items 3, .inl (cy 0, 40, .inl (w_items 3))), (r_items 4, .inl (cy 0, 40, .inl (w_items 4))), (r_items 5, .inl (cy 0, 40, .inl (w_items 5))), (r_items 6, .inl (cy 0, 40, .inl (w_items 6))), (r_items 7, .inl (cy 0, 40, .inl (w_items 7)))] ∧ post r w_items) := by
  refine Ct.of (by decide) (Nat.le_of_ble_eq_true rfl) ?_
  intro p e s m args below meth c A ls Q C hQ hA hI hP hD hS hl
  obtain ⟨hx, hb, hr, hml, hown, hts, hK, hlk, hnm⟩ := id C
  have hb : c.code = cX4_put := hb
  have hml : c.maxLocals = 5 := hml
  have hown : s.vm.findClass RX4 = some m.cls := hown
  have hl : lv_has ls 5 [(0, .ref h_this), (1, .int 2), (2, .int p1), (3, .int p2)] := hl
  have J_33 : ∀ (l2 : Int32) (l4 : Int32) (w_items : Nat → Nat → Int32) (H : Heap) (locs : List Loc) (ls : Array Slot), va_P D CL [(h_this, .inr (3, [.ref h_items, .ref h_lanes, x_sizes])), (h_lanes, .inl (cy 0, 8, .inl v_lanes)), (h_items, .inl (cy 5, 8, .inr (.inr (.inr (.inr (rO r_items)))))), (r_items 0, .inl (cy 0, 40, .inl (w_items 0))), (r_items 1, .inl (cy 0, 40, .inl (w_items 1))), (r_items 2, .inl (cy 0, 40, .inl (w_items 2))), (r_items 3, .inl (cy 0, 40, .inl (w_items 3))), (r_items 4, .inl (cy 0, 40, .inl (w_items 4))), (r_items 5, .inl (cy 0, 40, .inl (w_items 5))), (r_items 6, .inl (cy 0, 40, .inl (w_items 6))), (r_items 7, .inl (cy 0, 40, .inl (w_items 7)))] H → va_D A [(h_this, .inr (3, [.ref h_items, .ref h_lanes, x_sizes])), (h_lanes, .inl (cy 0, 8, .inl v_lanes)), (h_items, .inl (cy 5, 8, .inr (.inr (.inr (.inr (rO r_items)))))), (r_items 0, .inl (cy 0, 40, .inl (w_items 0))), (r_items 1, .inl (cy 0, 40, .inl (w_items 1))), (r_items 2, .inl (cy 0, 40, .inl (w_items 2))), (r_items 3, .inl (cy 0, 40, .inl (w_items 3))), (r_items 4, .inl (cy 0, 40, .inl (w_items 4))), (r_items 5, .inl (cy 0, 40, .inl (w_items 5))), (r_items 6, .inl (cy 0, 40, .inl (w_items 6))), (r_items 7, .inl (cy 0, 40, .inl (w_items 7)))] → va_S A s.heap H locs → lv_has ls 5 [(0, .ref h_this), (1, .int 2), (2, .int l2), (4, .int l4)] → wjX4_put_r2_33 v_lanes post l2 l4 w_items → W p l e rmX4_put_r2 s m args below meth c H locs 0 0 Q (F0 m 33 ls []) := by
    intro l2 l4 w_items H locs ls  hP hD hS hl hF
    unfold wjX4_put_r2_33 at hF
    refine lv_aload_n hx hb dX4_put_33 rfl (lv_at hl 0 rfl) ?_
    refine va_get (D := D) (ci := 3) (v := .ref h_items) (C := RX4) (T := TX4) (N := 3) hx hb hts inTX4 hown hK.1 hP 0 rfl rfl 0 (by decide) (hts _ t1_37) (fun _ h9 => h9) rfl dX4_put_34 ?_
    refine lv_iload_n hx hb dX4_put_37 rfl (lv_at hl 1 rfl) ?_
    refine s_aldg (j := 2) (y := r_items 2) hx hb hK.1 hP 2 5 rfl rfl (vi (by decide)) (by decide) rfl dX4_put_38 ?_
    refine lv_iload_n hx hb dX4_put_39 rfl (lv_at hl 2 rfl) ?_
    refine lv_iload hx hb dX4_put_40 (lv_at hl 3 rfl) ?_
    obtain ⟨hi1, hF⟩ := hF
    refine s_iast (j := (l2).toNatClampNeg) hx hb hK.1 hP hD hS 5 0 rfl rfl hi1 rfl dX4_put_42 (fun H locs hP hD hS => ?_)
    have hP : va_P D CL [(h_this, .inr (3, [.ref h_items, .ref h_lanes, x_sizes])), (h_lanes, .inl (cy 0, 8, .inl v_lanes)), (h_items, .inl (cy 5, 8, .inr (.inr (.inr (.inr (rO r_items)))))), (r_items 0, .inl (cy 0, 40, .inl ((va_up w_items 2 (upd (w_items 2) ((l2).toNatClampNeg) l4)) 0))), (r_items 1, .inl (cy 0, 40, .inl ((va_up w_items 2 (upd (w_items 2) ((l2).toNatClampNeg) l4)) 1))), (r_items 2, .inl (cy 0, 40, .inl ((va_up w_items 2 (upd (w_items 2) ((l2).toNatClampNeg) l4)) 2))), (r_items 3, .inl (cy 0, 40, .inl ((va_up w_items 2 (upd (w_items 2) ((l2).toNatClampNeg) l4)) 3))), (r_items 4, .inl (cy 0, 40, .inl ((va_up w_items 2 (upd (w_items 2) ((l2).toNatClampNeg) l4)) 4))), (r_items 5, .inl (cy 0, 40, .inl ((va_up w_items 2 (upd (w_items 2) ((l2).toNatClampNeg) l4)) 5))), (r_items 6, .inl (cy 0, 40, .inl ((va_up w_items 2 (upd (w_items 2) ((l2).toNatClampNeg) l4)) 6))), (r_items 7, .inl (cy 0, 40, .inl ((va_up w_items 2 (upd (w_items 2) ((l2).toNatClampNeg) l4)) 7)))] H := hP
    have hD : va_D A [(h_this, .inr (3, [.ref h_items, .ref h_lanes, x_sizes])), (h_lanes, .inl (cy 0, 8, .inl v_lanes)), (h_items, .inl (cy 5, 8, .inr (.inr (.inr (.inr (rO r_items)))))), (r_items 0, .inl (cy 0, 40, .inl ((va_up w_items 2 (upd (w_items 2) ((l2).toNatClampNeg) l4)) 0))), (r_items 1, .inl (cy 0, 40, .inl ((va_up w_items 2 (upd (w_items 2) ((l2).toNatClampNeg) l4)) 1))), (r_items 2, .inl (cy 0, 40, .inl ((va_up w_items 2 (upd (w_items 2) ((l2).toNatClampNeg) l4)) 2))), (r_items 3, .inl (cy 0, 40, .inl ((va_up w_items 2 (upd (w_items 2) ((l2).toNatClampNeg) l4)) 3))), (r_items 4, .inl (cy 0, 40, .inl ((va_up w_items 2 (upd (w_items 2) ((l2).toNatClampNeg) l4)) 4))), (r_items 5, .inl (cy 0, 40, .inl ((va_up w_items 2 (upd (w_items 2) ((l2).toNatClampNeg) l4)) 5))), (r_items 6, .inl (cy 0, 40, .inl ((va_up w_items 2 (upd (w_items 2) ((l2).toNatClampNeg) l4)) 6))), (r_items 7, .inl (cy 0, 40, .inl ((va_up w_items 2 (upd (w_items 2) ((l2).toNatClampNeg) l4)) 7)))] := hD
    refine lv_iload hx hb dX4_put_43 (lv_at hl 3 rfl) ?_
    exact rt_i C hQ rfl hP hD hS ⟨(va_up w_items 2 (upd (w_items 2) ((l2).toNatClampNeg) l4)), rfl, hF⟩ dX4_put_45
  unfold wpX4_put_r2 at hF
  refine lv_iload_n hx hb dX4_put_0 rfl (lv_at hl 3 rfl) ?_
  refine lv_istore (lv' := [(4, .int p2), (0, .ref h_this), (1, .int 2), (2, .int p1), (3, .int p2)]) hx hb dX4_put_1 hl (by decide) rfl (fun ls hl => ?_)
  refine lv_aload_n hx hb dX4_put_3 rfl (lv_at hl 1 rfl) ?_
  refine va_get (D := D) (ci := 3) (v := .ref h_lanes) (C := RX4) (T := TX4) (N := 3) hx hb hts inTX4 hown hK.1 hP 0 rfl rfl 1 (by decide) (hts _ t1_38) (fun _ h9 => h9) rfl dX4_put_4 ?_
  refine lv_iload_n hx hb dX4_put_7 rfl (lv_at hl 2 rfl) ?_
  refine s_iald (j := 2) hx hb hK.1 hP 1 0 rfl rfl (vi (by decide)) (by decide) dX4_put_8 ?_
  refine lv_if_ne (tgt := 19) hx hb dX4_put_9 (by decide) (fun c_ => ?_) (fun c_ => ?_)
  · have hF := hF.1 c_
    refine lv_aload_n hx hb dX4_put_19 rfl (lv_at hl 1 rfl) ?_
    refine va_get (D := D) (ci := 3) (v := .ref h_lanes) (C := RX4) (T := TX4) (N := 3) hx hb hts inTX4 hown hK.1 hP 0 rfl rfl 1 (by decide) (hts _ t1_38) (fun _ h9 => h9) rfl dX4_put_20 ?_
    refine lv_iload_n hx hb dX4_put_23 rfl (lv_at hl 2 rfl) ?_
    refine s_iald (j := 2) hx hb hK.1 hP 1 0 rfl rfl (vi (by decide)) (by decide) dX4_put_24 ?_
    refine lv_iconst (v := 1) hx hb dX4_put_25 (by decide) ?_
    refine lv_icmp_ne (tgt := 33) hx hb dX4_put_26 (by decide) (fun c_ => ?_) (fun c_ => ?_)
    · have hF := hF.1 c_
      exact J_33 p1 p2 v_items _ _ ls  hP hD hS (lv_sub hl [1, 2, 3, 0] rfl) hF
    · have hF := hF.2 c_
      refine lv_iload_n hx hb dX4_put_29 rfl (lv_at hl 4 rfl) ?_
      refine lv_i2s hx hb dX4_put_30 rfl ?_
      refine lv_istore (lv' := [(4, .int ((p2).toInt16.toInt32)), (0, .ref h_this), (1, .int 2), (2, .int p1), (3, .int p2)]) hx hb dX4_put_31 hl (by decide) rfl (fun ls hl => ?_)
      exact J_33 p1 ((p2).toInt16.toInt32) v_items _ _ ls  hP hD hS (lv_sub hl [1, 2, 3, 0] rfl) hF
  · have hF := hF.2 c_
    refine lv_iload_n hx hb dX4_put_12 rfl (lv_at hl 4 rfl) ?_
    refine lv_i2b hx hb dX4_put_13 rfl ?_
    refine lv_istore (lv' := [(4, .int ((p2).toInt8.toInt32)), (0, .ref h_this), (1, .int 2), (2, .int p1), (3, .int p2)]) hx hb dX4_put_14 hl (by decide) rfl (fun ls hl => ?_)
    refine lv_goto (tgt := 33) hx hb dX4_put_16 (by decide) ?_
    exact J_33 p1 ((p2).toInt8.toInt32) v_items _ _ ls  hP hD hS (lv_sub hl [1, 2, 3, 0] rfl) hF

def wpX4_itemAt_r3 (p1 : Int32) (v_items : Nat → Nat → Int32) (post : Int32 → Prop) : Prop := vp_in p1 40 ∧ (post ((v_items 3) ((p1).toNatClampNeg)))
abbrev rmX4_itemAt_r3 : Room := { frames := 0, cells := 0, slots := 0, locals := 0 }
set_option maxHeartbeats 4000000 in
set_option maxRecDepth 100000 in
theorem ccX4_itemAt_r3 (l : Launch) (D : va_G) (cy : Nat → ClassId) (h_this : Nat) (h_items : Nat) (r_items : Nat → Nat) (x_lanes : Value) (x_sizes : Value) (v_items : Nat → Nat → Int32) (p1 : Int32) (post : Int32 → Prop) (hF : wpX4_itemAt_r3 p1 v_items post) : Cr l D cy miX4_itemAt rmX4_itemAt_r3 emI NP [.ref h_this, .int 3, .int p1] [(h_this, .inr (3, [.ref h_items, x_lanes, x_sizes])), (h_items, .inl (cy 5, 8, .inr (.inr (.inr (.inr (rO r_items)))))), (r_items 0, .inl (cy 0, 40, .inl (v_items 0))), (r_items 1, .inl (cy 0, 40, .inl (v_items 1))), (r_items 2, .inl (cy 0, 40, .inl (v_items 2))), (r_items 3, .inl (cy 0, 40, .inl (v_items 3))), (r_items 4, .inl (cy 0, 40, .inl (v_items 4))), (r_items 5, .inl (cy 0, 40, .inl (v_items 5))), (r_items 6, .inl (cy 0, 40, .inl (v_items 6))), (r_items 7, .inl (cy 0, 40, .inl (v_items 7)))] post := by
  refine Cr.of (by decide) (Nat.le_of_ble_eq_true rfl) ?_
  intro p e s m args below meth c ls Q C hQ hO hP hl
  obtain ⟨hx, hb, hr, hml, hown, hts, hK, hlk, hnm⟩ := id C
  have hb : c.code = cX4_itemAt := hb
  have hml : c.maxLocals = 3 := hml
  have hown : s.vm.findClass RX4 = some m.cls := hown
  have hl : lv_has ls 3 [(0, .ref h_this), (1, .int 3), (2, .int p1)] := hl
  unfold wpX4_itemAt_r3 at hF
  refine lv_aload_n hx hb dX4_itemAt_0 rfl (lv_at hl 0 rfl) ?_
  refine va_get (D := D) (ci := 3) (v := .ref h_items) (C := RX4) (T := TX4) (N := 3) hx hb hts inTX4 hown hK.1 hP 0 rfl rfl 0 (by decide) (hts _ t1_37) (fun _ h9 => h9) rfl dX4_itemAt_1 ?_
  refine lv_iload_n hx hb dX4_itemAt_4 rfl (lv_at hl 1 rfl) ?_
  refine s_aldg (j := 3) (y := r_items 3) hx hb hK.1 hP 1 5 rfl rfl (vi (by decide)) (by decide) rfl dX4_itemAt_5 ?_
  refine lv_iload_n hx hb dX4_itemAt_6 rfl (lv_at hl 2 rfl) ?_
  obtain ⟨hi1, hF⟩ := hF
  refine s_iald (j := (p1).toNatClampNeg) hx hb hK.1 hP 5 0 rfl rfl hi1 rfl dX4_itemAt_7 ?_
  exact rr_i C hQ rfl hF dX4_itemAt_8

def wpX4_lay_r3 (p1 : Int32) (p2 : Int32) (v_items : Nat → Nat → Int32) (v_lanes : Nat → Int32) (v_sizes : Nat → Int32) (post : Unit → (Nat → Nat → Int32) → (Nat → Int32) → (Nat → Int32) → Prop) : Prop := wp_fillI 40 0 (v_items 3) (fun _ u2_items_i3 => post () (va_up v_items 3 u2_items_i3) (upd v_lanes 3 p1) (upd v_sizes 3 p2))
abbrev rmX4_lay_r3 : Room := { frames := 1, cells := 0, slots := 0, locals := 23 }
set_option maxHeartbeats 4000000 in
set_option maxRecDepth 100000 in
theorem ccX4_lay_r3 (l : Launch) (D : va_G) (cy : Nat → ClassId) (h_this : Nat) (h_items : Nat) (h_lanes : Nat) (h_sizes : Nat) (r_items : Nat → Nat) (v_items : Nat → Nat → Int32) (v_lanes : Nat → Int32) (v_sizes : Nat → Int32) (p1 : Int32) (p2 : Int32) (post : Unit → (Nat → Nat → Int32) → (Nat → Int32) → (Nat → Int32) → Prop) (hF : wpX4_lay_r3 p1 p2 v_items v_lanes v_sizes post) : Ct l D cy miX4_lay rmX4_lay_r3 emV NP [.ref h_this, .int 3, .int p1, .int p2] [(h_this, .inr (3, [.ref h_items, .ref h_lanes, .ref h_sizes])), (h_items, .inl (cy 5, 8, .inr (.inr (.inr (.inr (rO r_items)))))), (h_lanes, .inl (cy 0, 8, .inl v_lanes)), (h_sizes, .inl (cy 0, 8, .inl v_sizes)), (r_items 0, .inl (cy 0, 40, .inl (v_items 0))), (r_items 1, .inl (cy 0, 40, .inl (v_items 1))), (r_items 2, .inl (cy 0, 40, .inl (v_items 2))), (r_items 3, .inl (cy 0, 40, .inl (v_items 3))), (r_items 4, .inl (cy 0, 40, .inl (v_items 4))), (r_items 5, .inl (cy 0, 40, .inl (v_items 5))), (r_items 6, .inl (cy 0, 40, .inl (v_items 6))), (r_items 7, .inl (cy 0, 40, .inl (v_items 7)))] (fun r w1 => ∃ (w_items : Nat → Nat → Int32) (w_lanes : Nat → Int32) (w_sizes : Nat → Int32), w1 = [(h_this, .inr (3, [.ref h_items, .ref h_lanes, .ref h_sizes])), (h_items, .inl (cy 5, 8, .inr (.inr (.inr (.inr (rO r_items)))))), (h_lanes, .inl (cy 0, 8, .inl w_lanes)), (h_sizes, .inl (cy 0, 8, .inl w_sizes)), (r_items 0, .inl (cy 0, 40, .inl (w_items 0))), (r_items 1, .inl (cy 0, 40, .inl (w_items 1))), (r_items 2, .inl (cy 0, 40, .inl (w_items 2))), (r_items 3, .inl (cy 0, 40, .inl (w_items 3))), (r_items 4, .inl (cy 0, 40, .inl (w_items 4))), (r_items 5, .inl (cy 0, 40, .inl (w_items 5))), (r_items 6, .inl (cy 0, 40, .inl (w_items 6))), (r_items 7, .inl (cy 0, 40, .inl (w_items 7)))] ∧ post r w_items w_lanes w_sizes) := by
  refine Ct.of (by decide) (Nat.le_of_ble_eq_true rfl) ?_
  intro p e s m args below meth c A ls Q C hQ hA hI hP hD hS hl
  obtain ⟨hx, hb, hr, hml, hown, hts, hK, hlk, hnm⟩ := id C
  have hb : c.code = cX4_lay := hb
  have hml : c.maxLocals = 4 := hml
  have hown : s.vm.findClass RX4 = some m.cls := hown
  have hl : lv_has ls 4 [(0, .ref h_this), (1, .int 3), (2, .int p1), (3, .int p2)] := hl
  unfold wpX4_lay_r3 at hF
  refine lv_aload_n hx hb dX4_lay_0 rfl (lv_at hl 0 rfl) ?_
  refine va_get (D := D) (ci := 3) (v := .ref h_items) (C := RX4) (T := TX4) (N := 3) hx hb hts inTX4 hown hK.1 hP 0 rfl rfl 0 (by decide) (hts _ t1_37) (fun _ h9 => h9) rfl dX4_lay_1 ?_
  refine lv_iload_n hx hb dX4_lay_4 rfl (lv_at hl 1 rfl) ?_
  refine s_aldg (j := 3) (y := r_items 3) hx hb hK.1 hP 1 5 rfl rfl (vi (by decide)) (by decide) rfl dX4_lay_5 ?_
  refine lv_iconst (v := 0) hx hb dX4_lay_6 (by decide) ?_
  refine cS_t (As := [.ref (r_items 3), .int 0]) (wr := [(h_this, .inr (3, [.ref h_items, .ref h_lanes, .ref h_sizes])), (h_items, .inl (cy 5, 8, .inr (.inr (.inr (.inr (rO r_items)))))), (h_lanes, .inl (cy 0, 8, .inl v_lanes)), (h_sizes, .inl (cy 0, 8, .inl v_sizes)), (r_items 0, .inl (cy 0, 40, .inl (v_items 0))), (r_items 1, .inl (cy 0, 40, .inl (v_items 1))), (r_items 2, .inl (cy 0, 40, .inl (v_items 2))), (r_items 4, .inl (cy 0, 40, .inl (v_items 4))), (r_items 5, .inl (cy 0, 40, .inl (v_items 5))), (r_items 6, .inl (cy 0, 40, .inl (v_items 6))), (r_items 7, .inl (cy 0, 40, .inl (v_items 7)))]) C hA hP hD hS mfJ7_fill_53178 t1_35 t1_34 (c_fillI l D cy 40 (by decide) (r_items 3) (v_items 3) 0 _ hF) [7] [0, 1, 2, 3, 4, 5, 6, 8, 9, 10, 11] rfl rfl (by decide) (by decide) (by decide) PO.np rfl hl.1 rfl (Nat.le_of_ble_eq_true rfl) dX4_lay_7 ⟨Nat.le_of_ble_eq_true rfl, Nat.le_of_ble_eq_true rfl⟩ ⟨Nat.le_of_ble_eq_true rfl, Nat.le_of_ble_eq_true rfl⟩ ?_
  rintro ⟨⟩ w1 H locs ⟨u2_items_i3, rfl, hF⟩ hP hD hS
  have hP : va_P D CL [(h_this, .inr (3, [.ref h_items, .ref h_lanes, .ref h_sizes])), (h_items, .inl (cy 5, 8, .inr (.inr (.inr (.inr (rO r_items)))))), (h_lanes, .inl (cy 0, 8, .inl v_lanes)), (h_sizes, .inl (cy 0, 8, .inl v_sizes)), (r_items 0, .inl (cy 0, 40, .inl ((va_up v_items 3 u2_items_i3) 0))), (r_items 1, .inl (cy 0, 40, .inl ((va_up v_items 3 u2_items_i3) 1))), (r_items 2, .inl (cy 0, 40, .inl ((va_up v_items 3 u2_items_i3) 2))), (r_items 4, .inl (cy 0, 40, .inl ((va_up v_items 3 u2_items_i3) 4))), (r_items 5, .inl (cy 0, 40, .inl ((va_up v_items 3 u2_items_i3) 5))), (r_items 6, .inl (cy 0, 40, .inl ((va_up v_items 3 u2_items_i3) 6))), (r_items 7, .inl (cy 0, 40, .inl ((va_up v_items 3 u2_items_i3) 7))), (r_items 3, .inl (cy 0, 40, .inl ((va_up v_items 3 u2_items_i3) 3)))] H := hP
  have hD : va_D A [(h_this, .inr (3, [.ref h_items, .ref h_lanes, .ref h_sizes])), (h_items, .inl (cy 5, 8, .inr (.inr (.inr (.inr (rO r_items)))))), (h_lanes, .inl (cy 0, 8, .inl v_lanes)), (h_sizes, .inl (cy 0, 8, .inl v_sizes)), (r_items 0, .inl (cy 0, 40, .inl ((va_up v_items 3 u2_items_i3) 0))), (r_items 1, .inl (cy 0, 40, .inl ((va_up v_items 3 u2_items_i3) 1))), (r_items 2, .inl (cy 0, 40, .inl ((va_up v_items 3 u2_items_i3) 2))), (r_items 4, .inl (cy 0, 40, .inl ((va_up v_items 3 u2_items_i3) 4))), (r_items 5, .inl (cy 0, 40, .inl ((va_up v_items 3 u2_items_i3) 5))), (r_items 6, .inl (cy 0, 40, .inl ((va_up v_items 3 u2_items_i3) 6))), (r_items 7, .inl (cy 0, 40, .inl ((va_up v_items 3 u2_items_i3) 7))), (r_items 3, .inl (cy 0, 40, .inl ((va_up v_items 3 u2_items_i3) 3)))] := hD
  refine W.eq (g2 := F0 m 10 ls []) rfl ?_
  refine lv_aload_n hx hb dX4_lay_10 rfl (lv_at hl 0 rfl) ?_
  refine va_get (D := D) (ci := 3) (v := .ref h_lanes) (C := RX4) (T := TX4) (N := 3) hx hb hts inTX4 hown hK.1 hP 0 rfl rfl 1 (by decide) (hts _ t1_38) (fun _ h9 => h9) rfl dX4_lay_11 ?_
  refine lv_iload_n hx hb dX4_lay_14 rfl (lv_at hl 1 rfl) ?_
  refine lv_iload_n hx hb dX4_lay_15 rfl (lv_at hl 2 rfl) ?_
  refine s_iast (j := 3) hx hb hK.1 hP hD hS 2 0 rfl rfl (vi (by decide)) (by decide) dX4_lay_16 (fun H locs hP hD hS => ?_)
  have hP : va_P D CL [(h_this, .inr (3, [.ref h_items, .ref h_lanes, .ref h_sizes])), (h_items, .inl (cy 5, 8, .inr (.inr (.inr (.inr (rO r_items)))))), (h_lanes, .inl (cy 0, 8, .inl (upd v_lanes 3 p1))), (h_sizes, .inl (cy 0, 8, .inl v_sizes)), (r_items 0, .inl (cy 0, 40, .inl ((va_up v_items 3 u2_items_i3) 0))), (r_items 1, .inl (cy 0, 40, .inl ((va_up v_items 3 u2_items_i3) 1))), (r_items 2, .inl (cy 0, 40, .inl ((va_up v_items 3 u2_items_i3) 2))), (r_items 4, .inl (cy 0, 40, .inl ((va_up v_items 3 u2_items_i3) 4))), (r_items 5, .inl (cy 0, 40, .inl ((va_up v_items 3 u2_items_i3) 5))), (r_items 6, .inl (cy 0, 40, .inl ((va_up v_items 3 u2_items_i3) 6))), (r_items 7, .inl (cy 0, 40, .inl ((va_up v_items 3 u2_items_i3) 7))), (r_items 3, .inl (cy 0, 40, .inl ((va_up v_items 3 u2_items_i3) 3)))] H := hP
  have hD : va_D A [(h_this, .inr (3, [.ref h_items, .ref h_lanes, .ref h_sizes])), (h_items, .inl (cy 5, 8, .inr (.inr (.inr (.inr (rO r_items)))))), (h_lanes, .inl (cy 0, 8, .inl (upd v_lanes 3 p1))), (h_sizes, .inl (cy 0, 8, .inl v_sizes)), (r_items 0, .inl (cy 0, 40, .inl ((va_up v_items 3 u2_items_i3) 0))), (r_items 1, .inl (cy 0, 40, .inl ((va_up v_items 3 u2_items_i3) 1))), (r_items 2, .inl (cy 0, 40, .inl ((va_up v_items 3 u2_items_i3) 2))), (r_items 4, .inl (cy 0, 40, .inl ((va_up v_items 3 u2_items_i3) 4))), (r_items 5, .inl (cy 0, 40, .inl ((va_up v_items 3 u2_items_i3) 5))), (r_items 6, .inl (cy 0, 40, .inl ((va_up v_items 3 u2_items_i3) 6))), (r_items 7, .inl (cy 0, 40, .inl ((va_up v_items 3 u2_items_i3) 7))), (r_items 3, .inl (cy 0, 40, .inl ((va_up v_items 3 u2_items_i3) 3)))] := hD
  refine lv_aload_n hx hb dX4_lay_17 rfl (lv_at hl 0 rfl) ?_
  refine va_get (D := D) (ci := 3) (v := .ref h_sizes) (C := RX4) (T := TX4) (N := 3) hx hb hts inTX4 hown hK.1 hP 0 rfl rfl 2 (by decide) (hts _ t1_39) (fun _ h9 => h9) rfl dX4_lay_18 ?_
  refine lv_iload_n hx hb dX4_lay_21 rfl (lv_at hl 1 rfl) ?_
  refine lv_iload_n hx hb dX4_lay_22 rfl (lv_at hl 3 rfl) ?_
  refine s_iast (j := 3) hx hb hK.1 hP hD hS 3 0 rfl rfl (vi (by decide)) (by decide) dX4_lay_23 (fun H locs hP hD hS => ?_)
  have hP : va_P D CL [(h_this, .inr (3, [.ref h_items, .ref h_lanes, .ref h_sizes])), (h_items, .inl (cy 5, 8, .inr (.inr (.inr (.inr (rO r_items)))))), (h_lanes, .inl (cy 0, 8, .inl (upd v_lanes 3 p1))), (h_sizes, .inl (cy 0, 8, .inl (upd v_sizes 3 p2))), (r_items 0, .inl (cy 0, 40, .inl ((va_up v_items 3 u2_items_i3) 0))), (r_items 1, .inl (cy 0, 40, .inl ((va_up v_items 3 u2_items_i3) 1))), (r_items 2, .inl (cy 0, 40, .inl ((va_up v_items 3 u2_items_i3) 2))), (r_items 4, .inl (cy 0, 40, .inl ((va_up v_items 3 u2_items_i3) 4))), (r_items 5, .inl (cy 0, 40, .inl ((va_up v_items 3 u2_items_i3) 5))), (r_items 6, .inl (cy 0, 40, .inl ((va_up v_items 3 u2_items_i3) 6))), (r_items 7, .inl (cy 0, 40, .inl ((va_up v_items 3 u2_items_i3) 7))), (r_items 3, .inl (cy 0, 40, .inl ((va_up v_items 3 u2_items_i3) 3)))] H := hP
  have hD : va_D A [(h_this, .inr (3, [.ref h_items, .ref h_lanes, .ref h_sizes])), (h_items, .inl (cy 5, 8, .inr (.inr (.inr (.inr (rO r_items)))))), (h_lanes, .inl (cy 0, 8, .inl (upd v_lanes 3 p1))), (h_sizes, .inl (cy 0, 8, .inl (upd v_sizes 3 p2))), (r_items 0, .inl (cy 0, 40, .inl ((va_up v_items 3 u2_items_i3) 0))), (r_items 1, .inl (cy 0, 40, .inl ((va_up v_items 3 u2_items_i3) 1))), (r_items 2, .inl (cy 0, 40, .inl ((va_up v_items 3 u2_items_i3) 2))), (r_items 4, .inl (cy 0, 40, .inl ((va_up v_items 3 u2_items_i3) 4))), (r_items 5, .inl (cy 0, 40, .inl ((va_up v_items 3 u2_items_i3) 5))), (r_items 6, .inl (cy 0, 40, .inl ((va_up v_items 3 u2_items_i3) 6))), (r_items 7, .inl (cy 0, 40, .inl ((va_up v_items 3 u2_items_i3) 7))), (r_items 3, .inl (cy 0, 40, .inl ((va_up v_items 3 u2_items_i3) 3)))] := hD
  have hP : va_P D CL [(h_this, .inr (3, [.ref h_items, .ref h_lanes, .ref h_sizes])), (h_items, .inl (cy 5, 8, .inr (.inr (.inr (.inr (rO r_items)))))), (h_lanes, .inl (cy 0, 8, .inl (upd v_lanes 3 p1))), (h_sizes, .inl (cy 0, 8, .inl (upd v_sizes 3 p2))), (r_items 0, .inl (cy 0, 40, .inl ((va_up v_items 3 u2_items_i3) 0))), (r_items 1, .inl (cy 0, 40, .inl ((va_up v_items 3 u2_items_i3) 1))), (r_items 2, .inl (cy 0, 40, .inl ((va_up v_items 3 u2_items_i3) 2))), (r_items 3, .inl (cy 0, 40, .inl ((va_up v_items 3 u2_items_i3) 3))), (r_items 4, .inl (cy 0, 40, .inl ((va_up v_items 3 u2_items_i3) 4))), (r_items 5, .inl (cy 0, 40, .inl ((va_up v_items 3 u2_items_i3) 5))), (r_items 6, .inl (cy 0, 40, .inl ((va_up v_items 3 u2_items_i3) 6))), (r_items 7, .inl (cy 0, 40, .inl ((va_up v_items 3 u2_items_i3) 7)))] H := (hP.sub [0, 1, 2, 3, 4, 5, 6, 11, 7, 8, 9, 10] rfl)
  have hD : va_D A [(h_this, .inr (3, [.ref h_items, .ref h_lanes, .ref h_sizes])), (h_items, .inl (cy 5, 8, .inr (.inr (.inr (.inr (rO r_items)))))), (h_lanes, .inl (cy 0, 8, .inl (upd v_lanes 3 p1))), (h_sizes, .inl (cy 0, 8, .inl (upd v_sizes 3 p2))), (r_items 0, .inl (cy 0, 40, .inl ((va_up v_items 3 u2_items_i3) 0))), (r_items 1, .inl (cy 0, 40, .inl ((va_up v_items 3 u2_items_i3) 1))), (r_items 2, .inl (cy 0, 40, .inl ((va_up v_items 3 u2_items_i3) 2))), (r_items 3, .inl (cy 0, 40, .inl ((va_up v_items 3 u2_items_i3) 3))), (r_items 4, .inl (cy 0, 40, .inl ((va_up v_items 3 u2_items_i3) 4))), (r_items 5, .inl (cy 0, 40, .inl ((va_up v_items 3 u2_items_i3) 5))), (r_items 6, .inl (cy 0, 40, .inl ((va_up v_items 3 u2_items_i3) 6))), (r_items 7, .inl (cy 0, 40, .inl ((va_up v_items 3 u2_items_i3) 7)))] := (hD.sub [0, 1, 2, 3, 4, 5, 6, 11, 7, 8, 9, 10] (by decide) rfl)
  exact rt_v C hQ rfl hP hD hS ⟨(va_up v_items 3 u2_items_i3), (upd v_lanes 3 p1), (upd v_sizes 3 p2), rfl, hF⟩ dX4_lay_24

def wjX4_put_r3_33 (v_lanes : Nat → Int32) (post : Int32 → (Nat → Nat → Int32) → Prop) (l2 : Int32) (l4 : Int32) (w_items : Nat → Nat → Int32) : Prop := vp_in l2 40 ∧ (post l4 (va_up w_items 3 (upd (w_items 3) ((l2).toNatClampNeg) l4)))
def wpX4_put_r3 (p1 : Int32) (p2 : Int32) (v_lanes : Nat → Int32) (v_items : Nat → Nat → Int32) (post : Int32 → (Nat → Nat → Int32) → Prop) : Prop := (¬ (v_lanes 3) = 0 → ((¬ (v_lanes 3) = 1 → (wjX4_put_r3_33 v_lanes post p1 p2 v_items)) ∧ ((v_lanes 3) = 1 → (wjX4_put_r3_33 v_lanes post p1 ((p2).toInt16.toInt32) v_items)))) ∧ ((v_lanes 3) = 0 → (wjX4_put_r3_33 v_lanes post p1 ((p2).toInt8.toInt32) v_items))
abbrev rmX4_put_r3 : Room := { frames := 0, cells := 0, slots := 0, locals := 0 }
set_option maxHeartbeats 4000000 in
set_option maxRecDepth 100000 in
theorem ccX4_put_r3 (l : Launch) (D : va_G) (cy : Nat → ClassId) (h_this : Nat) (h_lanes : Nat) (h_items : Nat) (r_items : Nat → Nat) (x_sizes : Value) (v_lanes : Nat → Int32) (v_items : Nat → Nat → Int32) (p1 : Int32) (p2 : Int32) (post : Int32 → (Nat → Nat → Int32) → Prop) (hF : wpX4_put_r3 p1 p2 v_lanes v_items post) : Ct l D cy miX4_put rmX4_put_r3 emI NP [.ref h_this, .int 3, .int p1, .int p2] [(h_this, .inr (3, [.ref h_items, .ref h_lanes, x_sizes])), (h_lanes, .inl (cy 0, 8, .inl v_lanes)), (h_items, .inl (cy 5, 8, .inr (.inr (.inr (.inr (rO r_items)))))), (r_items 0, .inl (cy 0, 40, .inl (v_items 0))), (r_items 1, .inl (cy 0, 40, .inl (v_items 1))), (r_items 2, .inl (cy 0, 40, .inl (v_items 2))), (r_items 3, .inl (cy 0, 40, .inl (v_items 3))), (r_items 4, .inl (cy 0, 40, .inl (v_items 4))), (r_items 5, .inl (cy 0, 40, .inl (v_items 5))), (r_items 6, .inl (cy 0, 40, .inl (v_items 6))), (r_items 7, .inl (cy 0, 40, .inl (v_items 7)))] (fun r w1 => ∃ (w_items : Nat → Nat → Int32), w1 = [(h_this, .inr (3, [.ref h_items, .ref h_lanes, x_sizes])), (h_lanes, .inl (cy 0, 8, .inl v_lanes)), (h_items, .inl (cy 5, 8, .inr (.inr (.inr (.inr (rO r_items)))))), (r_items 0, .inl (cy 0, 40, .inl (w_items 0))), (r_items 1, .inl (cy 0, 40, .inl (w_items 1))), (r_items 2, .inl (cy 0, 40, .inl (w_items 2))), (r_items 3, .inl (cy 0, 40, .inl (w_items 3))), (r_items 4, .inl (cy 0, 40, .inl (w_items 4))), (r_items 5, .inl (cy 0, 40, .inl (w_items 5))), (r_items 6, .inl (cy 0, 40, .inl (w_items 6))), (r_items 7, .inl (cy 0, 40, .inl (w_items 7)))] ∧ post r w_items) := by
  refine Ct.of (by decide) (Nat.le_of_ble_eq_true rfl) ?_
  intro p e s m args below meth c A ls Q C hQ hA hI hP hD hS hl
  obtain ⟨hx, hb, hr, hml, hown, hts, hK, hlk, hnm⟩ := id C
  have hb : c.code = cX4_put := hb
  have hml : c.maxLocals = 5 := hml
  have hown : s.vm.findClass RX4 = some m.cls := hown
  have hl : lv_has ls 5 [(0, .ref h_this), (1, .int 3), (2, .int p1), (3, .int p2)] := hl
  have J_33 : ∀ (l2 : Int32) (l4 : Int32) (w_items : Nat → Nat → Int32) (H : Heap) (locs : List Loc) (ls : Array Slot), va_P D CL [(h_this, .inr (3, [.ref h_items, .ref h_lanes, x_sizes])), (h_lanes, .inl (cy 0, 8, .inl v_lanes)), (h_items, .inl (cy 5, 8, .inr (.inr (.inr (.inr (rO r_items)))))), (r_items 0, .inl (cy 0, 40, .inl (w_items 0))), (r_items 1, .inl (cy 0, 40, .inl (w_items 1))), (r_items 2, .inl (cy 0, 40, .inl (w_items 2))), (r_items 3, .inl (cy 0, 40, .inl (w_items 3))), (r_items 4, .inl (cy 0, 40, .inl (w_items 4))), (r_items 5, .inl (cy 0, 40, .inl (w_items 5))), (r_items 6, .inl (cy 0, 40, .inl (w_items 6))), (r_items 7, .inl (cy 0, 40, .inl (w_items 7)))] H → va_D A [(h_this, .inr (3, [.ref h_items, .ref h_lanes, x_sizes])), (h_lanes, .inl (cy 0, 8, .inl v_lanes)), (h_items, .inl (cy 5, 8, .inr (.inr (.inr (.inr (rO r_items)))))), (r_items 0, .inl (cy 0, 40, .inl (w_items 0))), (r_items 1, .inl (cy 0, 40, .inl (w_items 1))), (r_items 2, .inl (cy 0, 40, .inl (w_items 2))), (r_items 3, .inl (cy 0, 40, .inl (w_items 3))), (r_items 4, .inl (cy 0, 40, .inl (w_items 4))), (r_items 5, .inl (cy 0, 40, .inl (w_items 5))), (r_items 6, .inl (cy 0, 40, .inl (w_items 6))), (r_items 7, .inl (cy 0, 40, .inl (w_items 7)))] → va_S A s.heap H locs → lv_has ls 5 [(0, .ref h_this), (1, .int 3), (2, .int l2), (4, .int l4)] → wjX4_put_r3_33 v_lanes post l2 l4 w_items → W p l e rmX4_put_r3 s m args below meth c H locs 0 0 Q (F0 m 33 ls []) := by
    intro l2 l4 w_items H locs ls  hP hD hS hl hF
    unfold wjX4_put_r3_33 at hF
    refine lv_aload_n hx hb dX4_put_33 rfl (lv_at hl 0 rfl) ?_
    refine va_get (D := D) (ci := 3) (v := .ref h_items) (C := RX4) (T := TX4) (N := 3) hx hb hts inTX4 hown hK.1 hP 0 rfl rfl 0 (by decide) (hts _ t1_37) (fun _ h9 => h9) rfl dX4_put_34 ?_
    refine lv_iload_n hx hb dX4_put_37 rfl (lv_at hl 1 rfl) ?_
    refine s_aldg (j := 3) (y := r_items 3) hx hb hK.1 hP 2 5 rfl rfl (vi (by decide)) (by decide) rfl dX4_put_38 ?_
    refine lv_iload_n hx hb dX4_put_39 rfl (lv_at hl 2 rfl) ?_
    refine lv_iload hx hb dX4_put_40 (lv_at hl 3 rfl) ?_
    obtain ⟨hi1, hF⟩ := hF
    refine s_iast (j := (l2).toNatClampNeg) hx hb hK.1 hP hD hS 6 0 rfl rfl hi1 rfl dX4_put_42 (fun H locs hP hD hS => ?_)
    have hP : va_P D CL [(h_this, .inr (3, [.ref h_items, .ref h_lanes, x_sizes])), (h_lanes, .inl (cy 0, 8, .inl v_lanes)), (h_items, .inl (cy 5, 8, .inr (.inr (.inr (.inr (rO r_items)))))), (r_items 0, .inl (cy 0, 40, .inl ((va_up w_items 3 (upd (w_items 3) ((l2).toNatClampNeg) l4)) 0))), (r_items 1, .inl (cy 0, 40, .inl ((va_up w_items 3 (upd (w_items 3) ((l2).toNatClampNeg) l4)) 1))), (r_items 2, .inl (cy 0, 40, .inl ((va_up w_items 3 (upd (w_items 3) ((l2).toNatClampNeg) l4)) 2))), (r_items 3, .inl (cy 0, 40, .inl ((va_up w_items 3 (upd (w_items 3) ((l2).toNatClampNeg) l4)) 3))), (r_items 4, .inl (cy 0, 40, .inl ((va_up w_items 3 (upd (w_items 3) ((l2).toNatClampNeg) l4)) 4))), (r_items 5, .inl (cy 0, 40, .inl ((va_up w_items 3 (upd (w_items 3) ((l2).toNatClampNeg) l4)) 5))), (r_items 6, .inl (cy 0, 40, .inl ((va_up w_items 3 (upd (w_items 3) ((l2).toNatClampNeg) l4)) 6))), (r_items 7, .inl (cy 0, 40, .inl ((va_up w_items 3 (upd (w_items 3) ((l2).toNatClampNeg) l4)) 7)))] H := hP
    have hD : va_D A [(h_this, .inr (3, [.ref h_items, .ref h_lanes, x_sizes])), (h_lanes, .inl (cy 0, 8, .inl v_lanes)), (h_items, .inl (cy 5, 8, .inr (.inr (.inr (.inr (rO r_items)))))), (r_items 0, .inl (cy 0, 40, .inl ((va_up w_items 3 (upd (w_items 3) ((l2).toNatClampNeg) l4)) 0))), (r_items 1, .inl (cy 0, 40, .inl ((va_up w_items 3 (upd (w_items 3) ((l2).toNatClampNeg) l4)) 1))), (r_items 2, .inl (cy 0, 40, .inl ((va_up w_items 3 (upd (w_items 3) ((l2).toNatClampNeg) l4)) 2))), (r_items 3, .inl (cy 0, 40, .inl ((va_up w_items 3 (upd (w_items 3) ((l2).toNatClampNeg) l4)) 3))), (r_items 4, .inl (cy 0, 40, .inl ((va_up w_items 3 (upd (w_items 3) ((l2).toNatClampNeg) l4)) 4))), (r_items 5, .inl (cy 0, 40, .inl ((va_up w_items 3 (upd (w_items 3) ((l2).toNatClampNeg) l4)) 5))), (r_items 6, .inl (cy 0, 40, .inl ((va_up w_items 3 (upd (w_items 3) ((l2).toNatClampNeg) l4)) 6))), (r_items 7, .inl (cy 0, 40, .inl ((va_up w_items 3 (upd (w_items 3) ((l2).toNatClampNeg) l4)) 7)))] := hD
    refine lv_iload hx hb dX4_put_43 (lv_at hl 3 rfl) ?_
    exact rt_i C hQ rfl hP hD hS ⟨(va_up w_items 3 (upd (w_items 3) ((l2).toNatClampNeg) l4)), rfl, hF⟩ dX4_put_45
  unfold wpX4_put_r3 at hF
  refine lv_iload_n hx hb dX4_put_0 rfl (lv_at hl 3 rfl) ?_
  refine lv_istore (lv' := [(4, .int p2), (0, .ref h_this), (1, .int 3), (2, .int p1), (3, .int p2)]) hx hb dX4_put_1 hl (by decide) rfl (fun ls hl => ?_)
  refine lv_aload_n hx hb dX4_put_3 rfl (lv_at hl 1 rfl) ?_
  refine va_get (D := D) (ci := 3) (v := .ref h_lanes) (C := RX4) (T := TX4) (N := 3) hx hb hts inTX4 hown hK.1 hP 0 rfl rfl 1 (by decide) (hts _ t1_38) (fun _ h9 => h9) rfl dX4_put_4 ?_
  refine lv_iload_n hx hb dX4_put_7 rfl (lv_at hl 2 rfl) ?_
  refine s_iald (j := 3) hx hb hK.1 hP 1 0 rfl rfl (vi (by decide)) (by decide) dX4_put_8 ?_
  refine lv_if_ne (tgt := 19) hx hb dX4_put_9 (by decide) (fun c_ => ?_) (fun c_ => ?_)
  · have hF := hF.1 c_
    refine lv_aload_n hx hb dX4_put_19 rfl (lv_at hl 1 rfl) ?_
    refine va_get (D := D) (ci := 3) (v := .ref h_lanes) (C := RX4) (T := TX4) (N := 3) hx hb hts inTX4 hown hK.1 hP 0 rfl rfl 1 (by decide) (hts _ t1_38) (fun _ h9 => h9) rfl dX4_put_20 ?_
    refine lv_iload_n hx hb dX4_put_23 rfl (lv_at hl 2 rfl) ?_
    refine s_iald (j := 3) hx hb hK.1 hP 1 0 rfl rfl (vi (by decide)) (by decide) dX4_put_24 ?_
    refine lv_iconst (v := 1) hx hb dX4_put_25 (by decide) ?_
    refine lv_icmp_ne (tgt := 33) hx hb dX4_put_26 (by decide) (fun c_ => ?_) (fun c_ => ?_)
    · have hF := hF.1 c_
      exact J_33 p1 p2 v_items _ _ ls  hP hD hS (lv_sub hl [1, 2, 3, 0] rfl) hF
    · have hF := hF.2 c_
      refine lv_iload_n hx hb dX4_put_29 rfl (lv_at hl 4 rfl) ?_
      refine lv_i2s hx hb dX4_put_30 rfl ?_
      refine lv_istore (lv' := [(4, .int ((p2).toInt16.toInt32)), (0, .ref h_this), (1, .int 3), (2, .int p1), (3, .int p2)]) hx hb dX4_put_31 hl (by decide) rfl (fun ls hl => ?_)
      exact J_33 p1 ((p2).toInt16.toInt32) v_items _ _ ls  hP hD hS (lv_sub hl [1, 2, 3, 0] rfl) hF
  · have hF := hF.2 c_
    refine lv_iload_n hx hb dX4_put_12 rfl (lv_at hl 4 rfl) ?_
    refine lv_i2b hx hb dX4_put_13 rfl ?_
    refine lv_istore (lv' := [(4, .int ((p2).toInt8.toInt32)), (0, .ref h_this), (1, .int 3), (2, .int p1), (3, .int p2)]) hx hb dX4_put_14 hl (by decide) rfl (fun ls hl => ?_)
    refine lv_goto (tgt := 33) hx hb dX4_put_16 (by decide) ?_
    exact J_33 p1 ((p2).toInt8.toInt32) v_items _ _ ls  hP hD hS (lv_sub hl [1, 2, 3, 0] rfl) hF

def wpX4_itemAt_r4 (p1 : Int32) (v_items : Nat → Nat → Int32) (post : Int32 → Prop) : Prop := vp_in p1 40 ∧ (post ((v_items 4) ((p1).toNatClampNeg)))
abbrev rmX4_itemAt_r4 : Room := { frames := 0, cells := 0, slots := 0, locals := 0 }
set_option maxHeartbeats 4000000 in
set_option maxRecDepth 100000 in
theorem ccX4_itemAt_r4 (l : Launch) (D : va_G) (cy : Nat → ClassId) (h_this : Nat) (h_items : Nat) (r_items : Nat → Nat) (x_lanes : Value) (x_sizes : Value) (v_items : Nat → Nat → Int32) (p1 : Int32) (post : Int32 → Prop) (hF : wpX4_itemAt_r4 p1 v_items post) : Cr l D cy miX4_itemAt rmX4_itemAt_r4 emI NP [.ref h_this, .int 4, .int p1] [(h_this, .inr (3, [.ref h_items, x_lanes, x_sizes])), (h_items, .inl (cy 5, 8, .inr (.inr (.inr (.inr (rO r_items)))))), (r_items 0, .inl (cy 0, 40, .inl (v_items 0))), (r_items 1, .inl (cy 0, 40, .inl (v_items 1))), (r_items 2, .inl (cy 0, 40, .inl (v_items 2))), (r_items 3, .inl (cy 0, 40, .inl (v_items 3))), (r_items 4, .inl (cy 0, 40, .inl (v_items 4))), (r_items 5, .inl (cy 0, 40, .inl (v_items 5))), (r_items 6, .inl (cy 0, 40, .inl (v_items 6))), (r_items 7, .inl (cy 0, 40, .inl (v_items 7)))] post := by
  refine Cr.of (by decide) (Nat.le_of_ble_eq_true rfl) ?_
  intro p e s m args below meth c ls Q C hQ hO hP hl
  obtain ⟨hx, hb, hr, hml, hown, hts, hK, hlk, hnm⟩ := id C
  have hb : c.code = cX4_itemAt := hb
  have hml : c.maxLocals = 3 := hml
  have hown : s.vm.findClass RX4 = some m.cls := hown
  have hl : lv_has ls 3 [(0, .ref h_this), (1, .int 4), (2, .int p1)] := hl
  unfold wpX4_itemAt_r4 at hF
  refine lv_aload_n hx hb dX4_itemAt_0 rfl (lv_at hl 0 rfl) ?_
  refine va_get (D := D) (ci := 3) (v := .ref h_items) (C := RX4) (T := TX4) (N := 3) hx hb hts inTX4 hown hK.1 hP 0 rfl rfl 0 (by decide) (hts _ t1_37) (fun _ h9 => h9) rfl dX4_itemAt_1 ?_
  refine lv_iload_n hx hb dX4_itemAt_4 rfl (lv_at hl 1 rfl) ?_
  refine s_aldg (j := 4) (y := r_items 4) hx hb hK.1 hP 1 5 rfl rfl (vi (by decide)) (by decide) rfl dX4_itemAt_5 ?_
  refine lv_iload_n hx hb dX4_itemAt_6 rfl (lv_at hl 2 rfl) ?_
  obtain ⟨hi1, hF⟩ := hF
  refine s_iald (j := (p1).toNatClampNeg) hx hb hK.1 hP 6 0 rfl rfl hi1 rfl dX4_itemAt_7 ?_
  exact rr_i C hQ rfl hF dX4_itemAt_8

def wpX4_lay_r4 (p1 : Int32) (p2 : Int32) (v_items : Nat → Nat → Int32) (v_lanes : Nat → Int32) (v_sizes : Nat → Int32) (post : Unit → (Nat → Nat → Int32) → (Nat → Int32) → (Nat → Int32) → Prop) : Prop := wp_fillI 40 0 (v_items 4) (fun _ u2_items_i4 => post () (va_up v_items 4 u2_items_i4) (upd v_lanes 4 p1) (upd v_sizes 4 p2))
abbrev rmX4_lay_r4 : Room := { frames := 1, cells := 0, slots := 0, locals := 23 }
set_option maxHeartbeats 4000000 in
set_option maxRecDepth 100000 in
theorem ccX4_lay_r4 (l : Launch) (D : va_G) (cy : Nat → ClassId) (h_this : Nat) (h_items : Nat) (h_lanes : Nat) (h_sizes : Nat) (r_items : Nat → Nat) (v_items : Nat → Nat → Int32) (v_lanes : Nat → Int32) (v_sizes : Nat → Int32) (p1 : Int32) (p2 : Int32) (post : Unit → (Nat → Nat → Int32) → (Nat → Int32) → (Nat → Int32) → Prop) (hF : wpX4_lay_r4 p1 p2 v_items v_lanes v_sizes post) : Ct l D cy miX4_lay rmX4_lay_r4 emV NP [.ref h_this, .int 4, .int p1, .int p2] [(h_this, .inr (3, [.ref h_items, .ref h_lanes, .ref h_sizes])), (h_items, .inl (cy 5, 8, .inr (.inr (.inr (.inr (rO r_items)))))), (h_lanes, .inl (cy 0, 8, .inl v_lanes)), (h_sizes, .inl (cy 0, 8, .inl v_sizes)), (r_items 0, .inl (cy 0, 40, .inl (v_items 0))), (r_items 1, .inl (cy 0, 40, .inl (v_items 1))), (r_items 2, .inl (cy 0, 40, .inl (v_items 2))), (r_items 3, .inl (cy 0, 40, .inl (v_items 3))), (r_items 4, .inl (cy 0, 40, .inl (v_items 4))), (r_items 5, .inl (cy 0, 40, .inl (v_items 5))), (r_items 6, .inl (cy 0, 40, .inl (v_items 6))), (r_items 7, .inl (cy 0, 40, .inl (v_items 7)))] (fun r w1 => ∃ (w_items : Nat → Nat → Int32) (w_lanes : Nat → Int32) (w_sizes : Nat → Int32), w1 = [(h_this, .inr (3, [.ref h_items, .ref h_lanes, .ref h_sizes])), (h_items, .inl (cy 5, 8, .inr (.inr (.inr (.inr (rO r_items)))))), (h_lanes, .inl (cy 0, 8, .inl w_lanes)), (h_sizes, .inl (cy 0, 8, .inl w_sizes)), (r_items 0, .inl (cy 0, 40, .inl (w_items 0))), (r_items 1, .inl (cy 0, 40, .inl (w_items 1))), (r_items 2, .inl (cy 0, 40, .inl (w_items 2))), (r_items 3, .inl (cy 0, 40, .inl (w_items 3))), (r_items 4, .inl (cy 0, 40, .inl (w_items 4))), (r_items 5, .inl (cy 0, 40, .inl (w_items 5))), (r_items 6, .inl (cy 0, 40, .inl (w_items 6))), (r_items 7, .inl (cy 0, 40, .inl (w_items 7)))] ∧ post r w_items w_lanes w_sizes) := by
  refine Ct.of (by decide) (Nat.le_of_ble_eq_true rfl) ?_
  intro p e s m args below meth c A ls Q C hQ hA hI hP hD hS hl
  obtain ⟨hx, hb, hr, hml, hown, hts, hK, hlk, hnm⟩ := id C
  have hb : c.code = cX4_lay := hb
  have hml : c.maxLocals = 4 := hml
  have hown : s.vm.findClass RX4 = some m.cls := hown
  have hl : lv_has ls 4 [(0, .ref h_this), (1, .int 4), (2, .int p1), (3, .int p2)] := hl
  unfold wpX4_lay_r4 at hF
  refine lv_aload_n hx hb dX4_lay_0 rfl (lv_at hl 0 rfl) ?_
  refine va_get (D := D) (ci := 3) (v := .ref h_items) (C := RX4) (T := TX4) (N := 3) hx hb hts inTX4 hown hK.1 hP 0 rfl rfl 0 (by decide) (hts _ t1_37) (fun _ h9 => h9) rfl dX4_lay_1 ?_
  refine lv_iload_n hx hb dX4_lay_4 rfl (lv_at hl 1 rfl) ?_
  refine s_aldg (j := 4) (y := r_items 4) hx hb hK.1 hP 1 5 rfl rfl (vi (by decide)) (by decide) rfl dX4_lay_5 ?_
  refine lv_iconst (v := 0) hx hb dX4_lay_6 (by decide) ?_
  refine cS_t (As := [.ref (r_items 4), .int 0]) (wr := [(h_this, .inr (3, [.ref h_items, .ref h_lanes, .ref h_sizes])), (h_items, .inl (cy 5, 8, .inr (.inr (.inr (.inr (rO r_items)))))), (h_lanes, .inl (cy 0, 8, .inl v_lanes)), (h_sizes, .inl (cy 0, 8, .inl v_sizes)), (r_items 0, .inl (cy 0, 40, .inl (v_items 0))), (r_items 1, .inl (cy 0, 40, .inl (v_items 1))), (r_items 2, .inl (cy 0, 40, .inl (v_items 2))), (r_items 3, .inl (cy 0, 40, .inl (v_items 3))), (r_items 5, .inl (cy 0, 40, .inl (v_items 5))), (r_items 6, .inl (cy 0, 40, .inl (v_items 6))), (r_items 7, .inl (cy 0, 40, .inl (v_items 7)))]) C hA hP hD hS mfJ7_fill_53178 t1_35 t1_34 (c_fillI l D cy 40 (by decide) (r_items 4) (v_items 4) 0 _ hF) [8] [0, 1, 2, 3, 4, 5, 6, 7, 9, 10, 11] rfl rfl (by decide) (by decide) (by decide) PO.np rfl hl.1 rfl (Nat.le_of_ble_eq_true rfl) dX4_lay_7 ⟨Nat.le_of_ble_eq_true rfl, Nat.le_of_ble_eq_true rfl⟩ ⟨Nat.le_of_ble_eq_true rfl, Nat.le_of_ble_eq_true rfl⟩ ?_
  rintro ⟨⟩ w1 H locs ⟨u2_items_i4, rfl, hF⟩ hP hD hS
  have hP : va_P D CL [(h_this, .inr (3, [.ref h_items, .ref h_lanes, .ref h_sizes])), (h_items, .inl (cy 5, 8, .inr (.inr (.inr (.inr (rO r_items)))))), (h_lanes, .inl (cy 0, 8, .inl v_lanes)), (h_sizes, .inl (cy 0, 8, .inl v_sizes)), (r_items 0, .inl (cy 0, 40, .inl ((va_up v_items 4 u2_items_i4) 0))), (r_items 1, .inl (cy 0, 40, .inl ((va_up v_items 4 u2_items_i4) 1))), (r_items 2, .inl (cy 0, 40, .inl ((va_up v_items 4 u2_items_i4) 2))), (r_items 3, .inl (cy 0, 40, .inl ((va_up v_items 4 u2_items_i4) 3))), (r_items 5, .inl (cy 0, 40, .inl ((va_up v_items 4 u2_items_i4) 5))), (r_items 6, .inl (cy 0, 40, .inl ((va_up v_items 4 u2_items_i4) 6))), (r_items 7, .inl (cy 0, 40, .inl ((va_up v_items 4 u2_items_i4) 7))), (r_items 4, .inl (cy 0, 40, .inl ((va_up v_items 4 u2_items_i4) 4)))] H := hP
  have hD : va_D A [(h_this, .inr (3, [.ref h_items, .ref h_lanes, .ref h_sizes])), (h_items, .inl (cy 5, 8, .inr (.inr (.inr (.inr (rO r_items)))))), (h_lanes, .inl (cy 0, 8, .inl v_lanes)), (h_sizes, .inl (cy 0, 8, .inl v_sizes)), (r_items 0, .inl (cy 0, 40, .inl ((va_up v_items 4 u2_items_i4) 0))), (r_items 1, .inl (cy 0, 40, .inl ((va_up v_items 4 u2_items_i4) 1))), (r_items 2, .inl (cy 0, 40, .inl ((va_up v_items 4 u2_items_i4) 2))), (r_items 3, .inl (cy 0, 40, .inl ((va_up v_items 4 u2_items_i4) 3))), (r_items 5, .inl (cy 0, 40, .inl ((va_up v_items 4 u2_items_i4) 5))), (r_items 6, .inl (cy 0, 40, .inl ((va_up v_items 4 u2_items_i4) 6))), (r_items 7, .inl (cy 0, 40, .inl ((va_up v_items 4 u2_items_i4) 7))), (r_items 4, .inl (cy 0, 40, .inl ((va_up v_items 4 u2_items_i4) 4)))] := hD
  refine W.eq (g2 := F0 m 10 ls []) rfl ?_
  refine lv_aload_n hx hb dX4_lay_10 rfl (lv_at hl 0 rfl) ?_
  refine va_get (D := D) (ci := 3) (v := .ref h_lanes) (C := RX4) (T := TX4) (N := 3) hx hb hts inTX4 hown hK.1 hP 0 rfl rfl 1 (by decide) (hts _ t1_38) (fun _ h9 => h9) rfl dX4_lay_11 ?_
  refine lv_iload_n hx hb dX4_lay_14 rfl (lv_at hl 1 rfl) ?_
  refine lv_iload_n hx hb dX4_lay_15 rfl (lv_at hl 2 rfl) ?_
  refine s_iast (j := 4) hx hb hK.1 hP hD hS 2 0 rfl rfl (vi (by decide)) (by decide) dX4_lay_16 (fun H locs hP hD hS => ?_)
  have hP : va_P D CL [(h_this, .inr (3, [.ref h_items, .ref h_lanes, .ref h_sizes])), (h_items, .inl (cy 5, 8, .inr (.inr (.inr (.inr (rO r_items)))))), (h_lanes, .inl (cy 0, 8, .inl (upd v_lanes 4 p1))), (h_sizes, .inl (cy 0, 8, .inl v_sizes)), (r_items 0, .inl (cy 0, 40, .inl ((va_up v_items 4 u2_items_i4) 0))), (r_items 1, .inl (cy 0, 40, .inl ((va_up v_items 4 u2_items_i4) 1))), (r_items 2, .inl (cy 0, 40, .inl ((va_up v_items 4 u2_items_i4) 2))), (r_items 3, .inl (cy 0, 40, .inl ((va_up v_items 4 u2_items_i4) 3))), (r_items 5, .inl (cy 0, 40, .inl ((va_up v_items 4 u2_items_i4) 5))), (r_items 6, .inl (cy 0, 40, .inl ((va_up v_items 4 u2_items_i4) 6))), (r_items 7, .inl (cy 0, 40, .inl ((va_up v_items 4 u2_items_i4) 7))), (r_items 4, .inl (cy 0, 40, .inl ((va_up v_items 4 u2_items_i4) 4)))] H := hP
  have hD : va_D A [(h_this, .inr (3, [.ref h_items, .ref h_lanes, .ref h_sizes])), (h_items, .inl (cy 5, 8, .inr (.inr (.inr (.inr (rO r_items)))))), (h_lanes, .inl (cy 0, 8, .inl (upd v_lanes 4 p1))), (h_sizes, .inl (cy 0, 8, .inl v_sizes)), (r_items 0, .inl (cy 0, 40, .inl ((va_up v_items 4 u2_items_i4) 0))), (r_items 1, .inl (cy 0, 40, .inl ((va_up v_items 4 u2_items_i4) 1))), (r_items 2, .inl (cy 0, 40, .inl ((va_up v_items 4 u2_items_i4) 2))), (r_items 3, .inl (cy 0, 40, .inl ((va_up v_items 4 u2_items_i4) 3))), (r_items 5, .inl (cy 0, 40, .inl ((va_up v_items 4 u2_items_i4) 5))), (r_items 6, .inl (cy 0, 40, .inl ((va_up v_items 4 u2_items_i4) 6))), (r_items 7, .inl (cy 0, 40, .inl ((va_up v_items 4 u2_items_i4) 7))), (r_items 4, .inl (cy 0, 40, .inl ((va_up v_items 4 u2_items_i4) 4)))] := hD
  refine lv_aload_n hx hb dX4_lay_17 rfl (lv_at hl 0 rfl) ?_
  refine va_get (D := D) (ci := 3) (v := .ref h_sizes) (C := RX4) (T := TX4) (N := 3) hx hb hts inTX4 hown hK.1 hP 0 rfl rfl 2 (by decide) (hts _ t1_39) (fun _ h9 => h9) rfl dX4_lay_18 ?_
  refine lv_iload_n hx hb dX4_lay_21 rfl (lv_at hl 1 rfl) ?_
  refine lv_iload_n hx hb dX4_lay_22 rfl (lv_at hl 3 rfl) ?_
  refine s_iast (j := 4) hx hb hK.1 hP hD hS 3 0 rfl rfl (vi (by decide)) (by decide) dX4_lay_23 (fun H locs hP hD hS => ?_)
  have hP : va_P D CL [(h_this, .inr (3, [.ref h_items, .ref h_lanes, .ref h_sizes])), (h_items, .inl (cy 5, 8, .inr (.inr (.inr (.inr (rO r_items)))))), (h_lanes, .inl (cy 0, 8, .inl (upd v_lanes 4 p1))), (h_sizes, .inl (cy 0, 8, .inl (upd v_sizes 4 p2))), (r_items 0, .inl (cy 0, 40, .inl ((va_up v_items 4 u2_items_i4) 0))), (r_items 1, .inl (cy 0, 40, .inl ((va_up v_items 4 u2_items_i4) 1))), (r_items 2, .inl (cy 0, 40, .inl ((va_up v_items 4 u2_items_i4) 2))), (r_items 3, .inl (cy 0, 40, .inl ((va_up v_items 4 u2_items_i4) 3))), (r_items 5, .inl (cy 0, 40, .inl ((va_up v_items 4 u2_items_i4) 5))), (r_items 6, .inl (cy 0, 40, .inl ((va_up v_items 4 u2_items_i4) 6))), (r_items 7, .inl (cy 0, 40, .inl ((va_up v_items 4 u2_items_i4) 7))), (r_items 4, .inl (cy 0, 40, .inl ((va_up v_items 4 u2_items_i4) 4)))] H := hP
  have hD : va_D A [(h_this, .inr (3, [.ref h_items, .ref h_lanes, .ref h_sizes])), (h_items, .inl (cy 5, 8, .inr (.inr (.inr (.inr (rO r_items)))))), (h_lanes, .inl (cy 0, 8, .inl (upd v_lanes 4 p1))), (h_sizes, .inl (cy 0, 8, .inl (upd v_sizes 4 p2))), (r_items 0, .inl (cy 0, 40, .inl ((va_up v_items 4 u2_items_i4) 0))), (r_items 1, .inl (cy 0, 40, .inl ((va_up v_items 4 u2_items_i4) 1))), (r_items 2, .inl (cy 0, 40, .inl ((va_up v_items 4 u2_items_i4) 2))), (r_items 3, .inl (cy 0, 40, .inl ((va_up v_items 4 u2_items_i4) 3))), (r_items 5, .inl (cy 0, 40, .inl ((va_up v_items 4 u2_items_i4) 5))), (r_items 6, .inl (cy 0, 40, .inl ((va_up v_items 4 u2_items_i4) 6))), (r_items 7, .inl (cy 0, 40, .inl ((va_up v_items 4 u2_items_i4) 7))), (r_items 4, .inl (cy 0, 40, .inl ((va_up v_items 4 u2_items_i4) 4)))] := hD
  have hP : va_P D CL [(h_this, .inr (3, [.ref h_items, .ref h_lanes, .ref h_sizes])), (h_items, .inl (cy 5, 8, .inr (.inr (.inr (.inr (rO r_items)))))), (h_lanes, .inl (cy 0, 8, .inl (upd v_lanes 4 p1))), (h_sizes, .inl (cy 0, 8, .inl (upd v_sizes 4 p2))), (r_items 0, .inl (cy 0, 40, .inl ((va_up v_items 4 u2_items_i4) 0))), (r_items 1, .inl (cy 0, 40, .inl ((va_up v_items 4 u2_items_i4) 1))), (r_items 2, .inl (cy 0, 40, .inl ((va_up v_items 4 u2_items_i4) 2))), (r_items 3, .inl (cy 0, 40, .inl ((va_up v_items 4 u2_items_i4) 3))), (r_items 4, .inl (cy 0, 40, .inl ((va_up v_items 4 u2_items_i4) 4))), (r_items 5, .inl (cy 0, 40, .inl ((va_up v_items 4 u2_items_i4) 5))), (r_items 6, .inl (cy 0, 40, .inl ((va_up v_items 4 u2_items_i4) 6))), (r_items 7, .inl (cy 0, 40, .inl ((va_up v_items 4 u2_items_i4) 7)))] H := (hP.sub [0, 1, 2, 3, 4, 5, 6, 7, 11, 8, 9, 10] rfl)
  have hD : va_D A [(h_this, .inr (3, [.ref h_items, .ref h_lanes, .ref h_sizes])), (h_items, .inl (cy 5, 8, .inr (.inr (.inr (.inr (rO r_items)))))), (h_lanes, .inl (cy 0, 8, .inl (upd v_lanes 4 p1))), (h_sizes, .inl (cy 0, 8, .inl (upd v_sizes 4 p2))), (r_items 0, .inl (cy 0, 40, .inl ((va_up v_items 4 u2_items_i4) 0))), (r_items 1, .inl (cy 0, 40, .inl ((va_up v_items 4 u2_items_i4) 1))), (r_items 2, .inl (cy 0, 40, .inl ((va_up v_items 4 u2_items_i4) 2))), (r_items 3, .inl (cy 0, 40, .inl ((va_up v_items 4 u2_items_i4) 3))), (r_items 4, .inl (cy 0, 40, .inl ((va_up v_items 4 u2_items_i4) 4))), (r_items 5, .inl (cy 0, 40, .inl ((va_up v_items 4 u2_items_i4) 5))), (r_items 6, .inl (cy 0, 40, .inl ((va_up v_items 4 u2_items_i4) 6))), (r_items 7, .inl (cy 0, 40, .inl ((va_up v_items 4 u2_items_i4) 7)))] := (hD.sub [0, 1, 2, 3, 4, 5, 6, 7, 11, 8, 9, 10] (by decide) rfl)
  exact rt_v C hQ rfl hP hD hS ⟨(va_up v_items 4 u2_items_i4), (upd v_lanes 4 p1), (upd v_sizes 4 p2), rfl, hF⟩ dX4_lay_24

def wjX4_put_r4_33 (v_lanes : Nat → Int32) (post : Int32 → (Nat → Nat → Int32) → Prop) (l2 : Int32) (l4 : Int32) (w_items : Nat → Nat → Int32) : Prop := vp_in l2 40 ∧ (post l4 (va_up w_items 4 (upd (w_items 4) ((l2).toNatClampNeg) l4)))
def wpX4_put_r4 (p1 : Int32) (p2 : Int32) (v_lanes : Nat → Int32) (v_items : Nat → Nat → Int32) (post : Int32 → (Nat → Nat → Int32) → Prop) : Prop := (¬ (v_lanes 4) = 0 → ((¬ (v_lanes 4) = 1 → (wjX4_put_r4_33 v_lanes post p1 p2 v_items)) ∧ ((v_lanes 4) = 1 → (wjX4_put_r4_33 v_lanes post p1 ((p2).toInt16.toInt32) v_items)))) ∧ ((v_lanes 4) = 0 → (wjX4_put_r4_33 v_lanes post p1 ((p2).toInt8.toInt32) v_items))
abbrev rmX4_put_r4 : Room := { frames := 0, cells := 0, slots := 0, locals := 0 }
set_option maxHeartbeats 4000000 in
set_option maxRecDepth 100000 in
theorem ccX4_put_r4 (l : Launch) (D : va_G) (cy : Nat → ClassId) (h_this : Nat) (h_lanes : Nat) (h_items : Nat) (r_items : Nat → Nat) (x_sizes : Value) (v_lanes : Nat → Int32) (v_items : Nat → Nat → Int32) (p1 : Int32) (p2 : Int32) (post : Int32 → (Nat → Nat → Int32) → Prop) (hF : wpX4_put_r4 p1 p2 v_lanes v_items post) : Ct l D cy miX4_put rmX4_put_r4 emI NP [.ref h_this, .int 4, .int p1, .int p2] [(h_this, .inr (3, [.ref h_items, .ref h_lanes, x_sizes])), (h_lanes, .inl (cy 0, 8, .inl v_lanes)), (h_items, .inl (cy 5, 8, .inr (.inr (.inr (.inr (rO r_items)))))), (r_items 0, .inl (cy 0, 40, .inl (v_items 0))), (r_items 1, .inl (cy 0, 40, .inl (v_items 1))), (r_items 2, .inl (cy 0, 40, .inl (v_items 2))), (r_items 3, .inl (cy 0, 40, .inl (v_items 3))), (r_items 4, .inl (cy 0, 40, .inl (v_items 4))), (r_items 5, .inl (cy 0, 40, .inl (v_items 5))), (r_items 6, .inl (cy 0, 40, .inl (v_items 6))), (r_items 7, .inl (cy 0, 40, .inl (v_items 7)))] (fun r w1 => ∃ (w_items : Nat → Nat → Int32), w1 = [(h_this, .inr (3, [.ref h_items, .ref h_lanes, x_sizes])), (h_lanes, .inl (cy 0, 8, .inl v_lanes)), (h_items, .inl (cy 5, 8, .inr (.inr (.inr (.inr (rO r_items)))))), (r_items 0, .inl (cy 0, 40, .inl (w_items 0))), (r_items 1, .inl (cy 0, 40, .inl (w_items 1))), (r_items 2, .inl (cy 0, 40, .inl (w_items 2))), (r_items 3, .inl (cy 0, 40, .inl (w_items 3))), (r_items 4, .inl (cy 0, 40, .inl (w_items 4))), (r_items 5, .inl (cy 0, 40, .inl (w_items 5))), (r_items 6, .inl (cy 0, 40, .inl (w_items 6))), (r_items 7, .inl (cy 0, 40, .inl (w_items 7)))] ∧ post r w_items) := by
  refine Ct.of (by decide) (Nat.le_of_ble_eq_true rfl) ?_
  intro p e s m args below meth c A ls Q C hQ hA hI hP hD hS hl
  obtain ⟨hx, hb, hr, hml, hown, hts, hK, hlk, hnm⟩ := id C
  have hb : c.code = cX4_put := hb
  have hml : c.maxLocals = 5 := hml
  have hown : s.vm.findClass RX4 = some m.cls := hown
  have hl : lv_has ls 5 [(0, .ref h_this), (1, .int 4), (2, .int p1), (3, .int p2)] := hl
  have J_33 : ∀ (l2 : Int32) (l4 : Int32) (w_items : Nat → Nat → Int32) (H : Heap) (locs : List Loc) (ls : Array Slot), va_P D CL [(h_this, .inr (3, [.ref h_items, .ref h_lanes, x_sizes])), (h_lanes, .inl (cy 0, 8, .inl v_lanes)), (h_items, .inl (cy 5, 8, .inr (.inr (.inr (.inr (rO r_items)))))), (r_items 0, .inl (cy 0, 40, .inl (w_items 0))), (r_items 1, .inl (cy 0, 40, .inl (w_items 1))), (r_items 2, .inl (cy 0, 40, .inl (w_items 2))), (r_items 3, .inl (cy 0, 40, .inl (w_items 3))), (r_items 4, .inl (cy 0, 40, .inl (w_items 4))), (r_items 5, .inl (cy 0, 40, .inl (w_items 5))), (r_items 6, .inl (cy 0, 40, .inl (w_items 6))), (r_items 7, .inl (cy 0, 40, .inl (w_items 7)))] H → va_D A [(h_this, .inr (3, [.ref h_items, .ref h_lanes, x_sizes])), (h_lanes, .inl (cy 0, 8, .inl v_lanes)), (h_items, .inl (cy 5, 8, .inr (.inr (.inr (.inr (rO r_items)))))), (r_items 0, .inl (cy 0, 40, .inl (w_items 0))), (r_items 1, .inl (cy 0, 40, .inl (w_items 1))), (r_items 2, .inl (cy 0, 40, .inl (w_items 2))), (r_items 3, .inl (cy 0, 40, .inl (w_items 3))), (r_items 4, .inl (cy 0, 40, .inl (w_items 4))), (r_items 5, .inl (cy 0, 40, .inl (w_items 5))), (r_items 6, .inl (cy 0, 40, .inl (w_items 6))), (r_items 7, .inl (cy 0, 40, .inl (w_items 7)))] → va_S A s.heap H locs → lv_has ls 5 [(0, .ref h_this), (1, .int 4), (2, .int l2), (4, .int l4)] → wjX4_put_r4_33 v_lanes post l2 l4 w_items → W p l e rmX4_put_r4 s m args below meth c H locs 0 0 Q (F0 m 33 ls []) := by
    intro l2 l4 w_items H locs ls  hP hD hS hl hF
    unfold wjX4_put_r4_33 at hF
    refine lv_aload_n hx hb dX4_put_33 rfl (lv_at hl 0 rfl) ?_
    refine va_get (D := D) (ci := 3) (v := .ref h_items) (C := RX4) (T := TX4) (N := 3) hx hb hts inTX4 hown hK.1 hP 0 rfl rfl 0 (by decide) (hts _ t1_37) (fun _ h9 => h9) rfl dX4_put_34 ?_
    refine lv_iload_n hx hb dX4_put_37 rfl (lv_at hl 1 rfl) ?_
    refine s_aldg (j := 4) (y := r_items 4) hx hb hK.1 hP 2 5 rfl rfl (vi (by decide)) (by decide) rfl dX4_put_38 ?_
    refine lv_iload_n hx hb dX4_put_39 rfl (lv_at hl 2 rfl) ?_
    refine lv_iload hx hb dX4_put_40 (lv_at hl 3 rfl) ?_
    obtain ⟨hi1, hF⟩ := hF
    refine s_iast (j := (l2).toNatClampNeg) hx hb hK.1 hP hD hS 7 0 rfl rfl hi1 rfl dX4_put_42 (fun H locs hP hD hS => ?_)
    have hP : va_P D CL [(h_this, .inr (3, [.ref h_items, .ref h_lanes, x_sizes])), (h_lanes, .inl (cy 0, 8, .inl v_lanes)), (h_items, .inl (cy 5, 8, .inr (.inr (.inr (.inr (rO r_items)))))), (r_items 0, .inl (cy 0, 40, .inl ((va_up w_items 4 (upd (w_items 4) ((l2).toNatClampNeg) l4)) 0))), (r_items 1, .inl (cy 0, 40, .inl ((va_up w_items 4 (upd (w_items 4) ((l2).toNatClampNeg) l4)) 1))), (r_items 2, .inl (cy 0, 40, .inl ((va_up w_items 4 (upd (w_items 4) ((l2).toNatClampNeg) l4)) 2))), (r_items 3, .inl (cy 0, 40, .inl ((va_up w_items 4 (upd (w_items 4) ((l2).toNatClampNeg) l4)) 3))), (r_items 4, .inl (cy 0, 40, .inl ((va_up w_items 4 (upd (w_items 4) ((l2).toNatClampNeg) l4)) 4))), (r_items 5, .inl (cy 0, 40, .inl ((va_up w_items 4 (upd (w_items 4) ((l2).toNatClampNeg) l4)) 5))), (r_items 6, .inl (cy 0, 40, .inl ((va_up w_items 4 (upd (w_items 4) ((l2).toNatClampNeg) l4)) 6))), (r_items 7, .inl (cy 0, 40, .inl ((va_up w_items 4 (upd (w_items 4) ((l2).toNatClampNeg) l4)) 7)))] H := hP
    have hD : va_D A [(h_this, .inr (3, [.ref h_items, .ref h_lanes, x_sizes])), (h_lanes, .inl (cy 0, 8, .inl v_lanes)), (h_items, .inl (cy 5, 8, .inr (.inr (.inr (.inr (rO r_items)))))), (r_items 0, .inl (cy 0, 40, .inl ((va_up w_items 4 (upd (w_items 4) ((l2).toNatClampNeg) l4)) 0))), (r_items 1, .inl (cy 0, 40, .inl ((va_up w_items 4 (upd (w_items 4) ((l2).toNatClampNeg) l4)) 1))), (r_items 2, .inl (cy 0, 40, .inl ((va_up w_items 4 (upd (w_items 4) ((l2).toNatClampNeg) l4)) 2))), (r_items 3, .inl (cy 0, 40, .inl ((va_up w_items 4 (upd (w_items 4) ((l2).toNatClampNeg) l4)) 3))), (r_items 4, .inl (cy 0, 40, .inl ((va_up w_items 4 (upd (w_items 4) ((l2).toNatClampNeg) l4)) 4))), (r_items 5, .inl (cy 0, 40, .inl ((va_up w_items 4 (upd (w_items 4) ((l2).toNatClampNeg) l4)) 5))), (r_items 6, .inl (cy 0, 40, .inl ((va_up w_items 4 (upd (w_items 4) ((l2).toNatClampNeg) l4)) 6))), (r_items 7, .inl (cy 0, 40, .inl ((va_up w_items 4 (upd (w_items 4) ((l2).toNatClampNeg) l4)) 7)))] := hD
    refine lv_iload hx hb dX4_put_43 (lv_at hl 3 rfl) ?_
    exact rt_i C hQ rfl hP hD hS ⟨(va_up w_items 4 (upd (w_items 4) ((l2).toNatClampNeg) l4)), rfl, hF⟩ dX4_put_45
  unfold wpX4_put_r4 at hF
  refine lv_iload_n hx hb dX4_put_0 rfl (lv_at hl 3 rfl) ?_
  refine lv_istore (lv' := [(4, .int p2), (0, .ref h_this), (1, .int 4), (2, .int p1), (3, .int p2)]) hx hb dX4_put_1 hl (by decide) rfl (fun ls hl => ?_)
  refine lv_aload_n hx hb dX4_put_3 rfl (lv_at hl 1 rfl) ?_
  refine va_get (D := D) (ci := 3) (v := .ref h_lanes) (C := RX4) (T := TX4) (N := 3) hx hb hts inTX4 hown hK.1 hP 0 rfl rfl 1 (by decide) (hts _ t1_38) (fun _ h9 => h9) rfl dX4_put_4 ?_
  refine lv_iload_n hx hb dX4_put_7 rfl (lv_at hl 2 rfl) ?_
  refine s_iald (j := 4) hx hb hK.1 hP 1 0 rfl rfl (vi (by decide)) (by decide) dX4_put_8 ?_
  refine lv_if_ne (tgt := 19) hx hb dX4_put_9 (by decide) (fun c_ => ?_) (fun c_ => ?_)
  · have hF := hF.1 c_
    refine lv_aload_n hx hb dX4_put_19 rfl (lv_at hl 1 rfl) ?_
    refine va_get (D := D) (ci := 3) (v := .ref h_lanes) (C := RX4) (T := TX4) (N := 3) hx hb hts inTX4 hown hK.1 hP 0 rfl rfl 1 (by decide) (hts _ t1_38) (fun _ h9 => h9) rfl dX4_put_20 ?_
    refine lv_iload_n hx hb dX4_put_23 rfl (lv_at hl 2 rfl) ?_
    refine s_iald (j := 4) hx hb hK.1 hP 1 0 rfl rfl (vi (by decide)) (by decide) dX4_put_24 ?_
    refine lv_iconst (v := 1) hx hb dX4_put_25 (by decide) ?_
    refine lv_icmp_ne (tgt := 33) hx hb dX4_put_26 (by decide) (fun c_ => ?_) (fun c_ => ?_)
    · have hF := hF.1 c_
      exact J_33 p1 p2 v_items _ _ ls  hP hD hS (lv_sub hl [1, 2, 3, 0] rfl) hF
    · have hF := hF.2 c_
      refine lv_iload_n hx hb dX4_put_29 rfl (lv_at hl 4 rfl) ?_
      refine lv_i2s hx hb dX4_put_30 rfl ?_
      refine lv_istore (lv' := [(4, .int ((p2).toInt16.toInt32)), (0, .ref h_this), (1, .int 4), (2, .int p1), (3, .int p2)]) hx hb dX4_put_31 hl (by decide) rfl (fun ls hl => ?_)
      exact J_33 p1 ((p2).toInt16.toInt32) v_items _ _ ls  hP hD hS (lv_sub hl [1, 2, 3, 0] rfl) hF
  · have hF := hF.2 c_
    refine lv_iload_n hx hb dX4_put_12 rfl (lv_at hl 4 rfl) ?_
    refine lv_i2b hx hb dX4_put_13 rfl ?_
    refine lv_istore (lv' := [(4, .int ((p2).toInt8.toInt32)), (0, .ref h_this), (1, .int 4), (2, .int p1), (3, .int p2)]) hx hb dX4_put_14 hl (by decide) rfl (fun ls hl => ?_)
    refine lv_goto (tgt := 33) hx hb dX4_put_16 (by decide) ?_
    exact J_33 p1 ((p2).toInt8.toInt32) v_items _ _ ls  hP hD hS (lv_sub hl [1, 2, 3, 0] rfl) hF

def wpX4_itemAt_r5 (p1 : Int32) (v_items : Nat → Nat → Int32) (post : Int32 → Prop) : Prop := vp_in p1 40 ∧ (post ((v_items 5) ((p1).toNatClampNeg)))
abbrev rmX4_itemAt_r5 : Room := { frames := 0, cells := 0, slots := 0, locals := 0 }
set_option maxHeartbeats 4000000 in
set_option maxRecDepth 100000 in
theorem ccX4_itemAt_r5 (l : Launch) (D : va_G) (cy : Nat → ClassId) (h_this : Nat) (h_items : Nat) (r_items : Nat → Nat) (x_lanes : Value) (x_sizes : Value) (v_items : Nat → Nat → Int32) (p1 : Int32) (post : Int32 → Prop) (hF : wpX4_itemAt_r5 p1 v_items post) : Cr l D cy miX4_itemAt rmX4_itemAt_r5 emI NP [.ref h_this, .int 5, .int p1] [(h_this, .inr (3, [.ref h_items, x_lanes, x_sizes])), (h_items, .inl (cy 5, 8, .inr (.inr (.inr (.inr (rO r_items)))))), (r_items 0, .inl (cy 0, 40, .inl (v_items 0))), (r_items 1, .inl (cy 0, 40, .inl (v_items 1))), (r_items 2, .inl (cy 0, 40, .inl (v_items 2))), (r_items 3, .inl (cy 0, 40, .inl (v_items 3))), (r_items 4, .inl (cy 0, 40, .inl (v_items 4))), (r_items 5, .inl (cy 0, 40, .inl (v_items 5))), (r_items 6, .inl (cy 0, 40, .inl (v_items 6))), (r_items 7, .inl (cy 0, 40, .inl (v_items 7)))] post := by
  refine Cr.of (by decide) (Nat.le_of_ble_eq_true rfl) ?_
  intro p e s m args below meth c ls Q C hQ hO hP hl
  obtain ⟨hx, hb, hr, hml, hown, hts, hK, hlk, hnm⟩ := id C
  have hb : c.code = cX4_itemAt := hb
  have hml : c.maxLocals = 3 := hml
  have hown : s.vm.findClass RX4 = some m.cls := hown
  have hl : lv_has ls 3 [(0, .ref h_this), (1, .int 5), (2, .int p1)] := hl
  unfold wpX4_itemAt_r5 at hF
  refine lv_aload_n hx hb dX4_itemAt_0 rfl (lv_at hl 0 rfl) ?_
  refine va_get (D := D) (ci := 3) (v := .ref h_items) (C := RX4) (T := TX4) (N := 3) hx hb hts inTX4 hown hK.1 hP 0 rfl rfl 0 (by decide) (hts _ t1_37) (fun _ h9 => h9) rfl dX4_itemAt_1 ?_
  refine lv_iload_n hx hb dX4_itemAt_4 rfl (lv_at hl 1 rfl) ?_
  refine s_aldg (j := 5) (y := r_items 5) hx hb hK.1 hP 1 5 rfl rfl (vi (by decide)) (by decide) rfl dX4_itemAt_5 ?_
  refine lv_iload_n hx hb dX4_itemAt_6 rfl (lv_at hl 2 rfl) ?_
  obtain ⟨hi1, hF⟩ := hF
  refine s_iald (j := (p1).toNatClampNeg) hx hb hK.1 hP 7 0 rfl rfl hi1 rfl dX4_itemAt_7 ?_
  exact rr_i C hQ rfl hF dX4_itemAt_8

def wpX4_lay_r5 (p1 : Int32) (p2 : Int32) (v_items : Nat → Nat → Int32) (v_lanes : Nat → Int32) (v_sizes : Nat → Int32) (post : Unit → (Nat → Nat → Int32) → (Nat → Int32) → (Nat → Int32) → Prop) : Prop := wp_fillI 40 0 (v_items 5) (fun _ u2_items_i5 => post () (va_up v_items 5 u2_items_i5) (upd v_lanes 5 p1) (upd v_sizes 5 p2))
abbrev rmX4_lay_r5 : Room := { frames := 1, cells := 0, slots := 0, locals := 23 }
set_option maxHeartbeats 4000000 in
set_option maxRecDepth 100000 in
theorem ccX4_lay_r5 (l : Launch) (D : va_G) (cy : Nat → ClassId) (h_this : Nat) (h_items : Nat) (h_lanes : Nat) (h_sizes : Nat) (r_items : Nat → Nat) (v_items : Nat → Nat → Int32) (v_lanes : Nat → Int32) (v_sizes : Nat → Int32) (p1 : Int32) (p2 : Int32) (post : Unit → (Nat → Nat → Int32) → (Nat → Int32) → (Nat → Int32) → Prop) (hF : wpX4_lay_r5 p1 p2 v_items v_lanes v_sizes post) : Ct l D cy miX4_lay rmX4_lay_r5 emV NP [.ref h_this, .int 5, .int p1, .int p2] [(h_this, .inr (3, [.ref h_items, .ref h_lanes, .ref h_sizes])), (h_items, .inl (cy 5, 8, .inr (.inr (.inr (.inr (rO r_items)))))), (h_lanes, .inl (cy 0, 8, .inl v_lanes)), (h_sizes, .inl (cy 0, 8, .inl v_sizes)), (r_items 0, .inl (cy 0, 40, .inl (v_items 0))), (r_items 1, .inl (cy 0, 40, .inl (v_items 1))), (r_items 2, .inl (cy 0, 40, .inl (v_items 2))), (r_items 3, .inl (cy 0, 40, .inl (v_items 3))), (r_items 4, .inl (cy 0, 40, .inl (v_items 4))), (r_items 5, .inl (cy 0, 40, .inl (v_items 5))), (r_items 6, .inl (cy 0, 40, .inl (v_items 6))), (r_items 7, .inl (cy 0, 40, .inl (v_items 7)))] (fun r w1 => ∃ (w_items : Nat → Nat → Int32) (w_lanes : Nat → Int32) (w_sizes : Nat → Int32), w1 = [(h_this, .inr (3, [.ref h_items, .ref h_lanes, .ref h_sizes])), (h_items, .inl (cy 5, 8, .inr (.inr (.inr (.inr (rO r_items)))))), (h_lanes, .inl (cy 0, 8, .inl w_lanes)), (h_sizes, .inl (cy 0, 8, .inl w_sizes)), (r_items 0, .inl (cy 0, 40, .inl (w_items 0))), (r_items 1, .inl (cy 0, 40, .inl (w_items 1))), (r_items 2, .inl (cy 0, 40, .inl (w_items 2))), (r_items 3, .inl (cy 0, 40, .inl (w_items 3))), (r_items 4, .inl (cy 0, 40, .inl (w_items 4))), (r_items 5, .inl (cy 0, 40, .inl (w_items 5))), (r_items 6, .inl (cy 0, 40, .inl (w_items 6))), (r_items 7, .inl (cy 0, 40, .inl (w_items 7)))] ∧ post r w_items w_lanes w_sizes) := by
  refine Ct.of (by decide) (Nat.le_of_ble_eq_true rfl) ?_
  intro p e s m args below meth c A ls Q C hQ hA hI hP hD hS hl
  obtain ⟨hx, hb, hr, hml, hown, hts, hK, hlk, hnm⟩ := id C
  have hb : c.code = cX4_lay := hb
  have hml : c.maxLocals = 4 := hml
  have hown : s.vm.findClass RX4 = some m.cls := hown
  have hl : lv_has ls 4 [(0, .ref h_this), (1, .int 5), (2, .int p1), (3, .int p2)] := hl
  unfold wpX4_lay_r5 at hF
  refine lv_aload_n hx hb dX4_lay_0 rfl (lv_at hl 0 rfl) ?_
  refine va_get (D := D) (ci := 3) (v := .ref h_items) (C := RX4) (T := TX4) (N := 3) hx hb hts inTX4 hown hK.1 hP 0 rfl rfl 0 (by decide) (hts _ t1_37) (fun _ h9 => h9) rfl dX4_lay_1 ?_
  refine lv_iload_n hx hb dX4_lay_4 rfl (lv_at hl 1 rfl) ?_
  refine s_aldg (j := 5) (y := r_items 5) hx hb hK.1 hP 1 5 rfl rfl (vi (by decide)) (by decide) rfl dX4_lay_5 ?_
  refine lv_iconst (v := 0) hx hb dX4_lay_6 (by decide) ?_
  refine cS_t (As := [.ref (r_items 5), .int 0]) (wr := [(h_this, .inr (3, [.ref h_items, .ref h_lanes, .ref h_sizes])), (h_items, .inl (cy 5, 8, .inr (.inr (.inr (.inr (rO r_items)))))), (h_lanes, .inl (cy 0, 8, .inl v_lanes)), (h_sizes, .inl (cy 0, 8, .inl v_sizes)), (r_items 0, .inl (cy 0, 40, .inl (v_items 0))), (r_items 1, .inl (cy 0, 40, .inl (v_items 1))), (r_items 2, .inl (cy 0, 40, .inl (v_items 2))), (r_items 3, .inl (cy 0, 40, .inl (v_items 3))), (r_items 4, .inl (cy 0, 40, .inl (v_items 4))), (r_items 6, .inl (cy 0, 40, .inl (v_items 6))), (r_items 7, .inl (cy 0, 40, .inl (v_items 7)))]) C hA hP hD hS mfJ7_fill_53178 t1_35 t1_34 (c_fillI l D cy 40 (by decide) (r_items 5) (v_items 5) 0 _ hF) [9] [0, 1, 2, 3, 4, 5, 6, 7, 8, 10, 11] rfl rfl (by decide) (by decide) (by decide) PO.np rfl hl.1 rfl (Nat.le_of_ble_eq_true rfl) dX4_lay_7 ⟨Nat.le_of_ble_eq_true rfl, Nat.le_of_ble_eq_true rfl⟩ ⟨Nat.le_of_ble_eq_true rfl, Nat.le_of_ble_eq_true rfl⟩ ?_
  rintro ⟨⟩ w1 H locs ⟨u2_items_i5, rfl, hF⟩ hP hD hS
  have hP : va_P D CL [(h_this, .inr (3, [.ref h_items, .ref h_lanes, .ref h_sizes])), (h_items, .inl (cy 5, 8, .inr (.inr (.inr (.inr (rO r_items)))))), (h_lanes, .inl (cy 0, 8, .inl v_lanes)), (h_sizes, .inl (cy 0, 8, .inl v_sizes)), (r_items 0, .inl (cy 0, 40, .inl ((va_up v_items 5 u2_items_i5) 0))), (r_items 1, .inl (cy 0, 40, .inl ((va_up v_items 5 u2_items_i5) 1))), (r_items 2, .inl (cy 0, 40, .inl ((va_up v_items 5 u2_items_i5) 2))), (r_items 3, .inl (cy 0, 40, .inl ((va_up v_items 5 u2_items_i5) 3))), (r_items 4, .inl (cy 0, 40, .inl ((va_up v_items 5 u2_items_i5) 4))), (r_items 6, .inl (cy 0, 40, .inl ((va_up v_items 5 u2_items_i5) 6))), (r_items 7, .inl (cy 0, 40, .inl ((va_up v_items 5 u2_items_i5) 7))), (r_items 5, .inl (cy 0, 40, .inl ((va_up v_items 5 u2_items_i5) 5)))] H := hP
  have hD : va_D A [(h_this, .inr (3, [.ref h_items, .ref h_lanes, .ref h_sizes])), (h_items, .inl (cy 5, 8, .inr (.inr (.inr (.inr (rO r_items)))))), (h_lanes, .inl (cy 0, 8, .inl v_lanes)), (h_sizes, .inl (cy 0, 8, .inl v_sizes)), (r_items 0, .inl (cy 0, 40, .inl ((va_up v_items 5 u2_items_i5) 0))), (r_items 1, .inl (cy 0, 40, .inl ((va_up v_items 5 u2_items_i5) 1))), (r_items 2, .inl (cy 0, 40, .inl ((va_up v_items 5 u2_items_i5) 2))), (r_items 3, .inl (cy 0, 40, .inl ((va_up v_items 5 u2_items_i5) 3))), (r_items 4, .inl (cy 0, 40, .inl ((va_up v_items 5 u2_items_i5) 4))), (r_items 6, .inl (cy 0, 40, .inl ((va_up v_items 5 u2_items_i5) 6))), (r_items 7, .inl (cy 0, 40, .inl ((va_up v_items 5 u2_items_i5) 7))), (r_items 5, .inl (cy 0, 40, .inl ((va_up v_items 5 u2_items_i5) 5)))] := hD
  refine W.eq (g2 := F0 m 10 ls []) rfl ?_
  refine lv_aload_n hx hb dX4_lay_10 rfl (lv_at hl 0 rfl) ?_
  refine va_get (D := D) (ci := 3) (v := .ref h_lanes) (C := RX4) (T := TX4) (N := 3) hx hb hts inTX4 hown hK.1 hP 0 rfl rfl 1 (by decide) (hts _ t1_38) (fun _ h9 => h9) rfl dX4_lay_11 ?_
  refine lv_iload_n hx hb dX4_lay_14 rfl (lv_at hl 1 rfl) ?_
  refine lv_iload_n hx hb dX4_lay_15 rfl (lv_at hl 2 rfl) ?_
  refine s_iast (j := 5) hx hb hK.1 hP hD hS 2 0 rfl rfl (vi (by decide)) (by decide) dX4_lay_16 (fun H locs hP hD hS => ?_)
  have hP : va_P D CL [(h_this, .inr (3, [.ref h_items, .ref h_lanes, .ref h_sizes])), (h_items, .inl (cy 5, 8, .inr (.inr (.inr (.inr (rO r_items)))))), (h_lanes, .inl (cy 0, 8, .inl (upd v_lanes 5 p1))), (h_sizes, .inl (cy 0, 8, .inl v_sizes)), (r_items 0, .inl (cy 0, 40, .inl ((va_up v_items 5 u2_items_i5) 0))), (r_items 1, .inl (cy 0, 40, .inl ((va_up v_items 5 u2_items_i5) 1))), (r_items 2, .inl (cy 0, 40, .inl ((va_up v_items 5 u2_items_i5) 2))), (r_items 3, .inl (cy 0, 40, .inl ((va_up v_items 5 u2_items_i5) 3))), (r_items 4, .inl (cy 0, 40, .inl ((va_up v_items 5 u2_items_i5) 4))), (r_items 6, .inl (cy 0, 40, .inl ((va_up v_items 5 u2_items_i5) 6))), (r_items 7, .inl (cy 0, 40, .inl ((va_up v_items 5 u2_items_i5) 7))), (r_items 5, .inl (cy 0, 40, .inl ((va_up v_items 5 u2_items_i5) 5)))] H := hP
  have hD : va_D A [(h_this, .inr (3, [.ref h_items, .ref h_lanes, .ref h_sizes])), (h_items, .inl (cy 5, 8, .inr (.inr (.inr (.inr (rO r_items)))))), (h_lanes, .inl (cy 0, 8, .inl (upd v_lanes 5 p1))), (h_sizes, .inl (cy 0, 8, .inl v_sizes)), (r_items 0, .inl (cy 0, 40, .inl ((va_up v_items 5 u2_items_i5) 0))), (r_items 1, .inl (cy 0, 40, .inl ((va_up v_items 5 u2_items_i5) 1))), (r_items 2, .inl (cy 0, 40, .inl ((va_up v_items 5 u2_items_i5) 2))), (r_items 3, .inl (cy 0, 40, .inl ((va_up v_items 5 u2_items_i5) 3))), (r_items 4, .inl (cy 0, 40, .inl ((va_up v_items 5 u2_items_i5) 4))), (r_items 6, .inl (cy 0, 40, .inl ((va_up v_items 5 u2_items_i5) 6))), (r_items 7, .inl (cy 0, 40, .inl ((va_up v_items 5 u2_items_i5) 7))), (r_items 5, .inl (cy 0, 40, .inl ((va_up v_items 5 u2_items_i5) 5)))] := hD
  refine lv_aload_n hx hb dX4_lay_17 rfl (lv_at hl 0 rfl) ?_
  refine va_get (D := D) (ci := 3) (v := .ref h_sizes) (C := RX4) (T := TX4) (N := 3) hx hb hts inTX4 hown hK.1 hP 0 rfl rfl 2 (by decide) (hts _ t1_39) (fun _ h9 => h9) rfl dX4_lay_18 ?_
  refine lv_iload_n hx hb dX4_lay_21 rfl (lv_at hl 1 rfl) ?_
  refine lv_iload_n hx hb dX4_lay_22 rfl (lv_at hl 3 rfl) ?_
  refine s_iast (j := 5) hx hb hK.1 hP hD hS 3 0 rfl rfl (vi (by decide)) (by decide) dX4_lay_23 (fun H locs hP hD hS => ?_)
  have hP : va_P D CL [(h_this, .inr (3, [.ref h_items, .ref h_lanes, .ref h_sizes])), (h_items, .inl (cy 5, 8, .inr (.inr (.inr (.inr (rO r_items)))))), (h_lanes, .inl (cy 0, 8, .inl (upd v_lanes 5 p1))), (h_sizes, .inl (cy 0, 8, .inl (upd v_sizes 5 p2))), (r_items 0, .inl (cy 0, 40, .inl ((va_up v_items 5 u2_items_i5) 0))), (r_items 1, .inl (cy 0, 40, .inl ((va_up v_items 5 u2_items_i5) 1))), (r_items 2, .inl (cy 0, 40, .inl ((va_up v_items 5 u2_items_i5) 2))), (r_items 3, .inl (cy 0, 40, .inl ((va_up v_items 5 u2_items_i5) 3))), (r_items 4, .inl (cy 0, 40, .inl ((va_up v_items 5 u2_items_i5) 4))), (r_items 6, .inl (cy 0, 40, .inl ((va_up v_items 5 u2_items_i5) 6))), (r_items 7, .inl (cy 0, 40, .inl ((va_up v_items 5 u2_items_i5) 7))), (r_items 5, .inl (cy 0, 40, .inl ((va_up v_items 5 u2_items_i5) 5)))] H := hP
  have hD : va_D A [(h_this, .inr (3, [.ref h_items, .ref h_lanes, .ref h_sizes])), (h_items, .inl (cy 5, 8, .inr (.inr (.inr (.inr (rO r_items)))))), (h_lanes, .inl (cy 0, 8, .inl (upd v_lanes 5 p1))), (h_sizes, .inl (cy 0, 8, .inl (upd v_sizes 5 p2))), (r_items 0, .inl (cy 0, 40, .inl ((va_up v_items 5 u2_items_i5) 0))), (r_items 1, .inl (cy 0, 40, .inl ((va_up v_items 5 u2_items_i5) 1))), (r_items 2, .inl (cy 0, 40, .inl ((va_up v_items 5 u2_items_i5) 2))), (r_items 3, .inl (cy 0, 40, .inl ((va_up v_items 5 u2_items_i5) 3))), (r_items 4, .inl (cy 0, 40, .inl ((va_up v_items 5 u2_items_i5) 4))), (r_items 6, .inl (cy 0, 40, .inl ((va_up v_items 5 u2_items_i5) 6))), (r_items 7, .inl (cy 0, 40, .inl ((va_up v_items 5 u2_items_i5) 7))), (r_items 5, .inl (cy 0, 40, .inl ((va_up v_items 5 u2_items_i5) 5)))] := hD
  have hP : va_P D CL [(h_this, .inr (3, [.ref h_items, .ref h_lanes, .ref h_sizes])), (h_items, .inl (cy 5, 8, .inr (.inr (.inr (.inr (rO r_items)))))), (h_lanes, .inl (cy 0, 8, .inl (upd v_lanes 5 p1))), (h_sizes, .inl (cy 0, 8, .inl (upd v_sizes 5 p2))), (r_items 0, .inl (cy 0, 40, .inl ((va_up v_items 5 u2_items_i5) 0))), (r_items 1, .inl (cy 0, 40, .inl ((va_up v_items 5 u2_items_i5) 1))), (r_items 2, .inl (cy 0, 40, .inl ((va_up v_items 5 u2_items_i5) 2))), (r_items 3, .inl (cy 0, 40, .inl ((va_up v_items 5 u2_items_i5) 3))), (r_items 4, .inl (cy 0, 40, .inl ((va_up v_items 5 u2_items_i5) 4))), (r_items 5, .inl (cy 0, 40, .inl ((va_up v_items 5 u2_items_i5) 5))), (r_items 6, .inl (cy 0, 40, .inl ((va_up v_items 5 u2_items_i5) 6))), (r_items 7, .inl (cy 0, 40, .inl ((va_up v_items 5 u2_items_i5) 7)))] H := (hP.sub [0, 1, 2, 3, 4, 5, 6, 7, 8, 11, 9, 10] rfl)
  have hD : va_D A [(h_this, .inr (3, [.ref h_items, .ref h_lanes, .ref h_sizes])), (h_items, .inl (cy 5, 8, .inr (.inr (.inr (.inr (rO r_items)))))), (h_lanes, .inl (cy 0, 8, .inl (upd v_lanes 5 p1))), (h_sizes, .inl (cy 0, 8, .inl (upd v_sizes 5 p2))), (r_items 0, .inl (cy 0, 40, .inl ((va_up v_items 5 u2_items_i5) 0))), (r_items 1, .inl (cy 0, 40, .inl ((va_up v_items 5 u2_items_i5) 1))), (r_items 2, .inl (cy 0, 40, .inl ((va_up v_items 5 u2_items_i5) 2))), (r_items 3, .inl (cy 0, 40, .inl ((va_up v_items 5 u2_items_i5) 3))), (r_items 4, .inl (cy 0, 40, .inl ((va_up v_items 5 u2_items_i5) 4))), (r_items 5, .inl (cy 0, 40, .inl ((va_up v_items 5 u2_items_i5) 5))), (r_items 6, .inl (cy 0, 40, .inl ((va_up v_items 5 u2_items_i5) 6))), (r_items 7, .inl (cy 0, 40, .inl ((va_up v_items 5 u2_items_i5) 7)))] := (hD.sub [0, 1, 2, 3, 4, 5, 6, 7, 8, 11, 9, 10] (by decide) rfl)
  exact rt_v C hQ rfl hP hD hS ⟨(va_up v_items 5 u2_items_i5), (upd v_lanes 5 p1), (upd v_sizes 5 p2), rfl, hF⟩ dX4_lay_24

def wjX4_put_r5_33 (v_lanes : Nat → Int32) (post : Int32 → (Nat → Nat → Int32) → Prop) (l2 : Int32) (l4 : Int32) (w_items : Nat → Nat → Int32) : Prop := vp_in l2 40 ∧ (post l4 (va_up w_items 5 (upd (w_items 5) ((l2).toNatClampNeg) l4)))
def wpX4_put_r5 (p1 : Int32) (p2 : Int32) (v_lanes : Nat → Int32) (v_items : Nat → Nat → Int32) (post : Int32 → (Nat → Nat → Int32) → Prop) : Prop := (¬ (v_lanes 5) = 0 → ((¬ (v_lanes 5) = 1 → (wjX4_put_r5_33 v_lanes post p1 p2 v_items)) ∧ ((v_lanes 5) = 1 → (wjX4_put_r5_33 v_lanes post p1 ((p2).toInt16.toInt32) v_items)))) ∧ ((v_lanes 5) = 0 → (wjX4_put_r5_33 v_lanes post p1 ((p2).toInt8.toInt32) v_items))
abbrev rmX4_put_r5 : Room := { frames := 0, cells := 0, slots := 0, locals := 0 }
set_option maxHeartbeats 4000000 in
set_option maxRecDepth 100000 in
theorem ccX4_put_r5 (l : Launch) (D : va_G) (cy : Nat → ClassId) (h_this : Nat) (h_lanes : Nat) (h_items : Nat) (r_items : Nat → Nat) (x_sizes : Value) (v_lanes : Nat → Int32) (v_items : Nat → Nat → Int32) (p1 : Int32) (p2 : Int32) (post : Int32 → (Nat → Nat → Int32) → Prop) (hF : wpX4_put_r5 p1 p2 v_lanes v_items post) : Ct l D cy miX4_put rmX4_put_r5 emI NP [.ref h_this, .int 5, .int p1, .int p2] [(h_this, .inr (3, [.ref h_items, .ref h_lanes, x_sizes])), (h_lanes, .inl (cy 0, 8, .inl v_lanes)), (h_items, .inl (cy 5, 8, .inr (.inr (.inr (.inr (rO r_items)))))), (r_items 0, .inl (cy 0, 40, .inl (v_items 0))), (r_items 1, .inl (cy 0, 40, .inl (v_items 1))), (r_items 2, .inl (cy 0, 40, .inl (v_items 2))), (r_items 3, .inl (cy 0, 40, .inl (v_items 3))), (r_items 4, .inl (cy 0, 40, .inl (v_items 4))), (r_items 5, .inl (cy 0, 40, .inl (v_items 5))), (r_items 6, .inl (cy 0, 40, .inl (v_items 6))), (r_items 7, .inl (cy 0, 40, .inl (v_items 7)))] (fun r w1 => ∃ (w_items : Nat → Nat → Int32), w1 = [(h_this, .inr (3, [.ref h_items, .ref h_lanes, x_sizes])), (h_lanes, .inl (cy 0, 8, .inl v_lanes)), (h_items, .inl (cy 5, 8, .inr (.inr (.inr (.inr (rO r_items)))))), (r_items 0, .inl (cy 0, 40, .inl (w_items 0))), (r_items 1, .inl (cy 0, 40, .inl (w_items 1))), (r_items 2, .inl (cy 0, 40, .inl (w_items 2))), (r_items 3, .inl (cy 0, 40, .inl (w_items 3))), (r_items 4, .inl (cy 0, 40, .inl (w_items 4))), (r_items 5, .inl (cy 0, 40, .inl (w_items 5))), (r_items 6, .inl (cy 0, 40, .inl (w_items 6))), (r_items 7, .inl (cy 0, 40, .inl (w_items 7)))] ∧ post r w_items) := by
  refine Ct.of (by decide) (Nat.le_of_ble_eq_true rfl) ?_
  intro p e s m args below meth c A ls Q C hQ hA hI hP hD hS hl
  obtain ⟨hx, hb, hr, hml, hown, hts, hK, hlk, hnm⟩ := id C
  have hb : c.code = cX4_put := hb
  have hml : c.maxLocals = 5 := hml
  have hown : s.vm.findClass RX4 = some m.cls := hown
  have hl : lv_has ls 5 [(0, .ref h_this), (1, .int 5), (2, .int p1), (3, .int p2)] := hl
  have J_33 : ∀ (l2 : Int32) (l4 : Int32) (w_items : Nat → Nat → Int32) (H : Heap) (locs : List Loc) (ls : Array Slot), va_P D CL [(h_this, .inr (3, [.ref h_items, .ref h_lanes, x_sizes])), (h_lanes, .inl (cy 0, 8, .inl v_lanes)), (h_items, .inl (cy 5, 8, .inr (.inr (.inr (.inr (rO r_items)))))), (r_items 0, .inl (cy 0, 40, .inl (w_items 0))), (r_items 1, .inl (cy 0, 40, .inl (w_items 1))), (r_items 2, .inl (cy 0, 40, .inl (w_items 2))), (r_items 3, .inl (cy 0, 40, .inl (w_items 3))), (r_items 4, .inl (cy 0, 40, .inl (w_items 4))), (r_items 5, .inl (cy 0, 40, .inl (w_items 5))), (r_items 6, .inl (cy 0, 40, .inl (w_items 6))), (r_items 7, .inl (cy 0, 40, .inl (w_items 7)))] H → va_D A [(h_this, .inr (3, [.ref h_items, .ref h_lanes, x_sizes])), (h_lanes, .inl (cy 0, 8, .inl v_lanes)), (h_items, .inl (cy 5, 8, .inr (.inr (.inr (.inr (rO r_items)))))), (r_items 0, .inl (cy 0, 40, .inl (w_items 0))), (r_items 1, .inl (cy 0, 40, .inl (w_items 1))), (r_items 2, .inl (cy 0, 40, .inl (w_items 2))), (r_items 3, .inl (cy 0, 40, .inl (w_items 3))), (r_items 4, .inl (cy 0, 40, .inl (w_items 4))), (r_items 5, .inl (cy 0, 40, .inl (w_items 5))), (r_items 6, .inl (cy 0, 40, .inl (w_items 6))), (r_items 7, .inl (cy 0, 40, .inl (w_items 7)))] → va_S A s.heap H locs → lv_has ls 5 [(0, .ref h_this), (1, .int 5), (2, .int l2), (4, .int l4)] → wjX4_put_r5_33 v_lanes post l2 l4 w_items → W p l e rmX4_put_r5 s m args below meth c H locs 0 0 Q (F0 m 33 ls []) := by
    intro l2 l4 w_items H locs ls  hP hD hS hl hF
    unfold wjX4_put_r5_33 at hF
    refine lv_aload_n hx hb dX4_put_33 rfl (lv_at hl 0 rfl) ?_
    refine va_get (D := D) (ci := 3) (v := .ref h_items) (C := RX4) (T := TX4) (N := 3) hx hb hts inTX4 hown hK.1 hP 0 rfl rfl 0 (by decide) (hts _ t1_37) (fun _ h9 => h9) rfl dX4_put_34 ?_
    refine lv_iload_n hx hb dX4_put_37 rfl (lv_at hl 1 rfl) ?_
    refine s_aldg (j := 5) (y := r_items 5) hx hb hK.1 hP 2 5 rfl rfl (vi (by decide)) (by decide) rfl dX4_put_38 ?_
    refine lv_iload_n hx hb dX4_put_39 rfl (lv_at hl 2 rfl) ?_
    refine lv_iload hx hb dX4_put_40 (lv_at hl 3 rfl) ?_
    obtain ⟨hi1, hF⟩ := hF
    refine s_iast (j := (l2).toNatClampNeg) hx hb hK.1 hP hD hS 8 0 rfl rfl hi1 rfl dX4_put_42 (fun H locs hP hD hS => ?_)
    have hP : va_P D CL [(h_this, .inr (3, [.ref h_items, .ref h_lanes, x_sizes])), (h_lanes, .inl (cy 0, 8, .inl v_lanes)), (h_items, .inl (cy 5, 8, .inr (.inr (.inr (.inr (rO r_items)))))), (r_items 0, .inl (cy 0, 40, .inl ((va_up w_items 5 (upd (w_items 5) ((l2).toNatClampNeg) l4)) 0))), (r_items 1, .inl (cy 0, 40, .inl ((va_up w_items 5 (upd (w_items 5) ((l2).toNatClampNeg) l4)) 1))), (r_items 2, .inl (cy 0, 40, .inl ((va_up w_items 5 (upd (w_items 5) ((l2).toNatClampNeg) l4)) 2))), (r_items 3, .inl (cy 0, 40, .inl ((va_up w_items 5 (upd (w_items 5) ((l2).toNatClampNeg) l4)) 3))), (r_items 4, .inl (cy 0, 40, .inl ((va_up w_items 5 (upd (w_items 5) ((l2).toNatClampNeg) l4)) 4))), (r_items 5, .inl (cy 0, 40, .inl ((va_up w_items 5 (upd (w_items 5) ((l2).toNatClampNeg) l4)) 5))), (r_items 6, .inl (cy 0, 40, .inl ((va_up w_items 5 (upd (w_items 5) ((l2).toNatClampNeg) l4)) 6))), (r_items 7, .inl (cy 0, 40, .inl ((va_up w_items 5 (upd (w_items 5) ((l2).toNatClampNeg) l4)) 7)))] H := hP
    have hD : va_D A [(h_this, .inr (3, [.ref h_items, .ref h_lanes, x_sizes])), (h_lanes, .inl (cy 0, 8, .inl v_lanes)), (h_items, .inl (cy 5, 8, .inr (.inr (.inr (.inr (rO r_items)))))), (r_items 0, .inl (cy 0, 40, .inl ((va_up w_items 5 (upd (w_items 5) ((l2).toNatClampNeg) l4)) 0))), (r_items 1, .inl (cy 0, 40, .inl ((va_up w_items 5 (upd (w_items 5) ((l2).toNatClampNeg) l4)) 1))), (r_items 2, .inl (cy 0, 40, .inl ((va_up w_items 5 (upd (w_items 5) ((l2).toNatClampNeg) l4)) 2))), (r_items 3, .inl (cy 0, 40, .inl ((va_up w_items 5 (upd (w_items 5) ((l2).toNatClampNeg) l4)) 3))), (r_items 4, .inl (cy 0, 40, .inl ((va_up w_items 5 (upd (w_items 5) ((l2).toNatClampNeg) l4)) 4))), (r_items 5, .inl (cy 0, 40, .inl ((va_up w_items 5 (upd (w_items 5) ((l2).toNatClampNeg) l4)) 5))), (r_items 6, .inl (cy 0, 40, .inl ((va_up w_items 5 (upd (w_items 5) ((l2).toNatClampNeg) l4)) 6))), (r_items 7, .inl (cy 0, 40, .inl ((va_up w_items 5 (upd (w_items 5) ((l2).toNatClampNeg) l4)) 7)))] := hD
    refine lv_iload hx hb dX4_put_43 (lv_at hl 3 rfl) ?_
    exact rt_i C hQ rfl hP hD hS ⟨(va_up w_items 5 (upd (w_items 5) ((l2).toNatClampNeg) l4)), rfl, hF⟩ dX4_put_45
  unfold wpX4_put_r5 at hF
  refine lv_iload_n hx hb dX4_put_0 rfl (lv_at hl 3 rfl) ?_
  refine lv_istore (lv' := [(4, .int p2), (0, .ref h_this), (1, .int 5), (2, .int p1), (3, .int p2)]) hx hb dX4_put_1 hl (by decide) rfl (fun ls hl => ?_)
  refine lv_aload_n hx hb dX4_put_3 rfl (lv_at hl 1 rfl) ?_
  refine va_get (D := D) (ci := 3) (v := .ref h_lanes) (C := RX4) (T := TX4) (N := 3) hx hb hts inTX4 hown hK.1 hP 0 rfl rfl 1 (by decide) (hts _ t1_38) (fun _ h9 => h9) rfl dX4_put_4 ?_
  refine lv_iload_n hx hb dX4_put_7 rfl (lv_at hl 2 rfl) ?_
  refine s_iald (j := 5) hx hb hK.1 hP 1 0 rfl rfl (vi (by decide)) (by decide) dX4_put_8 ?_
  refine lv_if_ne (tgt := 19) hx hb dX4_put_9 (by decide) (fun c_ => ?_) (fun c_ => ?_)
  · have hF := hF.1 c_
    refine lv_aload_n hx hb dX4_put_19 rfl (lv_at hl 1 rfl) ?_
    refine va_get (D := D) (ci := 3) (v := .ref h_lanes) (C := RX4) (T := TX4) (N := 3) hx hb hts inTX4 hown hK.1 hP 0 rfl rfl 1 (by decide) (hts _ t1_38) (fun _ h9 => h9) rfl dX4_put_20 ?_
    refine lv_iload_n hx hb dX4_put_23 rfl (lv_at hl 2 rfl) ?_
    refine s_iald (j := 5) hx hb hK.1 hP 1 0 rfl rfl (vi (by decide)) (by decide) dX4_put_24 ?_
    refine lv_iconst (v := 1) hx hb dX4_put_25 (by decide) ?_
    refine lv_icmp_ne (tgt := 33) hx hb dX4_put_26 (by decide) (fun c_ => ?_) (fun c_ => ?_)
    · have hF := hF.1 c_
      exact J_33 p1 p2 v_items _ _ ls  hP hD hS (lv_sub hl [1, 2, 3, 0] rfl) hF
    · have hF := hF.2 c_
      refine lv_iload_n hx hb dX4_put_29 rfl (lv_at hl 4 rfl) ?_
      refine lv_i2s hx hb dX4_put_30 rfl ?_
      refine lv_istore (lv' := [(4, .int ((p2).toInt16.toInt32)), (0, .ref h_this), (1, .int 5), (2, .int p1), (3, .int p2)]) hx hb dX4_put_31 hl (by decide) rfl (fun ls hl => ?_)
      exact J_33 p1 ((p2).toInt16.toInt32) v_items _ _ ls  hP hD hS (lv_sub hl [1, 2, 3, 0] rfl) hF
  · have hF := hF.2 c_
    refine lv_iload_n hx hb dX4_put_12 rfl (lv_at hl 4 rfl) ?_
    refine lv_i2b hx hb dX4_put_13 rfl ?_
    refine lv_istore (lv' := [(4, .int ((p2).toInt8.toInt32)), (0, .ref h_this), (1, .int 5), (2, .int p1), (3, .int p2)]) hx hb dX4_put_14 hl (by decide) rfl (fun ls hl => ?_)
    refine lv_goto (tgt := 33) hx hb dX4_put_16 (by decide) ?_
    exact J_33 p1 ((p2).toInt8.toInt32) v_items _ _ ls  hP hD hS (lv_sub hl [1, 2, 3, 0] rfl) hF

def wpX4_itemAt_r6 (p1 : Int32) (v_items : Nat → Nat → Int32) (post : Int32 → Prop) : Prop := vp_in p1 40 ∧ (post ((v_items 6) ((p1).toNatClampNeg)))
abbrev rmX4_itemAt_r6 : Room := { frames := 0, cells := 0, slots := 0, locals := 0 }
set_option maxHeartbeats 4000000 in
set_option maxRecDepth 100000 in
theorem ccX4_itemAt_r6 (l : Launch) (D : va_G) (cy : Nat → ClassId) (h_this : Nat) (h_items : Nat) (r_items : Nat → Nat) (x_lanes : Value) (x_sizes : Value) (v_items : Nat → Nat → Int32) (p1 : Int32) (post : Int32 → Prop) (hF : wpX4_itemAt_r6 p1 v_items post) : Cr l D cy miX4_itemAt rmX4_itemAt_r6 emI NP [.ref h_this, .int 6, .int p1] [(h_this, .inr (3, [.ref h_items, x_lanes, x_sizes])), (h_items, .inl (cy 5, 8, .inr (.inr (.inr (.inr (rO r_items)))))), (r_items 0, .inl (cy 0, 40, .inl (v_items 0))), (r_items 1, .inl (cy 0, 40, .inl (v_items 1))), (r_items 2, .inl (cy 0, 40, .inl (v_items 2))), (r_items 3, .inl (cy 0, 40, .inl (v_items 3))), (r_items 4, .inl (cy 0, 40, .inl (v_items 4))), (r_items 5, .inl (cy 0, 40, .inl (v_items 5))), (r_items 6, .inl (cy 0, 40, .inl (v_items 6))), (r_items 7, .inl (cy 0, 40, .inl (v_items 7)))] post := by
  refine Cr.of (by decide) (Nat.le_of_ble_eq_true rfl) ?_
  intro p e s m args below meth c ls Q C hQ hO hP hl
  obtain ⟨hx, hb, hr, hml, hown, hts, hK, hlk, hnm⟩ := id C
  have hb : c.code = cX4_itemAt := hb
  have hml : c.maxLocals = 3 := hml
  have hown : s.vm.findClass RX4 = some m.cls := hown
  have hl : lv_has ls 3 [(0, .ref h_this), (1, .int 6), (2, .int p1)] := hl
  unfold wpX4_itemAt_r6 at hF
  refine lv_aload_n hx hb dX4_itemAt_0 rfl (lv_at hl 0 rfl) ?_
  refine va_get (D := D) (ci := 3) (v := .ref h_items) (C := RX4) (T := TX4) (N := 3) hx hb hts inTX4 hown hK.1 hP 0 rfl rfl 0 (by decide) (hts _ t1_37) (fun _ h9 => h9) rfl dX4_itemAt_1 ?_
  refine lv_iload_n hx hb dX4_itemAt_4 rfl (lv_at hl 1 rfl) ?_
  refine s_aldg (j := 6) (y := r_items 6) hx hb hK.1 hP 1 5 rfl rfl (vi (by decide)) (by decide) rfl dX4_itemAt_5 ?_
  refine lv_iload_n hx hb dX4_itemAt_6 rfl (lv_at hl 2 rfl) ?_
  obtain ⟨hi1, hF⟩ := hF
  refine s_iald (j := (p1).toNatClampNeg) hx hb hK.1 hP 8 0 rfl rfl hi1 rfl dX4_itemAt_7 ?_
  exact rr_i C hQ rfl hF dX4_itemAt_8

def wpX4_lay_r6 (p1 : Int32) (p2 : Int32) (v_items : Nat → Nat → Int32) (v_lanes : Nat → Int32) (v_sizes : Nat → Int32) (post : Unit → (Nat → Nat → Int32) → (Nat → Int32) → (Nat → Int32) → Prop) : Prop := wp_fillI 40 0 (v_items 6) (fun _ u2_items_i6 => post () (va_up v_items 6 u2_items_i6) (upd v_lanes 6 p1) (upd v_sizes 6 p2))
abbrev rmX4_lay_r6 : Room := { frames := 1, cells := 0, slots := 0, locals := 23 }
set_option maxHeartbeats 4000000 in
set_option maxRecDepth 100000 in
theorem ccX4_lay_r6 (l : Launch) (D : va_G) (cy : Nat → ClassId) (h_this : Nat) (h_items : Nat) (h_lanes : Nat) (h_sizes : Nat) (r_items : Nat → Nat) (v_items : Nat → Nat → Int32) (v_lanes : Nat → Int32) (v_sizes : Nat → Int32) (p1 : Int32) (p2 : Int32) (post : Unit → (Nat → Nat → Int32) → (Nat → Int32) → (Nat → Int32) → Prop) (hF : wpX4_lay_r6 p1 p2 v_items v_lanes v_sizes post) : Ct l D cy miX4_lay rmX4_lay_r6 emV NP [.ref h_this, .int 6, .int p1, .int p2] [(h_this, .inr (3, [.ref h_items, .ref h_lanes, .ref h_sizes])), (h_items, .inl (cy 5, 8, .inr (.inr (.inr (.inr (rO r_items)))))), (h_lanes, .inl (cy 0, 8, .inl v_lanes)), (h_sizes, .inl (cy 0, 8, .inl v_sizes)), (r_items 0, .inl (cy 0, 40, .inl (v_items 0))), (r_items 1, .inl (cy 0, 40, .inl (v_items 1))), (r_items 2, .inl (cy 0, 40, .inl (v_items 2))), (r_items 3, .inl (cy 0, 40, .inl (v_items 3))), (r_items 4, .inl (cy 0, 40, .inl (v_items 4))), (r_items 5, .inl (cy 0, 40, .inl (v_items 5))), (r_items 6, .inl (cy 0, 40, .inl (v_items 6))), (r_items 7, .inl (cy 0, 40, .inl (v_items 7)))] (fun r w1 => ∃ (w_items : Nat → Nat → Int32) (w_lanes : Nat → Int32) (w_sizes : Nat → Int32), w1 = [(h_this, .inr (3, [.ref h_items, .ref h_lanes, .ref h_sizes])), (h_items, .inl (cy 5, 8, .inr (.inr (.inr (.inr (rO r_items)))))), (h_lanes, .inl (cy 0, 8, .inl w_lanes)), (h_sizes, .inl (cy 0, 8, .inl w_sizes)), (r_items 0, .inl (cy 0, 40, .inl (w_items 0))), (r_items 1, .inl (cy 0, 40, .inl (w_items 1))), (r_items 2, .inl (cy 0, 40, .inl (w_items 2))), (r_items 3, .inl (cy 0, 40, .inl (w_items 3))), (r_items 4, .inl (cy 0, 40, .inl (w_items 4))), (r_items 5, .inl (cy 0, 40, .inl (w_items 5))), (r_items 6, .inl (cy 0, 40, .inl (w_items 6))), (r_items 7, .inl (cy 0, 40, .inl (w_items 7)))] ∧ post r w_items w_lanes w_sizes) := by
  refine Ct.of (by decide) (Nat.le_of_ble_eq_true rfl) ?_
  intro p e s m args below meth c A ls Q C hQ hA hI hP hD hS hl
  obtain ⟨hx, hb, hr, hml, hown, hts, hK, hlk, hnm⟩ := id C
  have hb : c.code = cX4_lay := hb
  have hml : c.maxLocals = 4 := hml
  have hown : s.vm.findClass RX4 = some m.cls := hown
  have hl : lv_has ls 4 [(0, .ref h_this), (1, .int 6), (2, .int p1), (3, .int p2)] := hl
  unfold wpX4_lay_r6 at hF
  refine lv_aload_n hx hb dX4_lay_0 rfl (lv_at hl 0 rfl) ?_
  refine va_get (D := D) (ci := 3) (v := .ref h_items) (C := RX4) (T := TX4) (N := 3) hx hb hts inTX4 hown hK.1 hP 0 rfl rfl 0 (by decide) (hts _ t1_37) (fun _ h9 => h9) rfl dX4_lay_1 ?_
  refine lv_iload_n hx hb dX4_lay_4 rfl (lv_at hl 1 rfl) ?_
  refine s_aldg (j := 6) (y := r_items 6) hx hb hK.1 hP 1 5 rfl rfl (vi (by decide)) (by decide) rfl dX4_lay_5 ?_
  refine lv_iconst (v := 0) hx hb dX4_lay_6 (by decide) ?_
  refine cS_t (As := [.ref (r_items 6), .int 0]) (wr := [(h_this, .inr (3, [.ref h_items, .ref h_lanes, .ref h_sizes])), (h_items, .inl (cy 5, 8, .inr (.inr (.inr (.inr (rO r_items)))))), (h_lanes, .inl (cy 0, 8, .inl v_lanes)), (h_sizes, .inl (cy 0, 8, .inl v_sizes)), (r_items 0, .inl (cy 0, 40, .inl (v_items 0))), (r_items 1, .inl (cy 0, 40, .inl (v_items 1))), (r_items 2, .inl (cy 0, 40, .inl (v_items 2))), (r_items 3, .inl (cy 0, 40, .inl (v_items 3))), (r_items 4, .inl (cy 0, 40, .inl (v_items 4))), (r_items 5, .inl (cy 0, 40, .inl (v_items 5))), (r_items 7, .inl (cy 0, 40, .inl (v_items 7)))]) C hA hP hD hS mfJ7_fill_53178 t1_35 t1_34 (c_fillI l D cy 40 (by decide) (r_items 6) (v_items 6) 0 _ hF) [10] [0, 1, 2, 3, 4, 5, 6, 7, 8, 9, 11] rfl rfl (by decide) (by decide) (by decide) PO.np rfl hl.1 rfl (Nat.le_of_ble_eq_true rfl) dX4_lay_7 ⟨Nat.le_of_ble_eq_true rfl, Nat.le_of_ble_eq_true rfl⟩ ⟨Nat.le_of_ble_eq_true rfl, Nat.le_of_ble_eq_true rfl⟩ ?_
  rintro ⟨⟩ w1 H locs ⟨u2_items_i6, rfl, hF⟩ hP hD hS
  have hP : va_P D CL [(h_this, .inr (3, [.ref h_items, .ref h_lanes, .ref h_sizes])), (h_items, .inl (cy 5, 8, .inr (.inr (.inr (.inr (rO r_items)))))), (h_lanes, .inl (cy 0, 8, .inl v_lanes)), (h_sizes, .inl (cy 0, 8, .inl v_sizes)), (r_items 0, .inl (cy 0, 40, .inl ((va_up v_items 6 u2_items_i6) 0))), (r_items 1, .inl (cy 0, 40, .inl ((va_up v_items 6 u2_items_i6) 1))), (r_items 2, .inl (cy 0, 40, .inl ((va_up v_items 6 u2_items_i6) 2))), (r_items 3, .inl (cy 0, 40, .inl ((va_up v_items 6 u2_items_i6) 3))), (r_items 4, .inl (cy 0, 40, .inl ((va_up v_items 6 u2_items_i6) 4))), (r_items 5, .inl (cy 0, 40, .inl ((va_up v_items 6 u2_items_i6) 5))), (r_items 7, .inl (cy 0, 40, .inl ((va_up v_items 6 u2_items_i6) 7))), (r_items 6, .inl (cy 0, 40, .inl ((va_up v_items 6 u2_items_i6) 6)))] H := hP
  have hD : va_D A [(h_this, .inr (3, [.ref h_items, .ref h_lanes, .ref h_sizes])), (h_items, .inl (cy 5, 8, .inr (.inr (.inr (.inr (rO r_items)))))), (h_lanes, .inl (cy 0, 8, .inl v_lanes)), (h_sizes, .inl (cy 0, 8, .inl v_sizes)), (r_items 0, .inl (cy 0, 40, .inl ((va_up v_items 6 u2_items_i6) 0))), (r_items 1, .inl (cy 0, 40, .inl ((va_up v_items 6 u2_items_i6) 1))), (r_items 2, .inl (cy 0, 40, .inl ((va_up v_items 6 u2_items_i6) 2))), (r_items 3, .inl (cy 0, 40, .inl ((va_up v_items 6 u2_items_i6) 3))), (r_items 4, .inl (cy 0, 40, .inl ((va_up v_items 6 u2_items_i6) 4))), (r_items 5, .inl (cy 0, 40, .inl ((va_up v_items 6 u2_items_i6) 5))), (r_items 7, .inl (cy 0, 40, .inl ((va_up v_items 6 u2_items_i6) 7))), (r_items 6, .inl (cy 0, 40, .inl ((va_up v_items 6 u2_items_i6) 6)))] := hD
  refine W.eq (g2 := F0 m 10 ls []) rfl ?_
  refine lv_aload_n hx hb dX4_lay_10 rfl (lv_at hl 0 rfl) ?_
  refine va_get (D := D) (ci := 3) (v := .ref h_lanes) (C := RX4) (T := TX4) (N := 3) hx hb hts inTX4 hown hK.1 hP 0 rfl rfl 1 (by decide) (hts _ t1_38) (fun _ h9 => h9) rfl dX4_lay_11 ?_
  refine lv_iload_n hx hb dX4_lay_14 rfl (lv_at hl 1 rfl) ?_
  refine lv_iload_n hx hb dX4_lay_15 rfl (lv_at hl 2 rfl) ?_
  refine s_iast (j := 6) hx hb hK.1 hP hD hS 2 0 rfl rfl (vi (by decide)) (by decide) dX4_lay_16 (fun H locs hP hD hS => ?_)
  have hP : va_P D CL [(h_this, .inr (3, [.ref h_items, .ref h_lanes, .ref h_sizes])), (h_items, .inl (cy 5, 8, .inr (.inr (.inr (.inr (rO r_items)))))), (h_lanes, .inl (cy 0, 8, .inl (upd v_lanes 6 p1))), (h_sizes, .inl (cy 0, 8, .inl v_sizes)), (r_items 0, .inl (cy 0, 40, .inl ((va_up v_items 6 u2_items_i6) 0))), (r_items 1, .inl (cy 0, 40, .inl ((va_up v_items 6 u2_items_i6) 1))), (r_items 2, .inl (cy 0, 40, .inl ((va_up v_items 6 u2_items_i6) 2))), (r_items 3, .inl (cy 0, 40, .inl ((va_up v_items 6 u2_items_i6) 3))), (r_items 4, .inl (cy 0, 40, .inl ((va_up v_items 6 u2_items_i6) 4))), (r_items 5, .inl (cy 0, 40, .inl ((va_up v_items 6 u2_items_i6) 5))), (r_items 7, .inl (cy 0, 40, .inl ((va_up v_items 6 u2_items_i6) 7))), (r_items 6, .inl (cy 0, 40, .inl ((va_up v_items 6 u2_items_i6) 6)))] H := hP
  have hD : va_D A [(h_this, .inr (3, [.ref h_items, .ref h_lanes, .ref h_sizes])), (h_items, .inl (cy 5, 8, .inr (.inr (.inr (.inr (rO r_items)))))), (h_lanes, .inl (cy 0, 8, .inl (upd v_lanes 6 p1))), (h_sizes, .inl (cy 0, 8, .inl v_sizes)), (r_items 0, .inl (cy 0, 40, .inl ((va_up v_items 6 u2_items_i6) 0))), (r_items 1, .inl (cy 0, 40, .inl ((va_up v_items 6 u2_items_i6) 1))), (r_items 2, .inl (cy 0, 40, .inl ((va_up v_items 6 u2_items_i6) 2))), (r_items 3, .inl (cy 0, 40, .inl ((va_up v_items 6 u2_items_i6) 3))), (r_items 4, .inl (cy 0, 40, .inl ((va_up v_items 6 u2_items_i6) 4))), (r_items 5, .inl (cy 0, 40, .inl ((va_up v_items 6 u2_items_i6) 5))), (r_items 7, .inl (cy 0, 40, .inl ((va_up v_items 6 u2_items_i6) 7))), (r_items 6, .inl (cy 0, 40, .inl ((va_up v_items 6 u2_items_i6) 6)))] := hD
  refine lv_aload_n hx hb dX4_lay_17 rfl (lv_at hl 0 rfl) ?_
  refine va_get (D := D) (ci := 3) (v := .ref h_sizes) (C := RX4) (T := TX4) (N := 3) hx hb hts inTX4 hown hK.1 hP 0 rfl rfl 2 (by decide) (hts _ t1_39) (fun _ h9 => h9) rfl dX4_lay_18 ?_
  refine lv_iload_n hx hb dX4_lay_21 rfl (lv_at hl 1 rfl) ?_
  refine lv_iload_n hx hb dX4_lay_22 rfl (lv_at hl 3 rfl) ?_
  refine s_iast (j := 6) hx hb hK.1 hP hD hS 3 0 rfl rfl (vi (by decide)) (by decide) dX4_lay_23 (fun H locs hP hD hS => ?_)
  have hP : va_P D CL [(h_this, .inr (3, [.ref h_items, .ref h_lanes, .ref h_sizes])), (h_items, .inl (cy 5, 8, .inr (.inr (.inr (.inr (rO r_items)))))), (h_lanes, .inl (cy 0, 8, .inl (upd v_lanes 6 p1))), (h_sizes, .inl (cy 0, 8, .inl (upd v_sizes 6 p2))), (r_items 0, .inl (cy 0, 40, .inl ((va_up v_items 6 u2_items_i6) 0))), (r_items 1, .inl (cy 0, 40, .inl ((va_up v_items 6 u2_items_i6) 1))), (r_items 2, .inl (cy 0, 40, .inl ((va_up v_items 6 u2_items_i6) 2))), (r_items 3, .inl (cy 0, 40, .inl ((va_up v_items 6 u2_items_i6) 3))), (r_items 4, .inl (cy 0, 40, .inl ((va_up v_items 6 u2_items_i6) 4))), (r_items 5, .inl (cy 0, 40, .inl ((va_up v_items 6 u2_items_i6) 5))), (r_items 7, .inl (cy 0, 40, .inl ((va_up v_items 6 u2_items_i6) 7))), (r_items 6, .inl (cy 0, 40, .inl ((va_up v_items 6 u2_items_i6) 6)))] H := hP
  have hD : va_D A [(h_this, .inr (3, [.ref h_items, .ref h_lanes, .ref h_sizes])), (h_items, .inl (cy 5, 8, .inr (.inr (.inr (.inr (rO r_items)))))), (h_lanes, .inl (cy 0, 8, .inl (upd v_lanes 6 p1))), (h_sizes, .inl (cy 0, 8, .inl (upd v_sizes 6 p2))), (r_items 0, .inl (cy 0, 40, .inl ((va_up v_items 6 u2_items_i6) 0))), (r_items 1, .inl (cy 0, 40, .inl ((va_up v_items 6 u2_items_i6) 1))), (r_items 2, .inl (cy 0, 40, .inl ((va_up v_items 6 u2_items_i6) 2))), (r_items 3, .inl (cy 0, 40, .inl ((va_up v_items 6 u2_items_i6) 3))), (r_items 4, .inl (cy 0, 40, .inl ((va_up v_items 6 u2_items_i6) 4))), (r_items 5, .inl (cy 0, 40, .inl ((va_up v_items 6 u2_items_i6) 5))), (r_items 7, .inl (cy 0, 40, .inl ((va_up v_items 6 u2_items_i6) 7))), (r_items 6, .inl (cy 0, 40, .inl ((va_up v_items 6 u2_items_i6) 6)))] := hD
  have hP : va_P D CL [(h_this, .inr (3, [.ref h_items, .ref h_lanes, .ref h_sizes])), (h_items, .inl (cy 5, 8, .inr (.inr (.inr (.inr (rO r_items)))))), (h_lanes, .inl (cy 0, 8, .inl (upd v_lanes 6 p1))), (h_sizes, .inl (cy 0, 8, .inl (upd v_sizes 6 p2))), (r_items 0, .inl (cy 0, 40, .inl ((va_up v_items 6 u2_items_i6) 0))), (r_items 1, .inl (cy 0, 40, .inl ((va_up v_items 6 u2_items_i6) 1))), (r_items 2, .inl (cy 0, 40, .inl ((va_up v_items 6 u2_items_i6) 2))), (r_items 3, .inl (cy 0, 40, .inl ((va_up v_items 6 u2_items_i6) 3))), (r_items 4, .inl (cy 0, 40, .inl ((va_up v_items 6 u2_items_i6) 4))), (r_items 5, .inl (cy 0, 40, .inl ((va_up v_items 6 u2_items_i6) 5))), (r_items 6, .inl (cy 0, 40, .inl ((va_up v_items 6 u2_items_i6) 6))), (r_items 7, .inl (cy 0, 40, .inl ((va_up v_items 6 u2_items_i6) 7)))] H := (hP.sub [0, 1, 2, 3, 4, 5, 6, 7, 8, 9, 11, 10] rfl)
  have hD : va_D A [(h_this, .inr (3, [.ref h_items, .ref h_lanes, .ref h_sizes])), (h_items, .inl (cy 5, 8, .inr (.inr (.inr (.inr (rO r_items)))))), (h_lanes, .inl (cy 0, 8, .inl (upd v_lanes 6 p1))), (h_sizes, .inl (cy 0, 8, .inl (upd v_sizes 6 p2))), (r_items 0, .inl (cy 0, 40, .inl ((va_up v_items 6 u2_items_i6) 0))), (r_items 1, .inl (cy 0, 40, .inl ((va_up v_items 6 u2_items_i6) 1))), (r_items 2, .inl (cy 0, 40, .inl ((va_up v_items 6 u2_items_i6) 2))), (r_items 3, .inl (cy 0, 40, .inl ((va_up v_items 6 u2_items_i6) 3))), (r_items 4, .inl (cy 0, 40, .inl ((va_up v_items 6 u2_items_i6) 4))), (r_items 5, .inl (cy 0, 40, .inl ((va_up v_items 6 u2_items_i6) 5))), (r_items 6, .inl (cy 0, 40, .inl ((va_up v_items 6 u2_items_i6) 6))), (r_items 7, .inl (cy 0, 40, .inl ((va_up v_items 6 u2_items_i6) 7)))] := (hD.sub [0, 1, 2, 3, 4, 5, 6, 7, 8, 9, 11, 10] (by decide) rfl)
  exact rt_v C hQ rfl hP hD hS ⟨(va_up v_items 6 u2_items_i6), (upd v_lanes 6 p1), (upd v_sizes 6 p2), rfl, hF⟩ dX4_lay_24

def wjX4_put_r6_33 (v_lanes : Nat → Int32) (post : Int32 → (Nat → Nat → Int32) → Prop) (l2 : Int32) (l4 : Int32) (w_items : Nat → Nat → Int32) : Prop := vp_in l2 40 ∧ (post l4 (va_up w_items 6 (upd (w_items 6) ((l2).toNatClampNeg) l4)))
def wpX4_put_r6 (p1 : Int32) (p2 : Int32) (v_lanes : Nat → Int32) (v_items : Nat → Nat → Int32) (post : Int32 → (Nat → Nat → Int32) → Prop) : Prop := (¬ (v_lanes 6) = 0 → ((¬ (v_lanes 6) = 1 → (wjX4_put_r6_33 v_lanes post p1 p2 v_items)) ∧ ((v_lanes 6) = 1 → (wjX4_put_r6_33 v_lanes post p1 ((p2).toInt16.toInt32) v_items)))) ∧ ((v_lanes 6) = 0 → (wjX4_put_r6_33 v_lanes post p1 ((p2).toInt8.toInt32) v_items))
abbrev rmX4_put_r6 : Room := { frames := 0, cells := 0, slots := 0, locals := 0 }
set_option maxHeartbeats 4000000 in
set_option maxRecDepth 100000 in
theorem ccX4_put_r6 (l : Launch) (D : va_G) (cy : Nat → ClassId) (h_this : Nat) (h_lanes : Nat) (h_items : Nat) (r_items : Nat → Nat) (x_sizes : Value) (v_lanes : Nat → Int32) (v_items : Nat → Nat → Int32) (p1 : Int32) (p2 : Int32) (post : Int32 → (Nat → Nat → Int32) → Prop) (hF : wpX4_put_r6 p1 p2 v_lanes v_items post) : Ct l D cy miX4_put rmX4_put_r6 emI NP [.ref h_this, .int 6, .int p1, .int p2] [(h_this, .inr (3, [.ref h_items, .ref h_lanes, x_sizes])), (h_lanes, .inl (cy 0, 8, .inl v_lanes)), (h_items, .inl (cy 5, 8, .inr (.inr (.inr (.inr (rO r_items)))))), (r_items 0, .inl (cy 0, 40, .inl (v_items 0))), (r_items 1, .inl (cy 0, 40, .inl (v_items 1))), (r_items 2, .inl (cy 0, 40, .inl (v_items 2))), (r_items 3, .inl (cy 0, 40, .inl (v_items 3))), (r_items 4, .inl (cy 0, 40, .inl (v_items 4))), (r_items 5, .inl (cy 0, 40, .inl (v_items 5))), (r_items 6, .inl (cy 0, 40, .inl (v_items 6))), (r_items 7, .inl (cy 0, 40, .inl (v_items 7)))] (fun r w1 => ∃ (w_items : Nat → Nat → Int32), w1 = [(h_this, .inr (3, [.ref h_items, .ref h_lanes, x_sizes])), (h_lanes, .inl (cy 0, 8, .inl v_lanes)), (h_items, .inl (cy 5, 8, .inr (.inr (.inr (.inr (rO r_items)))))), (r_items 0, .inl (cy 0, 40, .inl (w_items 0))), (r_items 1, .inl (cy 0, 40, .inl (w_items 1))), (r_items 2, .inl (cy 0, 40, .inl (w_items 2))), (r_items 3, .inl (cy 0, 40, .inl (w_items 3))), (r_items 4, .inl (cy 0, 40, .inl (w_items 4))), (r_items 5, .inl (cy 0, 40, .inl (w_items 5))), (r_items 6, .inl (cy 0, 40, .inl (w_items 6))), (r_items 7, .inl (cy 0, 40, .inl (w_items 7)))] ∧ post r w_items) := by
  refine Ct.of (by decide) (Nat.le_of_ble_eq_true rfl) ?_
  intro p e s m args below meth c A ls Q C hQ hA hI hP hD hS hl
  obtain ⟨hx, hb, hr, hml, hown, hts, hK, hlk, hnm⟩ := id C
  have hb : c.code = cX4_put := hb
  have hml : c.maxLocals = 5 := hml
  have hown : s.vm.findClass RX4 = some m.cls := hown
  have hl : lv_has ls 5 [(0, .ref h_this), (1, .int 6), (2, .int p1), (3, .int p2)] := hl
  have J_33 : ∀ (l2 : Int32) (l4 : Int32) (w_items : Nat → Nat → Int32) (H : Heap) (locs : List Loc) (ls : Array Slot), va_P D CL [(h_this, .inr (3, [.ref h_items, .ref h_lanes, x_sizes])), (h_lanes, .inl (cy 0, 8, .inl v_lanes)), (h_items, .inl (cy 5, 8, .inr (.inr (.inr (.inr (rO r_items)))))), (r_items 0, .inl (cy 0, 40, .inl (w_items 0))), (r_items 1, .inl (cy 0, 40, .inl (w_items 1))), (r_items 2, .inl (cy 0, 40, .inl (w_items 2))), (r_items 3, .inl (cy 0, 40, .inl (w_items 3))), (r_items 4, .inl (cy 0, 40, .inl (w_items 4))), (r_items 5, .inl (cy 0, 40, .inl (w_items 5))), (r_items 6, .inl (cy 0, 40, .inl (w_items 6))), (r_items 7, .inl (cy 0, 40, .inl (w_items 7)))] H → va_D A [(h_this, .inr (3, [.ref h_items, .ref h_lanes, x_sizes])), (h_lanes, .inl (cy 0, 8, .inl v_lanes)), (h_items, .inl (cy 5, 8, .inr (.inr (.inr (.inr (rO r_items)))))), (r_items 0, .inl (cy 0, 40, .inl (w_items 0))), (r_items 1, .inl (cy 0, 40, .inl (w_items 1))), (r_items 2, .inl (cy 0, 40, .inl (w_items 2))), (r_items 3, .inl (cy 0, 40, .inl (w_items 3))), (r_items 4, .inl (cy 0, 40, .inl (w_items 4))), (r_items 5, .inl (cy 0, 40, .inl (w_items 5))), (r_items 6, .inl (cy 0, 40, .inl (w_items 6))), (r_items 7, .inl (cy 0, 40, .inl (w_items 7)))] → va_S A s.heap H locs → lv_has ls 5 [(0, .ref h_this), (1, .int 6), (2, .int l2), (4, .int l4)] → wjX4_put_r6_33 v_lanes post l2 l4 w_items → W p l e rmX4_put_r6 s m args below meth c H locs 0 0 Q (F0 m 33 ls []) := by
    intro l2 l4 w_items H locs ls  hP hD hS hl hF
    unfold wjX4_put_r6_33 at hF
    refine lv_aload_n hx hb dX4_put_33 rfl (lv_at hl 0 rfl) ?_
    refine va_get (D := D) (ci := 3) (v := .ref h_items) (C := RX4) (T := TX4) (N := 3) hx hb hts inTX4 hown hK.1 hP 0 rfl rfl 0 (by decide) (hts _ t1_37) (fun _ h9 => h9) rfl dX4_put_34 ?_
    refine lv_iload_n hx hb dX4_put_37 rfl (lv_at hl 1 rfl) ?_
    refine s_aldg (j := 6) (y := r_items 6) hx hb hK.1 hP 2 5 rfl rfl (vi (by decide)) (by decide) rfl dX4_put_38 ?_
    refine lv_iload_n hx hb dX4_put_39 rfl (lv_at hl 2 rfl) ?_
    refine lv_iload hx hb dX4_put_40 (lv_at hl 3 rfl) ?_
    obtain ⟨hi1, hF⟩ := hF
    refine s_iast (j := (l2).toNatClampNeg) hx hb hK.1 hP hD hS 9 0 rfl rfl hi1 rfl dX4_put_42 (fun H locs hP hD hS => ?_)
    have hP : va_P D CL [(h_this, .inr (3, [.ref h_items, .ref h_lanes, x_sizes])), (h_lanes, .inl (cy 0, 8, .inl v_lanes)), (h_items, .inl (cy 5, 8, .inr (.inr (.inr (.inr (rO r_items)))))), (r_items 0, .inl (cy 0, 40, .inl ((va_up w_items 6 (upd (w_items 6) ((l2).toNatClampNeg) l4)) 0))), (r_items 1, .inl (cy 0, 40, .inl ((va_up w_items 6 (upd (w_items 6) ((l2).toNatClampNeg) l4)) 1))), (r_items 2, .inl (cy 0, 40, .inl ((va_up w_items 6 (upd (w_items 6) ((l2).toNatClampNeg) l4)) 2))), (r_items 3, .inl (cy 0, 40, .inl ((va_up w_items 6 (upd (w_items 6) ((l2).toNatClampNeg) l4)) 3))), (r_items 4, .inl (cy 0, 40, .inl ((va_up w_items 6 (upd (w_items 6) ((l2).toNatClampNeg) l4)) 4))), (r_items 5, .inl (cy 0, 40, .inl ((va_up w_items 6 (upd (w_items 6) ((l2).toNatClampNeg) l4)) 5))), (r_items 6, .inl (cy 0, 40, .inl ((va_up w_items 6 (upd (w_items 6) ((l2).toNatClampNeg) l4)) 6))), (r_items 7, .inl (cy 0, 40, .inl ((va_up w_items 6 (upd (w_items 6) ((l2).toNatClampNeg) l4)) 7)))] H := hP
    have hD : va_D A [(h_this, .inr (3, [.ref h_items, .ref h_lanes, x_sizes])), (h_lanes, .inl (cy 0, 8, .inl v_lanes)), (h_items, .inl (cy 5, 8, .inr (.inr (.inr (.inr (rO r_items)))))), (r_items 0, .inl (cy 0, 40, .inl ((va_up w_items 6 (upd (w_items 6) ((l2).toNatClampNeg) l4)) 0))), (r_items 1, .inl (cy 0, 40, .inl ((va_up w_items 6 (upd (w_items 6) ((l2).toNatClampNeg) l4)) 1))), (r_items 2, .inl (cy 0, 40, .inl ((va_up w_items 6 (upd (w_items 6) ((l2).toNatClampNeg) l4)) 2))), (r_items 3, .inl (cy 0, 40, .inl ((va_up w_items 6 (upd (w_items 6) ((l2).toNatClampNeg) l4)) 3))), (r_items 4, .inl (cy 0, 40, .inl ((va_up w_items 6 (upd (w_items 6) ((l2).toNatClampNeg) l4)) 4))), (r_items 5, .inl (cy 0, 40, .inl ((va_up w_items 6 (upd (w_items 6) ((l2).toNatClampNeg) l4)) 5))), (r_items 6, .inl (cy 0, 40, .inl ((va_up w_items 6 (upd (w_items 6) ((l2).toNatClampNeg) l4)) 6))), (r_items 7, .inl (cy 0, 40, .inl ((va_up w_items 6 (upd (w_items 6) ((l2).toNatClampNeg) l4)) 7)))] := hD
    refine lv_iload hx hb dX4_put_43 (lv_at hl 3 rfl) ?_
    exact rt_i C hQ rfl hP hD hS ⟨(va_up w_items 6 (upd (w_items 6) ((l2).toNatClampNeg) l4)), rfl, hF⟩ dX4_put_45
  unfold wpX4_put_r6 at hF
  refine lv_iload_n hx hb dX4_put_0 rfl (lv_at hl 3 rfl) ?_
  refine lv_istore (lv' := [(4, .int p2), (0, .ref h_this), (1, .int 6), (2, .int p1), (3, .int p2)]) hx hb dX4_put_1 hl (by decide) rfl (fun ls hl => ?_)
  refine lv_aload_n hx hb dX4_put_3 rfl (lv_at hl 1 rfl) ?_
  refine va_get (D := D) (ci := 3) (v := .ref h_lanes) (C := RX4) (T := TX4) (N := 3) hx hb hts inTX4 hown hK.1 hP 0 rfl rfl 1 (by decide) (hts _ t1_38) (fun _ h9 => h9) rfl dX4_put_4 ?_
  refine lv_iload_n hx hb dX4_put_7 rfl (lv_at hl 2 rfl) ?_
  refine s_iald (j := 6) hx hb hK.1 hP 1 0 rfl rfl (vi (by decide)) (by decide) dX4_put_8 ?_
  refine lv_if_ne (tgt := 19) hx hb dX4_put_9 (by decide) (fun c_ => ?_) (fun c_ => ?_)
  · have hF := hF.1 c_
    refine lv_aload_n hx hb dX4_put_19 rfl (lv_at hl 1 rfl) ?_
    refine va_get (D := D) (ci := 3) (v := .ref h_lanes) (C := RX4) (T := TX4) (N := 3) hx hb hts inTX4 hown hK.1 hP 0 rfl rfl 1 (by decide) (hts _ t1_38) (fun _ h9 => h9) rfl dX4_put_20 ?_
    refine lv_iload_n hx hb dX4_put_23 rfl (lv_at hl 2 rfl) ?_
    refine s_iald (j := 6) hx hb hK.1 hP 1 0 rfl rfl (vi (by decide)) (by decide) dX4_put_24 ?_
    refine lv_iconst (v := 1) hx hb dX4_put_25 (by decide) ?_
    refine lv_icmp_ne (tgt := 33) hx hb dX4_put_26 (by decide) (fun c_ => ?_) (fun c_ => ?_)
    · have hF := hF.1 c_
      exact J_33 p1 p2 v_items _ _ ls  hP hD hS (lv_sub hl [1, 2, 3, 0] rfl) hF
    · have hF := hF.2 c_
      refine lv_iload_n hx hb dX4_put_29 rfl (lv_at hl 4 rfl) ?_
      refine lv_i2s hx hb dX4_put_30 rfl ?_
      refine lv_istore (lv' := [(4, .int ((p2).toInt16.toInt32)), (0, .ref h_this), (1, .int 6), (2, .int p1), (3, .int p2)]) hx hb dX4_put_31 hl (by decide) rfl (fun ls hl => ?_)
      exact J_33 p1 ((p2).toInt16.toInt32) v_items _ _ ls  hP hD hS (lv_sub hl [1, 2, 3, 0] rfl) hF
  · have hF := hF.2 c_
    refine lv_iload_n hx hb dX4_put_12 rfl (lv_at hl 4 rfl) ?_
    refine lv_i2b hx hb dX4_put_13 rfl ?_
    refine lv_istore (lv' := [(4, .int ((p2).toInt8.toInt32)), (0, .ref h_this), (1, .int 6), (2, .int p1), (3, .int p2)]) hx hb dX4_put_14 hl (by decide) rfl (fun ls hl => ?_)
    refine lv_goto (tgt := 33) hx hb dX4_put_16 (by decide) ?_
    exact J_33 p1 ((p2).toInt8.toInt32) v_items _ _ ls  hP hD hS (lv_sub hl [1, 2, 3, 0] rfl) hF

def wpX4_itemAt_r7 (p1 : Int32) (v_items : Nat → Nat → Int32) (post : Int32 → Prop) : Prop := vp_in p1 40 ∧ (post ((v_items 7) ((p1).toNatClampNeg)))
abbrev rmX4_itemAt_r7 : Room := { frames := 0, cells := 0, slots := 0, locals := 0 }
set_option maxHeartbeats 4000000 in
set_option maxRecDepth 100000 in
theorem ccX4_itemAt_r7 (l : Launch) (D : va_G) (cy : Nat → ClassId) (h_this : Nat) (h_items : Nat) (r_items : Nat → Nat) (x_lanes : Value) (x_sizes : Value) (v_items : Nat → Nat → Int32) (p1 : Int32) (post : Int32 → Prop) (hF : wpX4_itemAt_r7 p1 v_items post) : Cr l D cy miX4_itemAt rmX4_itemAt_r7 emI NP [.ref h_this, .int 7, .int p1] [(h_this, .inr (3, [.ref h_items, x_lanes, x_sizes])), (h_items, .inl (cy 5, 8, .inr (.inr (.inr (.inr (rO r_items)))))), (r_items 0, .inl (cy 0, 40, .inl (v_items 0))), (r_items 1, .inl (cy 0, 40, .inl (v_items 1))), (r_items 2, .inl (cy 0, 40, .inl (v_items 2))), (r_items 3, .inl (cy 0, 40, .inl (v_items 3))), (r_items 4, .inl (cy 0, 40, .inl (v_items 4))), (r_items 5, .inl (cy 0, 40, .inl (v_items 5))), (r_items 6, .inl (cy 0, 40, .inl (v_items 6))), (r_items 7, .inl (cy 0, 40, .inl (v_items 7)))] post := by
  refine Cr.of (by decide) (Nat.le_of_ble_eq_true rfl) ?_
  intro p e s m args below meth c ls Q C hQ hO hP hl
  obtain ⟨hx, hb, hr, hml, hown, hts, hK, hlk, hnm⟩ := id C
  have hb : c.code = cX4_itemAt := hb
  have hml : c.maxLocals = 3 := hml
  have hown : s.vm.findClass RX4 = some m.cls := hown
  have hl : lv_has ls 3 [(0, .ref h_this), (1, .int 7), (2, .int p1)] := hl
  unfold wpX4_itemAt_r7 at hF
  refine lv_aload_n hx hb dX4_itemAt_0 rfl (lv_at hl 0 rfl) ?_
  refine va_get (D := D) (ci := 3) (v := .ref h_items) (C := RX4) (T := TX4) (N := 3) hx hb hts inTX4 hown hK.1 hP 0 rfl rfl 0 (by decide) (hts _ t1_37) (fun _ h9 => h9) rfl dX4_itemAt_1 ?_
  refine lv_iload_n hx hb dX4_itemAt_4 rfl (lv_at hl 1 rfl) ?_
  refine s_aldg (j := 7) (y := r_items 7) hx hb hK.1 hP 1 5 rfl rfl (vi (by decide)) (by decide) rfl dX4_itemAt_5 ?_
  refine lv_iload_n hx hb dX4_itemAt_6 rfl (lv_at hl 2 rfl) ?_
  obtain ⟨hi1, hF⟩ := hF
  refine s_iald (j := (p1).toNatClampNeg) hx hb hK.1 hP 9 0 rfl rfl hi1 rfl dX4_itemAt_7 ?_
  exact rr_i C hQ rfl hF dX4_itemAt_8

def wpX4_lay_r7 (p1 : Int32) (p2 : Int32) (v_items : Nat → Nat → Int32) (v_lanes : Nat → Int32) (v_sizes : Nat → Int32) (post : Unit → (Nat → Nat → Int32) → (Nat → Int32) → (Nat → Int32) → Prop) : Prop := wp_fillI 40 0 (v_items 7) (fun _ u2_items_i7 => post () (va_up v_items 7 u2_items_i7) (upd v_lanes 7 p1) (upd v_sizes 7 p2))
abbrev rmX4_lay_r7 : Room := { frames := 1, cells := 0, slots := 0, locals := 23 }
set_option maxHeartbeats 4000000 in
set_option maxRecDepth 100000 in
theorem ccX4_lay_r7 (l : Launch) (D : va_G) (cy : Nat → ClassId) (h_this : Nat) (h_items : Nat) (h_lanes : Nat) (h_sizes : Nat) (r_items : Nat → Nat) (v_items : Nat → Nat → Int32) (v_lanes : Nat → Int32) (v_sizes : Nat → Int32) (p1 : Int32) (p2 : Int32) (post : Unit → (Nat → Nat → Int32) → (Nat → Int32) → (Nat → Int32) → Prop) (hF : wpX4_lay_r7 p1 p2 v_items v_lanes v_sizes post) : Ct l D cy miX4_lay rmX4_lay_r7 emV NP [.ref h_this, .int 7, .int p1, .int p2] [(h_this, .inr (3, [.ref h_items, .ref h_lanes, .ref h_sizes])), (h_items, .inl (cy 5, 8, .inr (.inr (.inr (.inr (rO r_items)))))), (h_lanes, .inl (cy 0, 8, .inl v_lanes)), (h_sizes, .inl (cy 0, 8, .inl v_sizes)), (r_items 0, .inl (cy 0, 40, .inl (v_items 0))), (r_items 1, .inl (cy 0, 40, .inl (v_items 1))), (r_items 2, .inl (cy 0, 40, .inl (v_items 2))), (r_items 3, .inl (cy 0, 40, .inl (v_items 3))), (r_items 4, .inl (cy 0, 40, .inl (v_items 4))), (r_items 5, .inl (cy 0, 40, .inl (v_items 5))), (r_items 6, .inl (cy 0, 40, .inl (v_items 6))), (r_items 7, .inl (cy 0, 40, .inl (v_items 7)))] (fun r w1 => ∃ (w_items : Nat → Nat → Int32) (w_lanes : Nat → Int32) (w_sizes : Nat → Int32), w1 = [(h_this, .inr (3, [.ref h_items, .ref h_lanes, .ref h_sizes])), (h_items, .inl (cy 5, 8, .inr (.inr (.inr (.inr (rO r_items)))))), (h_lanes, .inl (cy 0, 8, .inl w_lanes)), (h_sizes, .inl (cy 0, 8, .inl w_sizes)), (r_items 0, .inl (cy 0, 40, .inl (w_items 0))), (r_items 1, .inl (cy 0, 40, .inl (w_items 1))), (r_items 2, .inl (cy 0, 40, .inl (w_items 2))), (r_items 3, .inl (cy 0, 40, .inl (w_items 3))), (r_items 4, .inl (cy 0, 40, .inl (w_items 4))), (r_items 5, .inl (cy 0, 40, .inl (w_items 5))), (r_items 6, .inl (cy 0, 40, .inl (w_items 6))), (r_items 7, .inl (cy 0, 40, .inl (w_items 7)))] ∧ post r w_items w_lanes w_sizes) := by
  refine Ct.of (by decide) (Nat.le_of_ble_eq_true rfl) ?_
  intro p e s m args below meth c A ls Q C hQ hA hI hP hD hS hl
  obtain ⟨hx, hb, hr, hml, hown, hts, hK, hlk, hnm⟩ := id C
  have hb : c.code = cX4_lay := hb
  have hml : c.maxLocals = 4 := hml
  have hown : s.vm.findClass RX4 = some m.cls := hown
  have hl : lv_has ls 4 [(0, .ref h_this), (1, .int 7), (2, .int p1), (3, .int p2)] := hl
  unfold wpX4_lay_r7 at hF
  refine lv_aload_n hx hb dX4_lay_0 rfl (lv_at hl 0 rfl) ?_
  refine va_get (D := D) (ci := 3) (v := .ref h_items) (C := RX4) (T := TX4) (N := 3) hx hb hts inTX4 hown hK.1 hP 0 rfl rfl 0 (by decide) (hts _ t1_37) (fun _ h9 => h9) rfl dX4_lay_1 ?_
  refine lv_iload_n hx hb dX4_lay_4 rfl (lv_at hl 1 rfl) ?_
  refine s_aldg (j := 7) (y := r_items 7) hx hb hK.1 hP 1 5 rfl rfl (vi (by decide)) (by decide) rfl dX4_lay_5 ?_
  refine lv_iconst (v := 0) hx hb dX4_lay_6 (by decide) ?_
  refine cS_t (As := [.ref (r_items 7), .int 0]) (wr := [(h_this, .inr (3, [.ref h_items, .ref h_lanes, .ref h_sizes])), (h_items, .inl (cy 5, 8, .inr (.inr (.inr (.inr (rO r_items)))))), (h_lanes, .inl (cy 0, 8, .inl v_lanes)), (h_sizes, .inl (cy 0, 8, .inl v_sizes)), (r_items 0, .inl (cy 0, 40, .inl (v_items 0))), (r_items 1, .inl (cy 0, 40, .inl (v_items 1))), (r_items 2, .inl (cy 0, 40, .inl (v_items 2))), (r_items 3, .inl (cy 0, 40, .inl (v_items 3))), (r_items 4, .inl (cy 0, 40, .inl (v_items 4))), (r_items 5, .inl (cy 0, 40, .inl (v_items 5))), (r_items 6, .inl (cy 0, 40, .inl (v_items 6)))]) C hA hP hD hS mfJ7_fill_53178 t1_35 t1_34 (c_fillI l D cy 40 (by decide) (r_items 7) (v_items 7) 0 _ hF) [11] [0, 1, 2, 3, 4, 5, 6, 7, 8, 9, 10] rfl rfl (by decide) (by decide) (by decide) PO.np rfl hl.1 rfl (Nat.le_of_ble_eq_true rfl) dX4_lay_7 ⟨Nat.le_of_ble_eq_true rfl, Nat.le_of_ble_eq_true rfl⟩ ⟨Nat.le_of_ble_eq_true rfl, Nat.le_of_ble_eq_true rfl⟩ ?_
  rintro ⟨⟩ w1 H locs ⟨u2_items_i7, rfl, hF⟩ hP hD hS
  have hP : va_P D CL [(h_this, .inr (3, [.ref h_items, .ref h_lanes, .ref h_sizes])), (h_items, .inl (cy 5, 8, .inr (.inr (.inr (.inr (rO r_items)))))), (h_lanes, .inl (cy 0, 8, .inl v_lanes)), (h_sizes, .inl (cy 0, 8, .inl v_sizes)), (r_items 0, .inl (cy 0, 40, .inl ((va_up v_items 7 u2_items_i7) 0))), (r_items 1, .inl (cy 0, 40, .inl ((va_up v_items 7 u2_items_i7) 1))), (r_items 2, .inl (cy 0, 40, .inl ((va_up v_items 7 u2_items_i7) 2))), (r_items 3, .inl (cy 0, 40, .inl ((va_up v_items 7 u2_items_i7) 3))), (r_items 4, .inl (cy 0, 40, .inl ((va_up v_items 7 u2_items_i7) 4))), (r_items 5, .inl (cy 0, 40, .inl ((va_up v_items 7 u2_items_i7) 5))), (r_items 6, .inl (cy 0, 40, .inl ((va_up v_items 7 u2_items_i7) 6))), (r_items 7, .inl (cy 0, 40, .inl ((va_up v_items 7 u2_items_i7) 7)))] H := hP
  have hD : va_D A [(h_this, .inr (3, [.ref h_items, .ref h_lanes, .ref h_sizes])), (h_items, .inl (cy 5, 8, .inr (.inr (.inr (.inr (rO r_items)))))), (h_lanes, .inl (cy 0, 8, .inl v_lanes)), (h_sizes, .inl (cy 0, 8, .inl v_sizes)), (r_items 0, .inl (cy 0, 40, .inl ((va_up v_items 7 u2_items_i7) 0))), (r_items 1, .inl (cy 0, 40, .inl ((va_up v_items 7 u2_items_i7) 1))), (r_items 2, .inl (cy 0, 40, .inl ((va_up v_items 7 u2_items_i7) 2))), (r_items 3, .inl (cy 0, 40, .inl ((va_up v_items 7 u2_items_i7) 3))), (r_items 4, .inl (cy 0, 40, .inl ((va_up v_items 7 u2_items_i7) 4))), (r_items 5, .inl (cy 0, 40, .inl ((va_up v_items 7 u2_items_i7) 5))), (r_items 6, .inl (cy 0, 40, .inl ((va_up v_items 7 u2_items_i7) 6))), (r_items 7, .inl (cy 0, 40, .inl ((va_up v_items 7 u2_items_i7) 7)))] := hD
  refine W.eq (g2 := F0 m 10 ls []) rfl ?_
  refine lv_aload_n hx hb dX4_lay_10 rfl (lv_at hl 0 rfl) ?_
  refine va_get (D := D) (ci := 3) (v := .ref h_lanes) (C := RX4) (T := TX4) (N := 3) hx hb hts inTX4 hown hK.1 hP 0 rfl rfl 1 (by decide) (hts _ t1_38) (fun _ h9 => h9) rfl dX4_lay_11 ?_
  refine lv_iload_n hx hb dX4_lay_14 rfl (lv_at hl 1 rfl) ?_
  refine lv_iload_n hx hb dX4_lay_15 rfl (lv_at hl 2 rfl) ?_
  refine s_iast (j := 7) hx hb hK.1 hP hD hS 2 0 rfl rfl (vi (by decide)) (by decide) dX4_lay_16 (fun H locs hP hD hS => ?_)
  have hP : va_P D CL [(h_this, .inr (3, [.ref h_items, .ref h_lanes, .ref h_sizes])), (h_items, .inl (cy 5, 8, .inr (.inr (.inr (.inr (rO r_items)))))), (h_lanes, .inl (cy 0, 8, .inl (upd v_lanes 7 p1))), (h_sizes, .inl (cy 0, 8, .inl v_sizes)), (r_items 0, .inl (cy 0, 40, .inl ((va_up v_items 7 u2_items_i7) 0))), (r_items 1, .inl (cy 0, 40, .inl ((va_up v_items 7 u2_items_i7) 1))), (r_items 2, .inl (cy 0, 40, .inl ((va_up v_items 7 u2_items_i7) 2))), (r_items 3, .inl (cy 0, 40, .inl ((va_up v_items 7 u2_items_i7) 3))), (r_items 4, .inl (cy 0, 40, .inl ((va_up v_items 7 u2_items_i7) 4))), (r_items 5, .inl (cy 0, 40, .inl ((va_up v_items 7 u2_items_i7) 5))), (r_items 6, .inl (cy 0, 40, .inl ((va_up v_items 7 u2_items_i7) 6))), (r_items 7, .inl (cy 0, 40, .inl ((va_up v_items 7 u2_items_i7) 7)))] H := hP
  have hD : va_D A [(h_this, .inr (3, [.ref h_items, .ref h_lanes, .ref h_sizes])), (h_items, .inl (cy 5, 8, .inr (.inr (.inr (.inr (rO r_items)))))), (h_lanes, .inl (cy 0, 8, .inl (upd v_lanes 7 p1))), (h_sizes, .inl (cy 0, 8, .inl v_sizes)), (r_items 0, .inl (cy 0, 40, .inl ((va_up v_items 7 u2_items_i7) 0))), (r_items 1, .inl (cy 0, 40, .inl ((va_up v_items 7 u2_items_i7) 1))), (r_items 2, .inl (cy 0, 40, .inl ((va_up v_items 7 u2_items_i7) 2))), (r_items 3, .inl (cy 0, 40, .inl ((va_up v_items 7 u2_items_i7) 3))), (r_items 4, .inl (cy 0, 40, .inl ((va_up v_items 7 u2_items_i7) 4))), (r_items 5, .inl (cy 0, 40, .inl ((va_up v_items 7 u2_items_i7) 5))), (r_items 6, .inl (cy 0, 40, .inl ((va_up v_items 7 u2_items_i7) 6))), (r_items 7, .inl (cy 0, 40, .inl ((va_up v_items 7 u2_items_i7) 7)))] := hD
  refine lv_aload_n hx hb dX4_lay_17 rfl (lv_at hl 0 rfl) ?_
  refine va_get (D := D) (ci := 3) (v := .ref h_sizes) (C := RX4) (T := TX4) (N := 3) hx hb hts inTX4 hown hK.1 hP 0 rfl rfl 2 (by decide) (hts _ t1_39) (fun _ h9 => h9) rfl dX4_lay_18 ?_
  refine lv_iload_n hx hb dX4_lay_21 rfl (lv_at hl 1 rfl) ?_
  refine lv_iload_n hx hb dX4_lay_22 rfl (lv_at hl 3 rfl) ?_
  refine s_iast (j := 7) hx hb hK.1 hP hD hS 3 0 rfl rfl (vi (by decide)) (by decide) dX4_lay_23 (fun H locs hP hD hS => ?_)
  have hP : va_P D CL [(h_this, .inr (3, [.ref h_items, .ref h_lanes, .ref h_sizes])), (h_items, .inl (cy 5, 8, .inr (.inr (.inr (.inr (rO r_items)))))), (h_lanes, .inl (cy 0, 8, .inl (upd v_lanes 7 p1))), (h_sizes, .inl (cy 0, 8, .inl (upd v_sizes 7 p2))), (r_items 0, .inl (cy 0, 40, .inl ((va_up v_items 7 u2_items_i7) 0))), (r_items 1, .inl (cy 0, 40, .inl ((va_up v_items 7 u2_items_i7) 1))), (r_items 2, .inl (cy 0, 40, .inl ((va_up v_items 7 u2_items_i7) 2))), (r_items 3, .inl (cy 0, 40, .inl ((va_up v_items 7 u2_items_i7) 3))), (r_items 4, .inl (cy 0, 40, .inl ((va_up v_items 7 u2_items_i7) 4))), (r_items 5, .inl (cy 0, 40, .inl ((va_up v_items 7 u2_items_i7) 5))), (r_items 6, .inl (cy 0, 40, .inl ((va_up v_items 7 u2_items_i7) 6))), (r_items 7, .inl (cy 0, 40, .inl ((va_up v_items 7 u2_items_i7) 7)))] H := hP
  have hD : va_D A [(h_this, .inr (3, [.ref h_items, .ref h_lanes, .ref h_sizes])), (h_items, .inl (cy 5, 8, .inr (.inr (.inr (.inr (rO r_items)))))), (h_lanes, .inl (cy 0, 8, .inl (upd v_lanes 7 p1))), (h_sizes, .inl (cy 0, 8, .inl (upd v_sizes 7 p2))), (r_items 0, .inl (cy 0, 40, .inl ((va_up v_items 7 u2_items_i7) 0))), (r_items 1, .inl (cy 0, 40, .inl ((va_up v_items 7 u2_items_i7) 1))), (r_items 2, .inl (cy 0, 40, .inl ((va_up v_items 7 u2_items_i7) 2))), (r_items 3, .inl (cy 0, 40, .inl ((va_up v_items 7 u2_items_i7) 3))), (r_items 4, .inl (cy 0, 40, .inl ((va_up v_items 7 u2_items_i7) 4))), (r_items 5, .inl (cy 0, 40, .inl ((va_up v_items 7 u2_items_i7) 5))), (r_items 6, .inl (cy 0, 40, .inl ((va_up v_items 7 u2_items_i7) 6))), (r_items 7, .inl (cy 0, 40, .inl ((va_up v_items 7 u2_items_i7) 7)))] := hD
  exact rt_v C hQ rfl hP hD hS ⟨(va_up v_items 7 u2_items_i7), (upd v_lanes 7 p1), (upd v_sizes 7 p2), rfl, hF⟩ dX4_lay_24

def wjX4_put_r7_33 (v_lanes : Nat → Int32) (post : Int32 → (Nat → Nat → Int32) → Prop) (l2 : Int32) (l4 : Int32) (w_items : Nat → Nat → Int32) : Prop := vp_in l2 40 ∧ (post l4 (va_up w_items 7 (upd (w_items 7) ((l2).toNatClampNeg) l4)))
def wpX4_put_r7 (p1 : Int32) (p2 : Int32) (v_lanes : Nat → Int32) (v_items : Nat → Nat → Int32) (post : Int32 → (Nat → Nat → Int32) → Prop) : Prop := (¬ (v_lanes 7) = 0 → ((¬ (v_lanes 7) = 1 → (wjX4_put_r7_33 v_lanes post p1 p2 v_items)) ∧ ((v_lanes 7) = 1 → (wjX4_put_r7_33 v_lanes post p1 ((p2).toInt16.toInt32) v_items)))) ∧ ((v_lanes 7) = 0 → (wjX4_put_r7_33 v_lanes post p1 ((p2).toInt8.toInt32) v_items))
abbrev rmX4_put_r7 : Room := { frames := 0, cells := 0, slots := 0, locals := 0 }
set_option maxHeartbeats 4000000 in
set_option maxRecDepth 100000 in
theorem ccX4_put_r7 (l : Launch) (D : va_G) (cy : Nat → ClassId) (h_this : Nat) (h_lanes : Nat) (h_items : Nat) (r_items : Nat → Nat) (x_sizes : Value) (v_lanes : Nat → Int32) (v_items : Nat → Nat → Int32) (p1 : Int32) (p2 : Int32) (post : Int32 → (Nat → Nat → Int32) → Prop) (hF : wpX4_put_r7 p1 p2 v_lanes v_items post) : Ct l D cy miX4_put rmX4_put_r7 emI NP [.ref h_this, .int 7, .int p1, .int p2] [(h_this, .inr (3, [.ref h_items, .ref h_lanes, x_sizes])), (h_lanes, .inl (cy 0, 8, .inl v_lanes)), (h_items, .inl (cy 5, 8, .inr (.inr (.inr (.inr (rO r_items)))))), (r_items 0, .inl (cy 0, 40, .inl (v_items 0))), (r_items 1, .inl (cy 0, 40, .inl (v_items 1))), (r_items 2, .inl (cy 0, 40, .inl (v_items 2))), (r_items 3, .inl (cy 0, 40, .inl (v_items 3))), (r_items 4, .inl (cy 0, 40, .inl (v_items 4))), (r_items 5, .inl (cy 0, 40, .inl (v_items 5))), (r_items 6, .inl (cy 0, 40, .inl (v_items 6))), (r_items 7, .inl (cy 0, 40, .inl (v_items 7)))] (fun r w1 => ∃ (w_items : Nat → Nat → Int32), w1 = [(h_this, .inr (3, [.ref h_items, .ref h_lanes, x_sizes])), (h_lanes, .inl (cy 0, 8, .inl v_lanes)), (h_items, .inl (cy 5, 8, .inr (.inr (.inr (.inr (rO r_items)))))), (r_items 0, .inl (cy 0, 40, .inl (w_items 0))), (r_items 1, .inl (cy 0, 40, .inl (w_items 1))), (r_items 2, .inl (cy 0, 40, .inl (w_items 2))), (r_items 3, .inl (cy 0, 40, .inl (w_items 3))), (r_items 4, .inl (cy 0, 40, .inl (w_items 4))), (r_items 5, .inl (cy 0, 40, .inl (w_items 5))), (r_items 6, .inl (cy 0, 40, .inl (w_items 6))), (r_items 7, .inl (cy 0, 40, .inl (w_items 7)))] ∧ post r w_items) := by
  refine Ct.of (by decide) (Nat.le_of_ble_eq_true rfl) ?_
  intro p e s m args below meth c A ls Q C hQ hA hI hP hD hS hl
  obtain ⟨hx, hb, hr, hml, hown, hts, hK, hlk, hnm⟩ := id C
  have hb : c.code = cX4_put := hb
  have hml : c.maxLocals = 5 := hml
  have hown : s.vm.findClass RX4 = some m.cls := hown
  have hl : lv_has ls 5 [(0, .ref h_this), (1, .int 7), (2, .int p1), (3, .int p2)] := hl
  have J_33 : ∀ (l2 : Int32) (l4 : Int32) (w_items : Nat → Nat → Int32) (H : Heap) (locs : List Loc) (ls : Array Slot), va_P D CL [(h_this, .inr (3, [.ref h_items, .ref h_lanes, x_sizes])), (h_lanes, .inl (cy 0, 8, .inl v_lanes)), (h_items, .inl (cy 5, 8, .inr (.inr (.inr (.inr (rO r_items)))))), (r_items 0, .inl (cy 0, 40, .inl (w_items 0))), (r_items 1, .inl (cy 0, 40, .inl (w_items 1))), (r_items 2, .inl (cy 0, 40, .inl (w_items 2))), (r_items 3, .inl (cy 0, 40, .inl (w_items 3))), (r_items 4, .inl (cy 0, 40, .inl (w_items 4))), (r_items 5, .inl (cy 0, 40, .inl (w_items 5))), (r_items 6, .inl (cy 0, 40, .inl (w_items 6))), (r_items 7, .inl (cy 0, 40, .inl (w_items 7)))] H → va_D A [(h_this, .inr (3, [.ref h_items, .ref h_lanes, x_sizes])), (h_lanes, .inl (cy 0, 8, .inl v_lanes)), (h_items, .inl (cy 5, 8, .inr (.inr (.inr (.inr (rO r_items)))))), (r_items 0, .inl (cy 0, 40, .inl (w_items 0))), (r_items 1, .inl (cy 0, 40, .inl (w_items 1))), (r_items 2, .inl (cy 0, 40, .inl (w_items 2))), (r_items 3, .inl (cy 0, 40, .inl (w_items 3))), (r_items 4, .inl (cy 0, 40, .inl (w_items 4))), (r_items 5, .inl (cy 0, 40, .inl (w_items 5))), (r_items 6, .inl (cy 0, 40, .inl (w_items 6))), (r_items 7, .inl (cy 0, 40, .inl (w_items 7)))] → va_S A s.heap H locs → lv_has ls 5 [(0, .ref h_this), (1, .int 7), (2, .int l2), (4, .int l4)] → wjX4_put_r7_33 v_lanes post l2 l4 w_items → W p l e rmX4_put_r7 s m args below meth c H locs 0 0 Q (F0 m 33 ls []) := by
    intro l2 l4 w_items H locs ls  hP hD hS hl hF
    unfold wjX4_put_r7_33 at hF
    refine lv_aload_n hx hb dX4_put_33 rfl (lv_at hl 0 rfl) ?_
    refine va_get (D := D) (ci := 3) (v := .ref h_items) (C := RX4) (T := TX4) (N := 3) hx hb hts inTX4 hown hK.1 hP 0 rfl rfl 0 (by decide) (hts _ t1_37) (fun _ h9 => h9) rfl dX4_put_34 ?_
    refine lv_iload_n hx hb dX4_put_37 rfl (lv_at hl 1 rfl) ?_
    refine s_aldg (j := 7) (y := r_items 7) hx hb hK.1 hP 2 5 rfl rfl (vi (by decide)) (by decide) rfl dX4_put_38 ?_
    refine lv_iload_n hx hb dX4_put_39 rfl (lv_at hl 2 rfl) ?_
    refine lv_iload hx hb dX4_put_40 (lv_at hl 3 rfl) ?_
    obtain ⟨hi1, hF⟩ := hF
    refine s_iast (j := (l2).toNatClampNeg) hx hb hK.1 hP hD hS 10 0 rfl rfl hi1 rfl dX4_put_42 (fun H locs hP hD hS => ?_)
    have hP : va_P D CL [(h_this, .inr (3, [.ref h_items, .ref h_lanes, x_sizes])), (h_lanes, .inl (cy 0, 8, .inl v_lanes)), (h_items, .inl (cy 5, 8, .inr (.inr (.inr (.inr (rO r_items)))))), (r_items 0, .inl (cy 0, 40, .inl ((va_up w_items 7 (upd (w_items 7) ((l2).toNatClampNeg) l4)) 0))), (r_items 1, .inl (cy 0, 40, .inl ((va_up w_items 7 (upd (w_items 7) ((l2).toNatClampNeg) l4)) 1))), (r_items 2, .inl (cy 0, 40, .inl ((va_up w_items 7 (upd (w_items 7) ((l2).toNatClampNeg) l4)) 2))), (r_items 3, .inl (cy 0, 40, .inl ((va_up w_items 7 (upd (w_items 7) ((l2).toNatClampNeg) l4)) 3))), (r_items 4, .inl (cy 0, 40, .inl ((va_up w_items 7 (upd (w_items 7) ((l2).toNatClampNeg) l4)) 4))), (r_items 5, .inl (cy 0, 40, .inl ((va_up w_items 7 (upd (w_items 7) ((l2).toNatClampNeg) l4)) 5))), (r_items 6, .inl (cy 0, 40, .inl ((va_up w_items 7 (upd (w_items 7) ((l2).toNatClampNeg) l4)) 6))), (r_items 7, .inl (cy 0, 40, .inl ((va_up w_items 7 (upd (w_items 7) ((l2).toNatClampNeg) l4)) 7)))] H := hP
    have hD : va_D A [(h_this, .inr (3, [.ref h_items, .ref h_lanes, x_sizes])), (h_lanes, .inl (cy 0, 8, .inl v_lanes)), (h_items, .inl (cy 5, 8, .inr (.inr (.inr (.inr (rO r_items)))))), (r_items 0, .inl (cy 0, 40, .inl ((va_up w_items 7 (upd (w_items 7) ((l2).toNatClampNeg) l4)) 0))), (r_items 1, .inl (cy 0, 40, .inl ((va_up w_items 7 (upd (w_items 7) ((l2).toNatClampNeg) l4)) 1))), (r_items 2, .inl (cy 0, 40, .inl ((va_up w_items 7 (upd (w_items 7) ((l2).toNatClampNeg) l4)) 2))), (r_items 3, .inl (cy 0, 40, .inl ((va_up w_items 7 (upd (w_items 7) ((l2).toNatClampNeg) l4)) 3))), (r_items 4, .inl (cy 0, 40, .inl ((va_up w_items 7 (upd (w_items 7) ((l2).toNatClampNeg) l4)) 4))), (r_items 5, .inl (cy 0, 40, .inl ((va_up w_items 7 (upd (w_items 7) ((l2).toNatClampNeg) l4)) 5))), (r_items 6, .inl (cy 0, 40, .inl ((va_up w_items 7 (upd (w_items 7) ((l2).toNatClampNeg) l4)) 6))), (r_items 7, .inl (cy 0, 40, .inl ((va_up w_items 7 (upd (w_items 7) ((l2).toNatClampNeg) l4)) 7)))] := hD
    refine lv_iload hx hb dX4_put_43 (lv_at hl 3 rfl) ?_
    exact rt_i C hQ rfl hP hD hS ⟨(va_up w_items 7 (upd (w_items 7) ((l2).toNatClampNeg) l4)), rfl, hF⟩ dX4_put_45
  unfold wpX4_put_r7 at hF
  refine lv_iload_n hx hb dX4_put_0 rfl (lv_at hl 3 rfl) ?_
  refine lv_istore (lv' := [(4, .int p2), (0, .ref h_this), (1, .int 7), (2, .int p1), (3, .int p2)]) hx hb dX4_put_1 hl (by decide) rfl (fun ls hl => ?_)
  refine lv_aload_n hx hb dX4_put_3 rfl (lv_at hl 1 rfl) ?_
  refine va_get (D := D) (ci := 3) (v := .ref h_lanes) (C := RX4) (T := TX4) (N := 3) hx hb hts inTX4 hown hK.1 hP 0 rfl rfl 1 (by decide) (hts _ t1_38) (fun _ h9 => h9) rfl dX4_put_4 ?_
  refine lv_iload_n hx hb dX4_put_7 rfl (lv_at hl 2 rfl) ?_
  refine s_iald (j := 7) hx hb hK.1 hP 1 0 rfl rfl (vi (by decide)) (by decide) dX4_put_8 ?_
  refine lv_if_ne (tgt := 19) hx hb dX4_put_9 (by decide) (fun c_ => ?_) (fun c_ => ?_)
  · have hF := hF.1 c_
    refine lv_aload_n hx hb dX4_put_19 rfl (lv_at hl 1 rfl) ?_
    refine va_get (D := D) (ci := 3) (v := .ref h_lanes) (C := RX4) (T := TX4) (N := 3) hx hb hts inTX4 hown hK.1 hP 0 rfl rfl 1 (by decide) (hts _ t1_38) (fun _ h9 => h9) rfl dX4_put_20 ?_
    refine lv_iload_n hx hb dX4_put_23 rfl (lv_at hl 2 rfl) ?_
    refine s_iald (j := 7) hx hb hK.1 hP 1 0 rfl rfl (vi (by decide)) (by decide) dX4_put_24 ?_
    refine lv_iconst (v := 1) hx hb dX4_put_25 (by decide) ?_
    refine lv_icmp_ne (tgt := 33) hx hb dX4_put_26 (by decide) (fun c_ => ?_) (fun c_ => ?_)
    · have hF := hF.1 c_
      exact J_33 p1 p2 v_items _ _ ls  hP hD hS (lv_sub hl [1, 2, 3, 0] rfl) hF
    · have hF := hF.2 c_
      refine lv_iload_n hx hb dX4_put_29 rfl (lv_at hl 4 rfl) ?_
      refine lv_i2s hx hb dX4_put_30 rfl ?_
      refine lv_istore (lv' := [(4, .int ((p2).toInt16.toInt32)), (0, .ref h_this), (1, .int 7), (2, .int p1), (3, .int p2)]) hx hb dX4_put_31 hl (by decide) rfl (fun ls hl => ?_)
      exact J_33 p1 ((p2).toInt16.toInt32) v_items _ _ ls  hP hD hS (lv_sub hl [1, 2, 3, 0] rfl) hF
  · have hF := hF.2 c_
    refine lv_iload_n hx hb dX4_put_12 rfl (lv_at hl 4 rfl) ?_
    refine lv_i2b hx hb dX4_put_13 rfl ?_
    refine lv_istore (lv' := [(4, .int ((p2).toInt8.toInt32)), (0, .ref h_this), (1, .int 7), (2, .int p1), (3, .int p2)]) hx hb dX4_put_14 hl (by decide) rfl (fun ls hl => ?_)
    refine lv_goto (tgt := 33) hx hb dX4_put_16 (by decide) ?_
    exact J_33 p1 ((p2).toInt8.toInt32) v_items _ _ ls  hP hD hS (lv_sub hl [1, 2, 3, 0] rfl) hF
