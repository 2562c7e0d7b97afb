def wpJ6_bitCount_0f7a4 (p0 : Int32) (post : Int32 → Prop) : Prop := post ((((((((p0 - ((((p0).toUInt32 >>> ((1 : Int32).toUInt32 &&& Int32.toUInt32 31)).toInt32) &&& 1431655765)) &&& 858993459) + (((((p0 - ((((p0).toUInt32 >>> ((1 : Int32).toUInt32 &&& Int32.toUInt32 31)).toInt32) &&& 1431655765))).toUInt32 >>> ((2 : Int32).toUInt32 &&& Int32.toUInt32 31)).toInt32) &&& 858993459)) + ((((((p0 - ((((p0).toUInt32 >>> ((1 : Int32).toUInt32 &&& Int32.toUInt32 31)).toInt32) &&& 1431655765)) &&& 858993459) + (((((p0 - ((((p0).toUInt32 >>> ((1 : Int32).toUInt32 &&& Int32.toUInt32 31)).toInt32) &&& 1431655765))).toUInt32 >>> ((2 : Int32).toUInt32 &&& Int32.toUInt32 31)).toInt32) &&& 858993459))).toUInt32 >>> ((4 : Int32).toUInt32 &&& Int32.toUInt32 31)).toInt32)) &&& 252645135) + ((((((((p0 - ((((p0).toUInt32 >>> ((1 : Int32).toUInt32 &&& Int32.toUInt32 31)).toInt32) &&& 1431655765)) &&& 858993459) + (((((p0 - ((((p0).toUInt32 >>> ((1 : Int32).toUInt32 &&& Int32.toUInt32 31)).toInt32) &&& 1431655765))).toUInt32 >>> ((2 : Int32).toUInt32 &&& Int32.toUInt32 31)).toInt32) &&& 858993459)) + ((((((p0 - ((((p0).toUInt32 >>> ((1 : Int32).toUInt32 &&& Int32.toUInt32 31)).toInt32) &&& 1431655765)) &&& 858993459) + (((((p0 - ((((p0).toUInt32 >>> ((1 : Int32).toUInt32 &&& Int32.toUInt32 31)).toInt32) &&& 1431655765))).toUInt32 >>> ((2 : Int32).toUInt32 &&& Int32.toUInt32 31)).toInt32) &&& 858993459))).toUInt32 >>> ((4 : Int32).toUInt32 &&& Int32.toUInt32 31)).toInt32)) &&& 252645135)).toUInt32 >>> ((8 : Int32).toUInt32 &&& Int32.toUInt32 31)).toInt32)) + (((((((((p0 - ((((p0).toUInt32 >>> ((1 : Int32).toUInt32 &&& Int32.toUInt32 31)).toInt32) &&& 1431655765)) &&& 858993459) + (((((p0 - ((((p0).toUInt32 >>> ((1 : Int32).toUInt32 &&& Int32.toUInt32 31)).toInt32) &&& 1431655765))).toUInt32 >>> ((2 : Int32).toUInt32 &&& Int32.toUInt32 31)).toInt32) &&& 858993459)) + ((((((p0 - ((((p0).toUInt32 >>> ((1 : Int32).toUInt32 &&& Int32.toUInt32 31)).toInt32) &&& 1431655765)) &&& 858993459) + (((((p0 - ((((p0).toUInt32 >>> ((1 : Int32).toUInt32 &&& Int32.toUInt32 31)).toInt32) &&& 1431655765))).toUInt32 >>> ((2 : Int32).toUInt32 &&& Int32.toUInt32 31)).toInt32) &&& 858993459))).toUInt32 >>> ((4 : Int32).toUInt32 &&& Int32.toUInt32 31)).toInt32)) &&& 252645135) + ((((((((p0 - ((((p0).toUInt32 >>> ((1 : Int32).toUInt32 &&& Int32.toUInt32 31)).toInt32) &&& 1431655765)) &&& 858993459) + (((((p0 - ((((p0).toUInt32 >>> ((1 : Int32).toUInt32 &&& Int32.toUInt32 31)).toInt32) &&& 1431655765))).toUInt32 >>> ((2 : Int32).toUInt32 &&& Int32.toUInt32 31)).toInt32) &&& 858993459)) + ((((((p0 - ((((p0).toUInt32 >>> ((1 : Int32).toUInt32 &&& Int32.toUInt32 31)).toInt32) &&& 1431655765)) &&& 858993459) + (((((p0 - ((((p0).toUInt32 >>> ((1 : Int32).toUInt32 &&& Int32.toUInt32 31)).toInt32) &&& 1431655765))).toUInt32 >>> ((2 : Int32).toUInt32 &&& Int32.toUInt32 31)).toInt32) &&& 858993459))).toUInt32 >>> ((4 : Int32).toUInt32 &&& Int32.toUInt32 31)).toInt32)) &&& 252645135)).toUInt32 >>> ((8 : Int32).toUInt32 &&& Int32.toUInt32 31)).toInt32))).toUInt32 >>> ((16 : Int32).toUInt32 &&& Int32.toUInt32 31)).toInt32)) &&& 63)
abbrev miJ6_bitCount_0f7a4 : MI := (yJ6_bitCount_0f7a4, cJ6_bitCount_0f7a4, 1, (some .int))
theorem mfJ6_bitCount_0f7a4 : MF miJ6_bitCount_0f7a4 1 := ⟨t3_46, t1_17, by decide +kernel⟩
abbrev rmJ6_bitCount_0f7a4 : Room := { frames := 0, cells := 0, slots := 0, locals := 0 }
set_option maxHeartbeats 4000000 in
set_option maxRecDepth 100000 in
theorem ccJ6_bitCount_0f7a4 (l : Launch) (D : va_G) (cy : Nat → ClassId) (p0 : Int32) (post : Int32 → Prop) (hF : wpJ6_bitCount_0f7a4 p0 post) : Cr l D cy miJ6_bitCount_0f7a4 rmJ6_bitCount_0f7a4 emI NP [.int p0] [] post := by
  refine Cr.of (by decide) (Nat.le_of_ble_eq_true rfl) ?_
  intro p e s m args below meth c ls Q C hQ hO hP hl
  obtain ⟨hx, hb, hr, hml, hown, hts, hK, hlk, hnm⟩ := id C
  have hb : c.code = cJ6_bitCount_0f7a4 := hb
  have hml : c.maxLocals = 1 := hml
  have hown : s.vm.findClass RJ6 = some m.cls := hown
  have hl : lv_has ls 1 [(0, .int p0)] := hl
  unfold wpJ6_bitCount_0f7a4 at hF
  refine lv_iload_n hx hb dJ6_bitCount_0f7a4_0 rfl (lv_at hl 0 rfl) ?_
  refine lv_iload_n hx hb dJ6_bitCount_0f7a4_1 rfl (lv_at hl 0 rfl) ?_
  refine lv_iconst (v := 1) hx hb dJ6_bitCount_0f7a4_2 (by decide) ?_
  refine lv_iushr hx hb dJ6_bitCount_0f7a4_3 rfl ?_
  refine lv_ldcw hx hb hown (hts _ t3_47) dJ6_bitCount_0f7a4_4 ?_
  refine lv_iand hx hb dJ6_bitCount_0f7a4_7 ?_
  refine lv_isub hx hb dJ6_bitCount_0f7a4_8 ?_
  refine lv_istore_n (lv' := [(0, .int (p0 - ((((p0).toUInt32 >>> ((1 : Int32).toUInt32 &&& Int32.toUInt32 31)).toInt32) &&& 1431655765)))]) hx hb dJ6_bitCount_0f7a4_9 rfl hl (by decide) rfl (fun ls hl => ?_)
  refine lv_iload_n hx hb dJ6_bitCount_0f7a4_10 rfl (lv_at hl 0 rfl) ?_
  refine lv_ldcw hx hb hown (hts _ t3_48) dJ6_bitCount_0f7a4_11 ?_
  refine lv_iand hx hb dJ6_bitCount_0f7a4_14 ?_
  refine lv_iload_n hx hb dJ6_bitCount_0f7a4_15 rfl (lv_at hl 0 rfl) ?_
  refine lv_iconst (v := 2) hx hb dJ6_bitCount_0f7a4_16 (by decide) ?_
  refine lv_iushr hx hb dJ6_bitCount_0f7a4_17 rfl ?_
  refine lv_ldcw hx hb hown (hts _ t3_48) dJ6_bitCount_0f7a4_18 ?_
  refine lv_iand hx hb dJ6_bitCount_0f7a4_21 ?_
  refine lv_iadd hx hb dJ6_bitCount_0f7a4_22 ?_
  refine lv_istore_n (lv' := [(0, .int (((p0 - ((((p0).toUInt32 >>> ((1 : Int32).toUInt32 &&& Int32.toUInt32 31)).toInt32) &&& 1431655765)) &&& 858993459) + (((((p0 - ((((p0).toUInt32 >>> ((1 : Int32).toUInt32 &&& Int32.toUInt32 31)).toInt32) &&& 1431655765))).toUInt32 >>> ((2 : Int32).toUInt32 &&& Int32.toUInt32 31)).toInt32) &&& 858993459)))]) hx hb dJ6_bitCount_0f7a4_23 rfl hl (by decide) rfl (fun ls hl => ?_)
  refine lv_iload_n hx hb dJ6_bitCount_0f7a4_24 rfl (lv_at hl 0 rfl) ?_
  refine lv_iload_n hx hb dJ6_bitCount_0f7a4_25 rfl (lv_at hl 0 rfl) ?_
  refine lv_iconst (v := 4) hx hb dJ6_bitCount_0f7a4_26 (by decide) ?_
  refine lv_iushr hx hb dJ6_bitCount_0f7a4_27 rfl ?_
  refine lv_iadd hx hb dJ6_bitCount_0f7a4_28 ?_
  refine lv_ldcw hx hb hown (hts _ t3_49) dJ6_bitCount_0f7a4_29 ?_
  refine lv_iand hx hb dJ6_bitCount_0f7a4_32 ?_
  refine lv_istore_n (lv' := [(0, .int (((((p0 - ((((p0).toUInt32 >>> ((1 : Int32).toUInt32 &&& Int32.toUInt32 31)).toInt32) &&& 1431655765)) &&& 858993459) + (((((p0 - ((((p0).toUInt32 >>> ((1 : Int32).toUInt32 &&& Int32.toUInt32 31)).toInt32) &&& 1431655765))).toUInt32 >>> ((2 : Int32).toUInt32 &&& Int32.toUInt32 31)).toInt32) &&& 858993459)) + ((((((p0 - ((((p0).toUInt32 >>> ((1 : Int32).toUInt32 &&& Int32.toUInt32 31)).toInt32) &&& 1431655765)) &&& 858993459) + (((((p0 - ((((p0).toUInt32 >>> ((1 : Int32).toUInt32 &&& Int32.toUInt32 31)).toInt32) &&& 1431655765))).toUInt32 >>> ((2 : Int32).toUInt32 &&& Int32.toUInt32 31)).toInt32) &&& 858993459))).toUInt32 >>> ((4 : Int32).toUInt32 &&& Int32.toUInt32 31)).toInt32)) &&& 252645135))]) hx hb dJ6_bitCount_0f7a4_33 rfl hl (by decide) rfl (fun ls hl => ?_)
  refine lv_iload_n hx hb dJ6_bitCount_0f7a4_34 rfl (lv_at hl 0 rfl) ?_
  refine lv_iload_n hx hb dJ6_bitCount_0f7a4_35 rfl (lv_at hl 0 rfl) ?_
  refine lv_bipush (v := 8) hx hb dJ6_bitCount_0f7a4_36 (by decide) ?_
  refine lv_iushr hx hb dJ6_bitCount_0f7a4_38 rfl ?_
  refine lv_iadd hx hb dJ6_bitCount_0f7a4_39 ?_
  refine lv_istore_n (lv' := [(0, .int ((((((p0 - ((((p0).toUInt32 >>> ((1 : Int32).toUInt32 &&& Int32.toUInt32 31)).toInt32) &&& 1431655765)) &&& 858993459) + (((((p0 - ((((p0).toUInt32 >>> ((1 : Int32).toUInt32 &&& Int32.toUInt32 31)).toInt32) &&& 1431655765))).toUInt32 >>> ((2 : Int32).toUInt32 &&& Int32.toUInt32 31)).toInt32) &&& 858993459)) + ((((((p0 - ((((p0).toUInt32 >>> ((1 : Int32).toUInt32 &&& Int32.toUInt32 31)).toInt32) &&& 1431655765)) &&& 858993459) + (((((p0 - ((((p0).toUInt32 >>> ((1 : Int32).toUInt32 &&& Int32.toUInt32 31)).toInt32) &&& 1431655765))).toUInt32 >>> ((2 : Int32).toUInt32 &&& Int32.toUInt32 31)).toInt32) &&& 858993459))).toUInt32 >>> ((4 : Int32).toUInt32 &&& Int32.toUInt32 31)).toInt32)) &&& 252645135) + ((((((((p0 - ((((p0).toUInt32 >>> ((1 : Int32).toUInt32 &&& Int32.toUInt32 31)).toInt32) &&& 1431655765)) &&& 858993459) + (((((p0 - ((((p0).toUInt32 >>> ((1 : Int32).toUInt32 &&& Int32.toUInt32 31)).toInt32) &&& 1431655765))).toUInt32 >>> ((2 : Int32).toUInt32 &&& Int32.toUInt32 31)).toInt32) &&& 858993459)) + ((((((p0 - ((((p0).toUInt32 >>> ((1 : Int32).toUInt32 &&& Int32.toUInt32 31)).toInt32) &&& 1431655765)) &&& 858993459) + (((((p0 - ((((p0).toUInt32 >>> ((1 : Int32).toUInt32 &&& Int32.toUInt32 31)).toInt32) &&& 1431655765))).toUInt32 >>> ((2 : Int32).toUInt32 &&& Int32.toUInt32 31)).toInt32) &&& 858993459))).toUInt32 >>> ((4 : Int32).toUInt32 &&& Int32.toUInt32 31)).toInt32)) &&& 252645135)).toUInt32 >>> ((8 : Int32).toUInt32 &&& Int32.toUInt32 31)).toInt32)))]) hx hb dJ6_bitCount_0f7a4_40 rfl hl (by decide) rfl (fun ls hl => ?_)
  refine lv_iload_n hx hb dJ6_bitCount_0f7a4_41 rfl (lv_at hl 0 rfl) ?_
  refine lv_iload_n hx hb dJ6_bitCount_0f7a4_42 rfl (lv_at hl 0 rfl) ?_
  refine lv_bipush (v := 16) hx hb dJ6_bitCount_0f7a4_43 (by decide) ?_
  refine lv_iushr hx hb dJ6_bitCount_0f7a4_45 rfl ?_
  refine lv_iadd hx hb dJ6_bitCount_0f7a4_46 ?_
  refine lv_istore_n (lv' := [(0, .int (((((((p0 - ((((p0).toUInt32 >>> ((1 : Int32).toUInt32 &&& Int32.toUInt32 31)).toInt32) &&& 1431655765)) &&& 858993459) + (((((p0 - ((((p0).toUInt32 >>> ((1 : Int32).toUInt32 &&& Int32.toUInt32 31)).toInt32) &&& 1431655765))).toUInt32 >>> ((2 : Int32).toUInt32 &&& Int32.toUInt32 31)).toInt32) &&& 858993459)) + ((((((p0 - ((((p0).toUInt32 >>> ((1 : Int32).toUInt32 &&& Int32.toUInt32 31)).toInt32) &&& 1431655765)) &&& 858993459) + (((((p0 - ((((p0).toUInt32 >>> ((1 : Int32).toUInt32 &&& Int32.toUInt32 31)).toInt32) &&& 1431655765))).toUInt32 >>> ((2 : Int32).toUInt32 &&& Int32.toUInt32 31)).toInt32) &&& 858993459))).toUInt32 >>> ((4 : Int32).toUInt32 &&& Int32.toUInt32 31)).toInt32)) &&& 252645135) + ((((((((p0 - ((((p0).toUInt32 >>> ((1 : Int32).toUInt32 &&& Int32.toUInt32 31)).toInt32) &&& 1431655765)) &&& 858993459) + (((((p0 - ((((p0).toUInt32 >>> ((1 : Int32).toUInt32 &&& Int32.toUInt32 31)).toInt32) &&& 1431655765))).toUInt32 >>> ((2 : Int32).toUInt32 &&& Int32.toUInt32 31)).toInt32) &&& 858993459)) + ((((((p0 - ((((p0).toUInt32 >>> ((1 : Int32).toUInt32 &&& Int32.toUInt32 31)).toInt32) &&& 1431655765)) &&& 858993459) + (((((p0 - ((((p0).toUInt32 >>> ((1 : Int32).toUInt32 &&& Int32.toUInt32 31)).toInt32) &&& 1431655765))).toUInt32 >>> ((2 : Int32).toUInt32 &&& Int32.toUInt32 31)).toInt32) &&& 858993459))).toUInt32 >>> ((4 : Int32).toUInt32 &&& Int32.toUInt32 31)).toInt32)) &&& 252645135)).toUInt32 >>> ((8 : Int32).toUInt32 &&& Int32.toUInt32 31)).toInt32)) + (((((((((p0 - ((((p0).toUInt32 >>> ((1 : Int32).toUInt32 &&& Int32.toUInt32 31)).toInt32) &&& 1431655765)) &&& 858993459) + (((((p0 - ((((p0).toUInt32 >>> ((1 : Int32).toUInt32 &&& Int32.toUInt32 31)).toInt32) &&& 1431655765))).toUInt32 >>> ((2 : Int32).toUInt32 &&& Int32.toUInt32 31)).toInt32) &&& 858993459)) + ((((((p0 - ((((p0).toUInt32 >>> ((1 : Int32).toUInt32 &&& Int32.toUInt32 31)).toInt32) &&& 1431655765)) &&& 858993459) + (((((p0 - ((((p0).toUInt32 >>> ((1 : Int32).toUInt32 &&& Int32.toUInt32 31)).toInt32) &&& 1431655765))).toUInt32 >>> ((2 : Int32).toUInt32 &&& Int32.toUInt32 31)).toInt32) &&& 858993459))).toUInt32 >>> ((4 : Int32).toUInt32 &&& Int32.toUInt32 31)).toInt32)) &&& 252645135) + ((((((((p0 - ((((p0).toUInt32 >>> ((1 : Int32).toUInt32 &&& Int32.toUInt32 31)).toInt32) &&& 1431655765)) &&& 858993459) + (((((p0 - ((((p0).toUInt32 >>> ((1 : Int32).toUInt32 &&& Int32.toUInt32 31)).toInt32) &&& 1431655765))).toUInt32 >>> ((2 : Int32).toUInt32 &&& Int32.toUInt32 31)).toInt32) &&& 858993459)) + ((((((p0 - ((((p0).toUInt32 >>> ((1 : Int32).toUInt32 &&& Int32.toUInt32 31)).toInt32) &&& 1431655765)) &&& 858993459) + (((((p0 - ((((p0).toUInt32 >>> ((1 : Int32).toUInt32 &&& Int32.toUInt32 31)).toInt32) &&& 1431655765))).toUInt32 >>> ((2 : Int32).toUInt32 &&& Int32.toUInt32 31)).toInt32) &&& 858993459))).toUInt32 >>> ((4 : Int32).toUInt32 &&& Int32.toUInt32 31)).toInt32)) &&& 252645135)).toUInt32 >>> ((8 : Int32).toUInt32 &&& Int32.toUInt32 31)).toInt32))).toUInt32 >>> ((16 : Int32).toUInt32 &&& Int32.toUInt32 31)).toInt32)))]) hx hb dJ6_bitCount_0f7a4_47 rfl hl (by decide) rfl (fun ls hl => ?_)
  refine lv_iload_n hx hb dJ6_bitCount_0f7a4_48 rfl (lv_at hl 0 rfl) ?_
  refine lv_bipush (v := 63) hx hb dJ6_bitCount_0f7a4_49 (by decide) ?_
  refine lv_iand hx hb dJ6_bitCount_0f7a4_51 ?_
  exact rr_i C hQ rfl hF dJ6_bitCount_0f7a4_52

def wpX8_begin (p0 : Int32) (p1 : Int32) (v_left : Int32) (v_purse : Int32) (v_memory : Int32) (post : Unit → Int32 → Int32 → Int32 → Prop) : Prop := post () 0 p0 p1
abbrev miX8_begin : MI := (yX8_begin, cX8_begin, 3, none)
theorem mfX8_begin : MF miX8_begin 2 := ⟨t4_43, t1_7, by decide +kernel⟩
abbrev rmX8_begin : Room := { frames := 0, cells := 0, slots := 0, locals := 0 }
set_option maxHeartbeats 4000000 in
set_option maxRecDepth 100000 in
theorem ccX8_begin (l : Launch) (D : va_G) (cy : Nat → ClassId) (h_this : Nat) (x_numbers : Value) (v_left : Int32) (v_purse : Int32) (v_memory : Int32) (p0 : Int32) (p1 : Int32) (post : Unit → Int32 → Int32 → Int32 → Prop) (hF : wpX8_begin p0 p1 v_left v_purse v_memory post) : Ct l D cy miX8_begin rmX8_begin emV NP [.ref h_this, .int p0, .int p1] [(h_this, .inr (7, [x_numbers, .int v_left, .int v_purse, .int v_memory]))] (fun r w1 => ∃ (w_left : Int32) (w_purse : Int32) (w_memory : Int32), w1 = [(h_this, .inr (7, [x_numbers, .int w_left, .int w_purse, .int w_memory]))] ∧ post r w_left w_purse w_memory) := by
  refine Ct.of (by decide) (Nat.le_of_ble_eq_true rfl) ?_
  intro p e s m args below meth c A ls Q C hQ hA hI hP hD hS hl
  obtain ⟨hx, hb, hr, hml, hown, hts, hK, hlk, hnm⟩ := id C
  have hb : c.code = cX8_begin := hb
  have hml : c.maxLocals = 3 := hml
  have hown : s.vm.findClass RX8 = some m.cls := hown
  have hl : lv_has ls 3 [(0, .ref h_this), (1, .int p0), (2, .int p1)] := hl
  unfold wpX8_begin at hF
  refine lv_aload_n hx hb dX8_begin_0 rfl (lv_at hl 0 rfl) ?_
  refine lv_iconst (v := 0) hx hb dX8_begin_1 (by decide) ?_
  refine va_put (D := D) (ci := 7) (v := .int 0) (ty := .int) (C := RX8) (T := TX8) (N := 4) hx hb hts inTX8 tyX8 tyX8_ok nmX8 hown hK.1 hP hD hS 0 rfl rfl 1 (by decide) (hts _ t1_163) (fun _ h9 => h9) rfl (tyX8_ok 1 (by decide)) rfl rfl (Nat.le_of_ble_eq_true rfl) dX8_begin_2 (fun H locs hP hD hS => ?_)
  have hP : va_P D CL [(h_this, .inr (7, [x_numbers, .int 0, .int v_purse, .int v_memory]))] H := hP
  have hD : va_D A [(h_this, .inr (7, [x_numbers, .int 0, .int v_purse, .int v_memory]))] := hD
  refine lv_aload_n hx hb dX8_begin_5 rfl (lv_at hl 0 rfl) ?_
  refine lv_iload_n hx hb dX8_begin_6 rfl (lv_at hl 1 rfl) ?_
  refine va_put (D := D) (ci := 7) (v := .int p0) (ty := .int) (C := RX8) (T := TX8) (N := 4) hx hb hts inTX8 tyX8 tyX8_ok nmX8 hown hK.1 hP hD hS 0 rfl rfl 2 (by decide) (hts _ t1_164) (fun _ h9 => h9) rfl (tyX8_ok 2 (by decide)) rfl rfl (Nat.le_of_ble_eq_true rfl) dX8_begin_7 (fun H locs hP hD hS => ?_)
  have hP : va_P D CL [(h_this, .inr (7, [x_numbers, .int 0, .int p0, .int v_memory]))] H := hP
  have hD : va_D A [(h_this, .inr (7, [x_numbers, .int 0, .int p0, .int v_memory]))] := hD
  refine lv_aload_n hx hb dX8_begin_10 rfl (lv_at hl 0 rfl) ?_
  refine lv_iload_n hx hb dX8_begin_11 rfl (lv_at hl 2 rfl) ?_
  refine va_put (D := D) (ci := 7) (v := .int p1) (ty := .int) (C := RX8) (T := TX8) (N := 4) hx hb hts inTX8 tyX8 tyX8_ok nmX8 hown hK.1 hP hD hS 0 rfl rfl 3 (by decide) (hts _ t1_166) (fun _ h9 => h9) rfl (tyX8_ok 3 (by decide)) rfl rfl (Nat.le_of_ble_eq_true rfl) dX8_begin_12 (fun H locs hP hD hS => ?_)
  have hP : va_P D CL [(h_this, .inr (7, [x_numbers, .int 0, .int p0, .int p1]))] H := hP
  have hD : va_D A [(h_this, .inr (7, [x_numbers, .int 0, .int p0, .int p1]))] := hD
  exact rt_v C hQ rfl hP hD hS ⟨0, p0, p1, rfl, hF⟩ dX8_begin_15

def wjX8_numberAt_12 (v_left : Int32) (v_numbers : Nat → Int32) (post : Int32 → Prop) : Prop := post (-1000000)
def wpX8_numberAt (p0 : Int32) (v_left : Int32) (v_numbers : Nat → Int32) (post : Int32 → Prop) : Prop := (p0 < 0 → (wjX8_numberAt_12 v_left v_numbers post)) ∧ (¬ p0 < 0 → ((p0 < v_left → (vp_in p0 16 ∧ (post (v_numbers ((p0).toNatClampNeg))))) ∧ (¬ p0 < v_left → (wjX8_numberAt_12 v_left v_numbers post))))
abbrev miX8_numberAt : MI := (yX8_numberAt, cX8_numberAt, 2, (some .int))
theorem mfX8_numberAt : MF miX8_numberAt 1 := ⟨t4_102, t1_7, by decide +kernel⟩
abbrev rmX8_numberAt : Room := { frames := 0, cells := 0, slots := 0, locals := 0 }
set_option maxHeartbeats 4000000 in
set_option maxRecDepth 100000 in
theorem ccX8_numberAt (l : Launch) (D : va_G) (cy : Nat → ClassId) (h_this : Nat) (h_numbers : Nat) (v_left : Int32) (v_purse : Int32) (v_memory : Int32) (v_numbers : Nat → Int32) (p0 : Int32) (post : Int32 → Prop) (hF : wpX8_numberAt p0 v_left v_numbers post) : Cr l D cy miX8_numberAt rmX8_numberAt emI NP [.ref h_this, .int p0] [(h_this, .inr (7, [.ref h_numbers, .int v_left, .int v_purse, .int v_memory])), (h_numbers, .inl (cy 0, 16, .inl v_numbers))] post := by
  refine Cr.of (by decide) (Nat.le_of_ble_eq_true rfl) ?_
  intro p e s m args below meth c ls Q C hQ hO hP hl
  obtain ⟨hx, hb, hr, hml, hown, hts, hK, hlk, hnm⟩ := id C
  have hb : c.code = cX8_numberAt := hb
  have hml : c.maxLocals = 2 := hml
  have hown : s.vm.findClass RX8 = some m.cls := hown
  have hl : lv_has ls 2 [(0, .ref h_this), (1, .int p0)] := hl
  have J_12 : ∀  (ls : Array Slot), lv_has ls 2 [] → wjX8_numberAt_12 v_left v_numbers post  → W p l e rmX8_numberAt s m args below meth c s.heap [] 0 0 Q (F0 m 12 ls []) := by
    intro  ls  hl hF
    unfold wjX8_numberAt_12 at hF
    refine lv_ldc hx hb hown (hts _ t4_103) dX8_numberAt_12 ?_
    refine lv_goto (tgt := 23) hx hb dX8_numberAt_14 (by decide) ?_
    exact rr_i C hQ rfl hF dX8_numberAt_23
  unfold wpX8_numberAt at hF
  refine lv_iload_n hx hb dX8_numberAt_0 rfl (lv_at hl 1 rfl) ?_
  refine lv_if_lt (tgt := 12) hx hb dX8_numberAt_1 (by decide) (fun c_ => ?_) (fun c_ => ?_)
  · have hF := hF.1 c_
    exact J_12  ls  (lv_sub hl [] rfl) hF
  · have hF := hF.2 c_
    refine lv_iload_n hx hb dX8_numberAt_4 rfl (lv_at hl 1 rfl) ?_
    refine lv_aload_n hx hb dX8_numberAt_5 rfl (lv_at hl 0 rfl) ?_
    refine va_get (D := D) (ci := 7) (v := .int v_left) (C := RX8) (T := TX8) (N := 4) hx hb hts inTX8 hown hK.1 hP 0 rfl rfl 1 (by decide) (hts _ t1_163) (fun _ h9 => h9) rfl dX8_numberAt_6 ?_
    refine lv_icmp_lt (tgt := 17) hx hb dX8_numberAt_9 (by decide) (fun c_ => ?_) (fun c_ => ?_)
    · have hF := hF.1 c_
      refine lv_aload_n hx hb dX8_numberAt_17 rfl (lv_at hl 0 rfl) ?_
      refine va_get (D := D) (ci := 7) (v := .ref h_numbers) (C := RX8) (T := TX8) (N := 4) hx hb hts inTX8 hown hK.1 hP 0 rfl rfl 0 (by decide) (hts _ t1_162) (fun _ h9 => h9) rfl dX8_numberAt_18 ?_
      refine lv_iload_n hx hb dX8_numberAt_21 rfl (lv_at hl 1 rfl) ?_
      obtain ⟨hi1, hF⟩ := hF
      refine s_iald (j := (p0).toNatClampNeg) hx hb hK.1 hP 1 0 rfl rfl hi1 rfl dX8_numberAt_22 ?_
      exact rr_i C hQ rfl hF dX8_numberAt_23
    · have hF := hF.2 c_
      exact J_12  ls  (lv_sub hl [] rfl) hF

def wpX4_isNumber (p0 : Int32) (post : Bool → Prop) : Prop := (p0 < 0 → (post false)) ∧ (¬ p0 < 0 → ((8 ≤ p0 → (post false)) ∧ (¬ 8 ≤ p0 → (post true))))
abbrev miX4_isNumber : MI := (yX4_isNumber, cX4_isNumber, 1, (some .boolean))
theorem mfX4_isNumber : MF miX4_isNumber 1 := ⟨t1_220, t1_2, by decide +kernel⟩
abbrev rmX4_isNumber : Room := { frames := 0, cells := 0, slots := 0, locals := 0 }
set_option maxHeartbeats 4000000 in
set_option maxRecDepth 100000 in
theorem ccX4_isNumber (l : Launch) (D : va_G) (cy : Nat → ClassId) (p0 : Int32) (post : Bool → Prop) (hF : wpX4_isNumber p0 post) : Cr l D cy miX4_isNumber rmX4_isNumber emB NP [.int p0] [] post := by
  refine Cr.of (by decide) (Nat.le_of_ble_eq_true rfl) ?_
  intro p e s m args below meth c ls Q C hQ hO hP hl
  obtain ⟨hx, hb, hr, hml, hown, hts, hK, hlk, hnm⟩ := id C
  have hb : c.code = cX4_isNumber := hb
  have hml : c.maxLocals = 1 := hml
  have hown : s.vm.findClass RX4 = some m.cls := hown
  have hl : lv_has ls 1 [(0, .int p0)] := hl
  unfold wpX4_isNumber at hF
  refine lv_iload_n hx hb dX4_isNumber_0 rfl (lv_at hl 0 rfl) ?_
  refine lv_if_lt (tgt := 14) hx hb dX4_isNumber_1 (by decide) (fun c_ => ?_) (fun c_ => ?_)
  · have hF := hF.1 c_
    refine lv_iconst (v := 0) hx hb dX4_isNumber_14 (by decide) ?_
    refine W.eq (g2 := F0 m 15 ls [.int (bz false)]) rfl ?_
    exact rr_b C hQ rfl hF dX4_isNumber_15
  · have hF := hF.2 c_
    refine lv_iload_n hx hb dX4_isNumber_4 rfl (lv_at hl 0 rfl) ?_
    refine lv_bipush (v := 8) hx hb dX4_isNumber_5 (by decide) ?_
    refine lv_icmp_ge (tgt := 14) hx hb dX4_isNumber_7 (by decide) (fun c_ => ?_) (fun c_ => ?_)
    · have hF := hF.1 c_
      refine lv_iconst (v := 0) hx hb dX4_isNumber_14 (by decide) ?_
      refine W.eq (g2 := F0 m 15 ls [.int (bz false)]) rfl ?_
      exact rr_b C hQ rfl hF dX4_isNumber_15
    · have hF := hF.2 c_
      refine lv_iconst (v := 1) hx hb dX4_isNumber_10 (by decide) ?_
      refine lv_goto (tgt := 15) hx hb dX4_isNumber_11 (by decide) ?_
      refine W.eq (g2 := F0 m 15 ls [.int (bz true)]) rfl ?_
      exact rr_b C hQ rfl hF dX4_isNumber_15

def wpX4_isMissing (p0 : Int32) (v_sizes : Nat → Int32) (post : Bool → Prop) : Prop := vp_in p0 8 ∧ ((¬ (v_sizes ((p0).toNatClampNeg)) = (-1) → (post false)) ∧ ((v_sizes ((p0).toNatClampNeg)) = (-1) → (post true)))
abbrev miX4_isMissing : MI := (yX4_isMissing, cX4_isMissing, 2, (some .boolean))
theorem mfX4_isMissing : MF miX4_isMissing 1 := ⟨t2_2, t1_2, by decide +kernel⟩
abbrev rmX4_isMissing : Room := { frames := 0, cells := 0, slots := 0, locals := 0 }
set_option maxHeartbeats 4000000 in
set_option maxRecDepth 100000 in
theorem ccX4_isMissing (l : Launch) (D : va_G) (cy : Nat → ClassId) (h_this : Nat) (h_sizes : Nat) (x_items : Value) (x_lanes : Value) (v_sizes : Nat → Int32) (p0 : Int32) (post : Bool → Prop) (hF : wpX4_isMissing p0 v_sizes post) : Cr l D cy miX4_isMissing rmX4_isMissing emB NP [.ref h_this, .int p0] [(h_this, .inr (3, [x_items, x_lanes, .ref h_sizes])), (h_sizes, .inl (cy 0, 8, .inl v_sizes))] post := by
  refine Cr.of (by decide) (Nat.le_of_ble_eq_true rfl) ?_
  intro p e s m args below meth c ls Q C hQ hO hP hl
  obtain ⟨hx, hb, hr, hml, hown, hts, hK, hlk, hnm⟩ := id C
  have hb : c.code = cX4_isMissing := hb
  have hml : c.maxLocals = 2 := hml
  have hown : s.vm.findClass RX4 = some m.cls := hown
  have hl : lv_has ls 2 [(0, .ref h_this), (1, .int p0)] := hl
  unfold wpX4_isMissing at hF
  refine lv_aload_n hx hb dX4_isMissing_0 rfl (lv_at hl 0 rfl) ?_
  refine va_get (D := D) (ci := 3) (v := .ref h_sizes) (C := RX4) (T := TX4) (N := 3) hx hb hts inTX4 hown hK.1 hP 0 rfl rfl 2 (by decide) (hts _ t1_39) (fun _ h9 => h9) rfl dX4_isMissing_1 ?_
  refine lv_iload_n hx hb dX4_isMissing_4 rfl (lv_at hl 1 rfl) ?_
  obtain ⟨hi1, hF⟩ := hF
  refine s_iald (j := (p0).toNatClampNeg) hx hb hK.1 hP 1 0 rfl rfl hi1 rfl dX4_isMissing_5 ?_
  refine lv_iconst (v := (-1)) hx hb dX4_isMissing_6 (by decide) ?_
  refine lv_icmp_ne (tgt := 14) hx hb dX4_isMissing_7 (by decide) (fun c_ => ?_) (fun c_ => ?_)
  · have hF := hF.1 c_
    refine lv_iconst (v := 0) hx hb dX4_isMissing_14 (by decide) ?_
    refine W.eq (g2 := F0 m 15 ls [.int (bz false)]) rfl ?_
    exact rr_b C hQ rfl hF dX4_isMissing_15
  · have hF := hF.2 c_
    refine lv_iconst (v := 1) hx hb dX4_isMissing_10 (by decide) ?_
    refine lv_goto (tgt := 15) hx hb dX4_isMissing_11 (by decide) ?_
    refine W.eq (g2 := F0 m 15 ls [.int (bz true)]) rfl ?_
    exact rr_b C hQ rfl hF dX4_isMissing_15

def wpX4_areOfOneLane (p0 : Int32) (p1 : Int32) (v_lanes : Nat → Int32) (post : Bool → Prop) : Prop := vp_in p0 8 ∧ (vp_in p1 8 ∧ ((¬ (v_lanes ((p0).toNatClampNeg)) = (v_lanes ((p1).toNatClampNeg)) → (post false)) ∧ ((v_lanes ((p0).toNatClampNeg)) = (v_lanes ((p1).toNatClampNeg)) → (post true))))
abbrev miX4_areOfOneLane : MI := (yX4_areOfOneLane, cX4_areOfOneLane, 3, (some .boolean))
theorem mfX4_areOfOneLane : MF miX4_areOfOneLane 2 := ⟨t2_18, t1_2, by decide +kernel⟩
abbrev rmX4_areOfOneLane : Room := { frames := 0, cells := 0, slots := 0, locals := 0 }
set_option maxHeartbeats 4000000 in
set_option maxRecDepth 100000 in
theorem ccX4_areOfOneLane (l : Launch) (D : va_G) (cy : Nat → ClassId) (h_this : Nat) (h_lanes : Nat) (x_items : Value) (x_sizes : Value) (v_lanes : Nat → Int32) (p0 : Int32) (p1 : Int32) (post : Bool → Prop) (hF : wpX4_areOfOneLane p0 p1 v_lanes post) : Cr l D cy miX4_areOfOneLane rmX4_areOfOneLane emB NP [.ref h_this, .int p0, .int p1] [(h_this, .inr (3, [x_items, .ref h_lanes, x_sizes])), (h_lanes, .inl (cy 0, 8, .inl v_lanes))] post := by
  refine Cr.of (by decide) (Nat.le_of_ble_eq_true rfl) ?_
  intro p e s m args below meth c ls Q C hQ hO hP hl
  obtain ⟨hx, hb, hr, hml, hown, hts, hK, hlk, hnm⟩ := id C
  have hb : c.code = cX4_areOfOneLane := hb
  have hml : c.maxLocals = 3 := hml
  have hown : s.vm.findClass RX4 = some m.cls := hown
  have hl : lv_has ls 3 [(0, .ref h_this), (1, .int p0), (2, .int p1)] := hl
  unfold wpX4_areOfOneLane at hF
  refine lv_aload_n hx hb dX4_areOfOneLane_0 rfl (lv_at hl 0 rfl) ?_
  refine va_get (D := D) (ci := 3) (v := .ref h_lanes) (C := RX4) (T := TX4) (N := 3) hx hb hts inTX4 hown hK.1 hP 0 rfl rfl 1 (by decide) (hts _ t1_38) (fun _ h9 => h9) rfl dX4_areOfOneLane_1 ?_
  refine lv_iload_n hx hb dX4_areOfOneLane_4 rfl (lv_at hl 1 rfl) ?_
  obtain ⟨hi1, hF⟩ := hF
  refine s_iald (j := (p0).toNatClampNeg) hx hb hK.1 hP 1 0 rfl rfl hi1 rfl dX4_areOfOneLane_5 ?_
  refine lv_aload_n hx hb dX4_areOfOneLane_6 rfl (lv_at hl 0 rfl) ?_
  refine va_get (D := D) (ci := 3) (v := .ref h_lanes) (C := RX4) (T := TX4) (N := 3) hx hb hts inTX4 hown hK.1 hP 0 rfl rfl 1 (by decide) (hts _ t1_38) (fun _ h9 => h9) rfl dX4_areOfOneLane_7 ?_
  refine lv_iload_n hx hb dX4_areOfOneLane_10 rfl (lv_at hl 2 rfl) ?_
  obtain ⟨hi2, hF⟩ := hF
  refine s_iald (j := (p1).toNatClampNeg) hx hb hK.1 hP 1 0 rfl rfl hi2 rfl dX4_areOfOneLane_11 ?_
  refine lv_icmp_ne (tgt := 19) hx hb dX4_areOfOneLane_12 (by decide) (fun c_ => ?_) (fun c_ => ?_)
  · have hF := hF.1 c_
    refine lv_iconst (v := 0) hx hb dX4_areOfOneLane_19 (by decide) ?_
    refine W.eq (g2 := F0 m 20 ls [.int (bz false)]) rfl ?_
    exact rr_b C hQ rfl hF dX4_areOfOneLane_20
  · have hF := hF.2 c_
    refine lv_iconst (v := 1) hx hb dX4_areOfOneLane_15 (by decide) ?_
    refine lv_goto (tgt := 20) hx hb dX4_areOfOneLane_16 (by decide) ?_
    refine W.eq (g2 := F0 m 20 ls [.int (bz true)]) rfl ?_
    exact rr_b C hQ rfl hF dX4_areOfOneLane_20

def wpX4_hasPart (p0 : Int32) (p1 : Int32) (p2 : Int32) (v_sizes : Nat → Int32) (post : Bool → Prop) : Prop := (p1 < 0 → (post false)) ∧ (¬ p1 < 0 → ((p2 < 0 → (post false)) ∧ (¬ p2 < 0 → (vp_in p0 8 ∧ (((v_sizes ((p0).toNatClampNeg)) < p2 → (post false)) ∧ (¬ (v_sizes ((p0).toNatClampNeg)) < p2 → (vp_in p0 8 ∧ ((((v_sizes ((p0).toNatClampNeg)) - p2) < p1 → (post false)) ∧ (¬ ((v_sizes ((p0).toNatClampNeg)) - p2) < p1 → (post true))))))))))
abbrev miX4_hasPart : MI := (yX4_hasPart, cX4_hasPart, 4, (some .boolean))
theorem mfX4_hasPart : MF miX4_hasPart 3 := ⟨t2_6, t1_2, by decide +kernel⟩
abbrev rmX4_hasPart : Room := { frames := 0, cells := 0, slots := 0, locals := 0 }
set_option maxHeartbeats 4000000 in
set_option maxRecDepth 100000 in
theorem ccX4_hasPart (l : Launch) (D : va_G) (cy : Nat → ClassId) (h_this : Nat) (h_sizes : Nat) (x_items : Value) (x_lanes : Value) (v_sizes : Nat → Int32) (p0 : Int32) (p1 : Int32) (p2 : Int32) (post : Bool → Prop) (hF : wpX4_hasPart p0 p1 p2 v_sizes post) : Cr l D cy miX4_hasPart rmX4_hasPart emB NP [.ref h_this, .int p0, .int p1, .int p2] [(h_this, .inr (3, [x_items, x_lanes, .ref h_sizes])), (h_sizes, .inl (cy 0, 8, .inl v_sizes))] post := by
  refine Cr.of (by decide) (Nat.le_of_ble_eq_true rfl) ?_
  intro p e s m args below meth c ls Q C hQ hO hP hl
  obtain ⟨hx, hb, hr, hml, hown, hts, hK, hlk, hnm⟩ := id C
  have hb : c.code = cX4_hasPart := hb
  have hml : c.maxLocals = 4 := hml
  have hown : s.vm.findClass RX4 = some m.cls := hown
  have hl : lv_has ls 4 [(0, .ref h_this), (1, .int p0), (2, .int p1), (3, .int p2)] := hl
  unfold wpX4_hasPart at hF
  refine lv_iload_n hx hb dX4_hasPart_0 rfl (lv_at hl 2 rfl) ?_
  refine lv_if_lt (tgt := 34) hx hb dX4_hasPart_1 (by decide) (fun c_ => ?_) (fun c_ => ?_)
  · have hF := hF.1 c_
    refine lv_iconst (v := 0) hx hb dX4_hasPart_34 (by decide) ?_
    refine W.eq (g2 := F0 m 35 ls [.int (bz false)]) rfl ?_
    exact rr_b C hQ rfl hF dX4_hasPart_35
  · have hF := hF.2 c_
    refine lv_iload_n hx hb dX4_hasPart_4 rfl (lv_at hl 3 rfl) ?_
    refine lv_if_lt (tgt := 34) hx hb dX4_hasPart_5 (by decide) (fun c_ => ?_) (fun c_ => ?_)
    · have hF := hF.1 c_
      refine lv_iconst (v := 0) hx hb dX4_hasPart_34 (by decide) ?_
      refine W.eq (g2 := F0 m 35 ls [.int (bz false)]) rfl ?_
      exact rr_b C hQ rfl hF dX4_hasPart_35
    · have hF := hF.2 c_
      refine lv_iload_n hx hb dX4_hasPart_8 rfl (lv_at hl 3 rfl) ?_
      refine lv_aload_n hx hb dX4_hasPart_9 rfl (lv_at hl 0 rfl) ?_
      refine va_get (D := D) (ci := 3) (v := .ref h_sizes) (C := RX4) (T := TX4) (N := 3) hx hb hts inTX4 hown hK.1 hP 0 rfl rfl 2 (by decide) (hts _ t1_39) (fun _ h9 => h9) rfl dX4_hasPart_10 ?_
      refine lv_iload_n hx hb dX4_hasPart_13 rfl (lv_at hl 1 rfl) ?_
      obtain ⟨hi1, hF⟩ := hF
      refine s_iald (j := (p0).toNatClampNeg) hx hb hK.1 hP 1 0 rfl rfl hi1 rfl dX4_hasPart_14 ?_
      refine lv_icmp_gt (tgt := 34) hx hb dX4_hasPart_15 (by decide) (fun c_ => ?_) (fun c_ => ?_)
      · have hF := hF.1 c_
        refine lv_iconst (v := 0) hx hb dX4_hasPart_34 (by decide) ?_
        refine W.eq (g2 := F0 m 35 ls [.int (bz false)]) rfl ?_
        exact rr_b C hQ rfl hF dX4_hasPart_35
      · have hF := hF.2 c_
        refine lv_iload_n hx hb dX4_hasPart_18 rfl (lv_at hl 2 rfl) ?_
        refine lv_aload_n hx hb dX4_hasPart_19 rfl (lv_at hl 0 rfl) ?_
        refine va_get (D := D) (ci := 3) (v := .ref h_sizes) (C := RX4) (T := TX4) (N := 3) hx hb hts inTX4 hown hK.1 hP 0 rfl rfl 2 (by decide) (hts _ t1_39) (fun _ h9 => h9) rfl dX4_hasPart_20 ?_
        refine lv_iload_n hx hb dX4_hasPart_23 rfl (lv_at hl 1 rfl) ?_
        obtain ⟨hi2, hF⟩ := hF
        refine s_iald (j := (p0).toNatClampNeg) hx hb hK.1 hP 1 0 rfl rfl hi2 rfl dX4_hasPart_24 ?_
        refine lv_iload_n hx hb dX4_hasPart_25 rfl (lv_at hl 3 rfl) ?_
        refine lv_isub hx hb dX4_hasPart_26 ?_
        refine lv_icmp_gt (tgt := 34) hx hb dX4_hasPart_27 (by decide) (fun c_ => ?_) (fun c_ => ?_)
        · have hF := hF.1 c_
          refine lv_iconst (v := 0) hx hb dX4_hasPart_34 (by decide) ?_
          refine W.eq (g2 := F0 m 35 ls [.int (bz false)]) rfl ?_
          exact rr_b C hQ rfl hF dX4_hasPart_35
        · have hF := hF.2 c_
          refine lv_iconst (v := 1) hx hb dX4_hasPart_30 (by decide) ?_
          refine lv_goto (tgt := 35) hx hb dX4_hasPart_31 (by decide) ?_
          refine W.eq (g2 := F0 m 35 ls [.int (bz true)]) rfl ?_
          exact rr_b C hQ rfl hF dX4_hasPart_35

def wpX4_takeAway (p0 : Int32) (v_sizes : Nat → Int32) (post : Int32 → (Nat → Int32) → Prop) : Prop := vp_in p0 8 ∧ (vp_in p0 8 ∧ (post (v_sizes ((p0).toNatClampNeg)) (upd v_sizes ((p0).toNatClampNeg) (-1))))
abbrev miX4_takeAway : MI := (yX4_takeAway, cX4_takeAway, 3, (some .int))
theorem mfX4_takeAway : MF miX4_takeAway 1 := ⟨t2_33, t1_2, by decide +kernel⟩
abbrev rmX4_takeAway : Room := { frames := 0, cells := 0, slots := 0, locals := 0 }
set_option maxHeartbeats 4000000 in
set_option maxRecDepth 100000 in
theorem ccX4_takeAway (l : Launch) (D : va_G) (cy : Nat → ClassId) (h_this : Nat) (h_sizes : Nat) (x_items : Value) (x_lanes : Value) (v_sizes : Nat → Int32) (p0 : Int32) (post : Int32 → (Nat → Int32) → Prop) (hF : wpX4_takeAway p0 v_sizes post) : Ct l D cy miX4_takeAway rmX4_takeAway emI NP [.ref h_this, .int p0] [(h_this, .inr (3, [x_items, x_lanes, .ref h_sizes])), (h_sizes, .inl (cy 0, 8, .inl v_sizes))] (fun r w1 => ∃ (w_sizes : Nat → Int32), w1 = [(h_this, .inr (3, [x_items, x_lanes, .ref h_sizes])), (h_sizes, .inl (cy 0, 8, .inl w_sizes))] ∧ post r w_sizes) := by
  refine Ct.of (by decide) (Nat.le_of_ble_eq_true rfl) ?_
  intro p e s m args below meth c A ls Q C hQ hA hI hP hD hS hl
  obtain ⟨hx, hb, hr, hml, hown, hts, hK, hlk, hnm⟩ := id C
  have hb : c.code = cX4_takeAway := hb
  have hml : c.maxLocals = 3 := hml
  have hown : s.vm.findClass RX4 = some m.cls := hown
  have hl : lv_has ls 3 [(0, .ref h_this), (1, .int p0)] := hl
  unfold wpX4_takeAway at hF
  refine lv_aload_n hx hb dX4_takeAway_0 rfl (lv_at hl 0 rfl) ?_
  refine va_get (D := D) (ci := 3) (v := .ref h_sizes) (C := RX4) (T := TX4) (N := 3) hx hb hts inTX4 hown hK.1 hP 0 rfl rfl 2 (by decide) (hts _ t1_39) (fun _ h9 => h9) rfl dX4_takeAway_1 ?_
  refine lv_iload_n hx hb dX4_takeAway_4 rfl (lv_at hl 1 rfl) ?_
  obtain ⟨hi1, hF⟩ := hF
  refine s_iald (j := (p0).toNatClampNeg) hx hb hK.1 hP 1 0 rfl rfl hi1 rfl dX4_takeAway_5 ?_
  refine lv_istore_n (lv' := [(2, .int (v_sizes ((p0).toNatClampNeg))), (0, .ref h_this), (1, .int p0)]) hx hb dX4_takeAway_6 rfl hl (by decide) rfl (fun ls hl => ?_)
  refine lv_aload_n hx hb dX4_takeAway_7 rfl (lv_at hl 1 rfl) ?_
  refine va_get (D := D) (ci := 3) (v := .ref h_sizes) (C := RX4) (T := TX4) (N := 3) hx hb hts inTX4 hown hK.1 hP 0 rfl rfl 2 (by decide) (hts _ t1_39) (fun _ h9 => h9) rfl dX4_takeAway_8 ?_
  refine lv_iload_n hx hb dX4_takeAway_11 rfl (lv_at hl 2 rfl) ?_
  refine lv_iconst (v := (-1)) hx hb dX4_takeAway_12 (by decide) ?_
  obtain ⟨hi2, hF⟩ := hF
  refine s_iast (j := (p0).toNatClampNeg) hx hb hK.1 hP hD hS 1 0 rfl rfl hi2 rfl dX4_takeAway_13 (fun H locs hP hD hS => ?_)
  have hP : va_P D CL [(h_this, .inr (3, [x_items, x_lanes, .ref h_sizes])), (h_sizes, .inl (cy 0, 8, .inl (upd v_sizes ((p0).toNatClampNeg) (-1))))] H := hP
  have hD : va_D A [(h_this, .inr (3, [x_items, x_lanes, .ref h_sizes])), (h_sizes, .inl (cy 0, 8, .inl (upd v_sizes ((p0).toNatClampNeg) (-1))))] := hD
  refine lv_iload_n hx hb dX4_takeAway_14 rfl (lv_at hl 0 rfl) ?_
  exact rt_i C hQ rfl hP hD hS ⟨(upd v_sizes ((p0).toNatClampNeg) (-1)), rfl, hF⟩ dX4_takeAway_15

def wjX4_howMany_21 (v_sizes : Nat → Int32) (post : Int32 → Prop) (K_4 : Int32 → Int32 → Prop) (l1 : Int32) (l2 : Int32) : Prop := K_4 l1 (l2 + 1)
def wlX4_howMany_4 (v_sizes : Nat → Int32) (post : Int32 → Prop) : Nat → Int32 → Int32 → Prop
  | 0, _, _ => False
  | n + 1, l1, l2 => (8 ≤ l2 → (post l1)) ∧ (¬ 8 ≤ l2 → (wpX4_isMissing l2 v_sizes (fun r1 => (r1 = true → (wjX4_howMany_21 v_sizes post (wlX4_howMany_4 v_sizes post n) l1 l2)) ∧ (r1 = false → (wjX4_howMany_21 v_sizes post (wlX4_howMany_4 v_sizes post n) (l1 + 1) l2)))))
def wpX4_howMany (v_sizes : Nat → Int32) (post : Int32 → Prop) : Prop := wlX4_howMany_4 v_sizes post fu 0 0
abbrev miX4_howMany : MI := (yX4_howMany, cX4_howMany, 3, (some .int))
theorem mfX4_howMany : MF miX4_howMany 0 := ⟨t4_111, t1_2, by decide +kernel⟩
abbrev rmX4_howMany : Room := { frames := 1, cells := 0, slots := 0, locals := 21 }
set_option maxHeartbeats 4000000 in
set_option maxRecDepth 100000 in
theorem ccX4_howMany (l : Launch) (D : va_G) (cy : Nat → ClassId) (h_this : Nat) (h_sizes : Nat) (x_items : Value) (x_lanes : Value) (v_sizes : Nat → Int32) (post : Int32 → Prop) (hF : wpX4_howMany v_sizes post) : Cr l D cy miX4_howMany rmX4_howMany emI NP [.ref h_this] [(h_this, .inr (3, [x_items, x_lanes, .ref h_sizes])), (h_sizes, .inl (cy 0, 8, .inl v_sizes))] post := by
  refine Cr.of (by decide) (Nat.le_of_ble_eq_true rfl) ?_
  intro p e s m args below meth c ls Q C hQ hO hP hl
  obtain ⟨hx, hb, hr, hml, hown, hts, hK, hlk, hnm⟩ := id C
  have hb : c.code = cX4_howMany := hb
  have hml : c.maxLocals = 3 := hml
  have hown : s.vm.findClass RX4 = some m.cls := hown
  have hl : lv_has ls 3 [(0, .ref h_this)] := hl
  have L_4 : ∀ (n_4 : Nat) (l1 : Int32) (l2 : Int32) (ls : Array Slot), lv_has ls 3 [(0, .ref h_this), (1, .int l1), (2, .int l2)] → wlX4_howMany_4 v_sizes post n_4 l1 l2 → W p l e rmX4_howMany s m args below meth c s.heap [] 0 0 Q (F0 m 4 ls []) := by
    intro n_4
    induction n_4 with
    | zero =>
      intro l1 l2 ls  hl hF
      simp only [wlX4_howMany_4] at hF
    | succ n_4 ih_4 =>
      have J_21 : ∀ (l1 : Int32) (l2 : Int32) (ls : Array Slot), lv_has ls 3 [(0, .ref h_this), (1, .int l1), (2, .int l2)] → wjX4_howMany_21 v_sizes post (wlX4_howMany_4 v_sizes post n_4) l1 l2 → W p l e rmX4_howMany s m args below meth c s.heap [] 0 0 Q (F0 m 21 ls []) := by
        intro l1 l2 ls  hl hF
        unfold wjX4_howMany_21 at hF
        refine lv_iinc (v := (l2 + 1)) (lv' := [(2, .int (l2 + 1)), (0, .ref h_this), (1, .int l1)]) hx hb dX4_howMany_21 hl (k := 2) rfl rfl (by decide) rfl (fun ls hl => ?_)
        refine lv_goto (tgt := 4) hx hb dX4_howMany_24 (by decide) ?_
        exact ih_4 l1 (l2 + 1) ls  (lv_sub hl [1, 2, 0] rfl) hF
      intro l1 l2 ls  hl hF
      unfold wlX4_howMany_4 at hF
      refine lv_iload_n hx hb dX4_howMany_4 rfl (lv_at hl 2 rfl) ?_
      refine lv_bipush (v := 8) hx hb dX4_howMany_5 (by decide) ?_
      refine lv_icmp_ge (tgt := 27) hx hb dX4_howMany_7 (by decide) (fun c_ => ?_) (fun c_ => ?_)
      · have hF := hF.1 c_
        refine lv_iload_n hx hb dX4_howMany_27 rfl (lv_at hl 1 rfl) ?_
        exact rr_i C hQ rfl hF dX4_howMany_28
      · have hF := hF.2 c_
        refine lv_aload_n hx hb dX4_howMany_10 rfl (lv_at hl 0 rfl) ?_
        refine lv_iload_n hx hb dX4_howMany_11 rfl (lv_at hl 2 rfl) ?_
        refine cV_r (As := [.int l2]) C mfX4_isMissing t2_0 t2_1 t4_112 (ccX4_isMissing l D cy h_this h_sizes x_items x_lanes v_sizes l2 _ hF) rfl rfl (hP.sub [0, 1] rfl) PR.np hP 0 3 rfl rfl rfl rfl hl.1 rfl (Nat.le_of_ble_eq_true rfl) dX4_howMany_12 ⟨Nat.le_of_ble_eq_true rfl, Nat.le_of_ble_eq_true rfl⟩ ⟨Nat.le_of_ble_eq_true rfl, Nat.le_of_ble_eq_true rfl⟩ ?_
        intro r1 hF
        refine W.eq (g2 := F0 m 15 ls [.int (bz r1)]) rfl ?_
        refine lv_if_ne (tgt := 21) hx hb dX4_howMany_15 (by decide) (fun c_ => ?_) (fun c_ => ?_)
        · have hF := hF.1 ((bz_1 _).mp c_)
          exact J_21 l1 l2 ls  (lv_sub hl [0, 1, 2] rfl) hF
        · have hF := hF.2 ((bz_0 _).mp c_)
          refine lv_iinc (v := (l1 + 1)) (lv' := [(1, .int (l1 + 1)), (0, .ref h_this), (2, .int l2)]) hx hb dX4_howMany_18 hl (k := 1) rfl rfl (by decide) rfl (fun ls hl => ?_)
          exact J_21 (l1 + 1) l2 ls  (lv_sub hl [1, 0, 2] rfl) hF
  unfold wpX4_howMany at hF
  refine lv_iconst (v := 0) hx hb dX4_howMany_0 (by decide) ?_
  refine lv_istore_n (lv' := [(1, .int 0), (0, .ref h_this)]) hx hb dX4_howMany_1 rfl hl (by decide) rfl (fun ls hl => ?_)
  refine lv_iconst (v := 0) hx hb dX4_howMany_2 (by decide) ?_
  refine lv_istore_n (lv' := [(2, .int 0), (1, .int 0), (0, .ref h_this)]) hx hb dX4_howMany_3 rfl hl (by decide) rfl (fun ls hl => ?_)
  exact L_4 fu 0 0 ls  (lv_sub hl [2, 1, 0] rfl) hF
