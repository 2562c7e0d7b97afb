def wpX7_takeByte (p0 : Int32) (v_length : Int32) (v_bytes : Nat → Int32) (post : Bool → Int32 → (Nat → Int32) → Prop) : Prop := (v_length < 60 → (vp_in v_length 60 ∧ (post true (v_length + 1) (upd v_bytes ((v_length).toNatClampNeg) p0)))) ∧ (¬ v_length < 60 → (post false v_length v_bytes))
abbrev miX7_takeByte : MI := (yX7_takeByte, cX7_takeByte, 2, (some .boolean))
theorem mfX7_takeByte : MF miX7_takeByte 1 := ⟨t2_41, t1_4, by decide +kernel⟩
abbrev rmX7_takeByte : Room := { frames := 0, cells := 0, slots := 0, locals := 0 }
set_option maxHeartbeats 4000000 in
set_option maxRecDepth 100000 in
theorem ccX7_takeByte (l : Launch) (D : va_G) (cy : Nat → ClassId) (h_this : Nat) (h_bytes : Nat) (x_newcomers : Value) (v_length : Int32) (v_place : Int32) (v_flaw : Int32) (v_bytes : Nat → Int32) (p0 : Int32) (post : Bool → Int32 → (Nat → Int32) → Prop) (hF : wpX7_takeByte p0 v_length v_bytes post) : Ct l D cy miX7_takeByte rmX7_takeByte emB NP [.ref h_this, .int p0] [(h_this, .inr (6, [x_newcomers, .int v_length, .int v_place, .int v_flaw, .ref h_bytes])), (h_bytes, .inl (cy 0, 60, .inl v_bytes))] (fun r w1 => ∃ (w_length : Int32) (w_bytes : Nat → Int32), w1 = [(h_this, .inr (6, [x_newcomers, .int w_length, .int v_place, .int v_flaw, .ref h_bytes])), (h_bytes, .inl (cy 0, 60, .inl w_bytes))] ∧ post r w_length w_bytes) := by
  refine Ct.of (by decide) (Nat.le_of_ble_eq_true rfl) ?_
  intro p e s m args below meth c A ls Q C hQ hA hI hP hD hS hl
  obtain ⟨hx, hb, hr, hml, hown, hts, hK, hlk, hnm⟩ := id C
  have hb : c.code = cX7_takeByte := hb
  have hml : c.maxLocals = 2 := hml
  have hown : s.vm.findClass RX7 = some m.cls := hown
  have hl : lv_has ls 2 [(0, .ref h_this), (1, .int p0)] := hl
  unfold wpX7_takeByte at hF
  refine lv_aload_n hx hb dX7_takeByte_0 rfl (lv_at hl 0 rfl) ?_
  refine va_get (D := D) (ci := 6) (v := .int v_length) (C := RX7) (T := TX7) (N := 5) hx hb hts inTX7 hown hK.1 hP 0 rfl rfl 1 (by decide) (hts _ t1_58) (fun _ h9 => h9) rfl dX7_takeByte_1 ?_
  refine lv_bipush (v := 60) hx hb dX7_takeByte_4 (by decide) ?_
  refine lv_icmp_lt (tgt := 11) hx hb dX7_takeByte_6 (by decide) (fun c_ => ?_) (fun c_ => ?_)
  · have hF := hF.1 c_
    refine lv_aload_n hx hb dX7_takeByte_11 rfl (lv_at hl 0 rfl) ?_
    refine va_get (D := D) (ci := 6) (v := .ref h_bytes) (C := RX7) (T := TX7) (N := 5) hx hb hts inTX7 hown hK.1 hP 0 rfl rfl 4 (by decide) (hts _ t1_64) (fun _ h9 => h9) rfl dX7_takeByte_12 ?_
    refine lv_aload_n hx hb dX7_takeByte_15 rfl (lv_at hl 0 rfl) ?_
    refine va_get (D := D) (ci := 6) (v := .int v_length) (C := RX7) (T := TX7) (N := 5) hx hb hts inTX7 hown hK.1 hP 0 rfl rfl 1 (by decide) (hts _ t1_58) (fun _ h9 => h9) rfl dX7_takeByte_16 ?_
    refine lv_iload_n hx hb dX7_takeByte_19 rfl (lv_at hl 1 rfl) ?_
    obtain ⟨hi1, hF⟩ := hF
    refine s_iast (j := (v_length).toNatClampNeg) hx hb hK.1 hP hD hS 1 0 rfl rfl hi1 rfl dX7_takeByte_20 (fun H locs hP hD hS => ?_)
    have hP : va_P D CL [(h_this, .inr (6, [x_newcomers, .int v_length, .int v_place, .int v_flaw, .ref h_bytes])), (h_bytes, .inl (cy 0, 60, .inl (upd v_bytes ((v_length).toNatClampNeg) p0)))] H := hP
    have hD : va_D A [(h_this, .inr (6, [x_newcomers, .int v_length, .int v_place, .int v_flaw, .ref h_bytes])), (h_bytes, .inl (cy 0, 60, .inl (upd v_bytes ((v_length).toNatClampNeg) p0)))] := hD
    refine lv_aload_n hx hb dX7_takeByte_21 rfl (lv_at hl 0 rfl) ?_
    refine lv_dup hx hb dX7_takeByte_22 rfl ?_
    refine va_get (D := D) (ci := 6) (v := .int v_length) (C := RX7) (T := TX7) (N := 5) hx hb hts inTX7 hown hK.1 hP 0 rfl rfl 1 (by decide) (hts _ t1_58) (fun _ h9 => h9) rfl dX7_takeByte_23 ?_
    refine lv_iconst (v := 1) hx hb dX7_takeByte_26 (by decide) ?_
    refine lv_iadd hx hb dX7_takeByte_27 ?_
    refine va_put (D := D) (ci := 6) (v := .int (v_length + 1)) (ty := .int) (C := RX7) (T := TX7) (N := 5) hx hb hts inTX7 tyX7 tyX7_ok nmX7 hown hK.1 hP hD hS 0 rfl rfl 1 (by decide) (hts _ t1_58) (fun _ h9 => h9) rfl (tyX7_ok 1 (by decide)) rfl rfl (Nat.le_of_ble_eq_true rfl) dX7_takeByte_28 (fun H locs hP hD hS => ?_)
    have hP : va_P D CL [(h_this, .inr (6, [x_newcomers, .int (v_length + 1), .int v_place, .int v_flaw, .ref h_bytes])), (h_bytes, .inl (cy 0, 60, .inl (upd v_bytes ((v_length).toNatClampNeg) p0)))] H := hP
    have hD : va_D A [(h_this, .inr (6, [x_newcomers, .int (v_length + 1), .int v_place, .int v_flaw, .ref h_bytes])), (h_bytes, .inl (cy 0, 60, .inl (upd v_bytes ((v_length).toNatClampNeg) p0)))] := hD
    refine lv_iconst (v := 1) hx hb dX7_takeByte_31 (by decide) ?_
    refine W.eq (g2 := F0 m 32 ls [.int (bz true)]) rfl ?_
    exact rt_b C hQ rfl hP hD hS ⟨(v_length + 1), (upd v_bytes ((v_length).toNatClampNeg) p0), rfl, hF⟩ dX7_takeByte_32
  · have hF := hF.2 c_
    refine lv_iconst (v := 0) hx hb dX7_takeByte_9 (by decide) ?_
    refine W.eq (g2 := F0 m 10 ls [.int (bz false)]) rfl ?_
    exact rt_b C hQ rfl hP hD hS ⟨v_length, v_bytes, rfl, hF⟩ dX7_takeByte_10

def wpX7_byteAt (p0 : Int32) (v_length : Int32) (v_bytes : Nat → Int32) (post : Int32 → Prop) : Prop := (v_length ≤ p0 → (post (-1))) ∧ (¬ v_length ≤ p0 → (vp_in p0 60 ∧ (post (v_bytes ((p0).toNatClampNeg)))))
abbrev miX7_byteAt : MI := (yX7_byteAt, cX7_byteAt, 2, (some .int))
theorem mfX7_byteAt : MF miX7_byteAt 1 := ⟨t2_58, t1_4, by decide +kernel⟩
abbrev rmX7_byteAt : Room := { frames := 0, cells := 0, slots := 0, locals := 0 }
set_option maxHeartbeats 4000000 in
set_option maxRecDepth 100000 in
theorem ccX7_byteAt (l : Launch) (D : va_G) (cy : Nat → ClassId) (h_this : Nat) (h_bytes : Nat) (x_newcomers : Value) (v_length : Int32) (v_place : Int32) (v_flaw : Int32) (v_bytes : Nat → Int32) (p0 : Int32) (post : Int32 → Prop) (hF : wpX7_byteAt p0 v_length v_bytes post) : Cr l D cy miX7_byteAt rmX7_byteAt emI NP [.ref h_this, .int p0] [(h_this, .inr (6, [x_newcomers, .int v_length, .int v_place, .int v_flaw, .ref h_bytes])), (h_bytes, .inl (cy 0, 60, .inl v_bytes))] post := by
  refine Cr.of (by decide) (Nat.le_of_ble_eq_true rfl) ?_
  intro p e s m args below meth c ls Q C hQ hO hP hl
  obtain ⟨hx, hb, hr, hml, hown, hts, hK, hlk, hnm⟩ := id C
  have hb : c.code = cX7_byteAt := hb
  have hml : c.maxLocals = 2 := hml
  have hown : s.vm.findClass RX7 = some m.cls := hown
  have hl : lv_has ls 2 [(0, .ref h_this), (1, .int p0)] := hl
  unfold wpX7_byteAt at hF
  refine lv_iload_n hx hb dX7_byteAt_0 rfl (lv_at hl 1 rfl) ?_
  refine lv_aload_n hx hb dX7_byteAt_1 rfl (lv_at hl 0 rfl) ?_
  refine va_get (D := D) (ci := 6) (v := .int v_length) (C := RX7) (T := TX7) (N := 5) hx hb hts inTX7 hown hK.1 hP 0 rfl rfl 1 (by decide) (hts _ t1_58) (fun _ h9 => h9) rfl dX7_byteAt_2 ?_
  refine lv_icmp_ge (tgt := 17) hx hb dX7_byteAt_5 (by decide) (fun c_ => ?_) (fun c_ => ?_)
  · have hF := hF.1 c_
    refine lv_iconst (v := (-1)) hx hb dX7_byteAt_17 (by decide) ?_
    exact rr_i C hQ rfl hF dX7_byteAt_18
  · have hF := hF.2 c_
    refine lv_aload_n hx hb dX7_byteAt_8 rfl (lv_at hl 0 rfl) ?_
    refine va_get (D := D) (ci := 6) (v := .ref h_bytes) (C := RX7) (T := TX7) (N := 5) hx hb hts inTX7 hown hK.1 hP 0 rfl rfl 4 (by decide) (hts _ t1_64) (fun _ h9 => h9) rfl dX7_byteAt_9 ?_
    refine lv_iload_n hx hb dX7_byteAt_12 rfl (lv_at hl 1 rfl) ?_
    obtain ⟨hi1, hF⟩ := hF
    refine s_iald (j := (p0).toNatClampNeg) hx hb hK.1 hP 1 0 rfl rfl hi1 rfl dX7_byteAt_13 ?_
    refine lv_goto (tgt := 18) hx hb dX7_byteAt_14 (by decide) ?_
    exact rr_i C hQ rfl hF dX7_byteAt_18

def wpX7_readSign (p0 : Int32) (v_length : Int32) (v_place : Int32) (v_flaw : Int32) (v_bytes : Nat → Int32) (post : Unit → Int32 → Int32 → Prop) : Prop := (v_flaw = 0 → (wpX7_byteAt v_place v_length v_bytes (fun r1 => (¬ r1 = p0 → (post () v_place 1)) ∧ (r1 = p0 → (post () (v_place + 1) v_flaw))))) ∧ (¬ v_flaw = 0 → (post () v_place v_flaw))
abbrev miX7_readSign : MI := (yX7_readSign, cX7_readSign, 2, none)
theorem mfX7_readSign : MF miX7_readSign 1 := ⟨t2_54, t1_4, by decide +kernel⟩
abbrev rmX7_readSign : Room := { frames := 1, cells := 0, slots := 0, locals := 21 }
set_option maxHeartbeats 4000000 in
set_option maxRecDepth 100000 in
theorem ccX7_readSign (l : Launch) (D : va_G) (cy : Nat → ClassId) (h_this : Nat) (h_bytes : Nat) (x_newcomers : Value) (v_length : Int32) (v_place : Int32) (v_flaw : Int32) (v_bytes : Nat → Int32) (p0 : Int32) (post : Unit → Int32 → Int32 → Prop) (hF : wpX7_readSign p0 v_length v_place v_flaw v_bytes post) : Ct l D cy miX7_readSign rmX7_readSign emV NP [.ref h_this, .int p0] [(h_this, .inr (6, [x_newcomers, .int v_length, .int v_place, .int v_flaw, .ref h_bytes])), (h_bytes, .inl (cy 0, 60, .inl v_bytes))] (fun r w1 => ∃ (w_place : Int32) (w_flaw : Int32), w1 = [(h_this, .inr (6, [x_newcomers, .int v_length, .int w_place, .int w_flaw, .ref h_bytes])), (h_bytes, .inl (cy 0, 60, .inl v_bytes))] ∧ post r w_place w_flaw) := by
  refine Ct.of (by decide) (Nat.le_of_ble_eq_true rfl) ?_
  intro p e s m args below meth c A ls Q C hQ hA hI hP hD hS hl
  obtain ⟨hx, hb, hr, hml, hown, hts, hK, hlk, hnm⟩ := id C
  have hb : c.code = cX7_readSign := hb
  have hml : c.maxLocals = 2 := hml
  have hown : s.vm.findClass RX7 = some m.cls := hown
  have hl : lv_has ls 2 [(0, .ref h_this), (1, .int p0)] := hl
  unfold wpX7_readSign at hF
  refine lv_aload_n hx hb dX7_readSign_0 rfl (lv_at hl 0 rfl) ?_
  refine va_get (D := D) (ci := 6) (v := .int v_flaw) (C := RX7) (T := TX7) (N := 5) hx hb hts inTX7 hown hK.1 hP 0 rfl rfl 3 (by decide) (hts _ t1_62) (fun _ h9 => h9) rfl dX7_readSign_1 ?_
  refine lv_if_eq (tgt := 8) hx hb dX7_readSign_4 (by decide) (fun c_ => ?_) (fun c_ => ?_)
  · have hF := hF.1 c_
    refine lv_aload_n hx hb dX7_readSign_8 rfl (lv_at hl 0 rfl) ?_
    refine lv_aload_n hx hb dX7_readSign_9 rfl (lv_at hl 0 rfl) ?_
    refine va_get (D := D) (ci := 6) (v := .int v_place) (C := RX7) (T := TX7) (N := 5) hx hb hts inTX7 hown hK.1 hP 0 rfl rfl 2 (by decide) (hts _ t1_60) (fun _ h9 => h9) rfl dX7_readSign_10 ?_
    refine cV_r (As := [.int v_place]) C mfX7_byteAt t2_57 ts_3 t2_55 (ccX7_byteAt l D cy h_this h_bytes x_newcomers v_length v_place v_flaw v_bytes v_place _ hF) rfl rfl (hP.sub [0, 1] rfl) PR.np hP 0 6 rfl rfl rfl rfl hl.1 rfl (Nat.le_of_ble_eq_true rfl) dX7_readSign_13 ⟨Nat.le_of_ble_eq_true rfl, Nat.le_of_ble_eq_true rfl⟩ ⟨Nat.le_of_ble_eq_true rfl, Nat.le_of_ble_eq_true rfl⟩ ?_
    intro r1 hF
    refine W.eq (g2 := F0 m 16 ls [.int r1]) rfl ?_
    refine lv_iload_n hx hb dX7_readSign_16 rfl (lv_at hl 1 rfl) ?_
    refine lv_icmp_ne (tgt := 33) hx hb dX7_readSign_17 (by decide) (fun c_ => ?_) (fun c_ => ?_)
    · have hF := hF.1 c_
      refine lv_aload_n hx hb dX7_readSign_33 rfl (lv_at hl 0 rfl) ?_
      refine lv_iconst (v := 1) hx hb dX7_readSign_34 (by decide) ?_
      refine va_put (D := D) (ci := 6) (v := .int 1) (ty := .int) (C := RX7) (T := TX7) (N := 5) hx hb hts inTX7 tyX7 tyX7_ok nmX7 hown hK.1 hP hD hS 0 rfl rfl 3 (by decide) (hts _ t1_62) (fun _ h9 => h9) rfl (tyX7_ok 3 (by decide)) rfl rfl (Nat.le_of_ble_eq_true rfl) dX7_readSign_35 (fun H locs hP hD hS => ?_)
      have hP : va_P D CL [(h_this, .inr (6, [x_newcomers, .int v_length, .int v_place, .int 1, .ref h_bytes])), (h_bytes, .inl (cy 0, 60, .inl v_bytes))] H := hP
      have hD : va_D A [(h_this, .inr (6, [x_newcomers, .int v_length, .int v_place, .int 1, .ref h_bytes])), (h_bytes, .inl (cy 0, 60, .inl v_bytes))] := hD
      exact rt_v C hQ rfl hP hD hS ⟨v_place, 1, rfl, hF⟩ dX7_readSign_38
    · have hF := hF.2 c_
      refine lv_aload_n hx hb dX7_readSign_20 rfl (lv_at hl 0 rfl) ?_
      refine lv_dup hx hb dX7_readSign_21 rfl ?_
      refine va_get (D := D) (ci := 6) (v := .int v_place) (C := RX7) (T := TX7) (N := 5) hx hb hts inTX7 hown hK.1 hP 0 rfl rfl 2 (by decide) (hts _ t1_60) (fun _ h9 => h9) rfl dX7_readSign_22 ?_
      refine lv_iconst (v := 1) hx hb dX7_readSign_25 (by decide) ?_
      refine lv_iadd hx hb dX7_readSign_26 ?_
      refine va_put (D := D) (ci := 6) (v := .int (v_place + 1)) (ty := .int) (C := RX7) (T := TX7) (N := 5) hx hb hts inTX7 tyX7 tyX7_ok nmX7 hown hK.1 hP hD hS 0 rfl rfl 2 (by decide) (hts _ t1_60) (fun _ h9 => h9) rfl (tyX7_ok 2 (by decide)) rfl rfl (Nat.le_of_ble_eq_true rfl) dX7_readSign_27 (fun H locs hP hD hS => ?_)
      have hP : va_P D CL [(h_this, .inr (6, [x_newcomers, .int v_length, .int (v_place + 1), .int v_flaw, .ref h_bytes])), (h_bytes, .inl (cy 0, 60, .inl v_bytes))] H := hP
      have hD : va_D A [(h_this, .inr (6, [x_newcomers, .int v_length, .int (v_place + 1), .int v_flaw, .ref h_bytes])), (h_bytes, .inl (cy 0, 60, .inl v_bytes))] := hD
      refine lv_goto (tgt := 38) hx hb dX7_readSign_30 (by decide) ?_
      exact rt_v C hQ rfl hP hD hS ⟨(v_place + 1), v_flaw, rfl, hF⟩ dX7_readSign_38
  · have hF := hF.2 c_
    exact rt_v C hQ rfl hP hD hS ⟨v_place, v_flaw, rfl, hF⟩ dX7_readSign_7

def wpX7_isFigure (p0 : Int32) (post : Bool → Prop) : Prop := (p0 < 48 → (post false)) ∧ (¬ p0 < 48 → ((57 < p0 → (post false)) ∧ (¬ 57 < p0 → (post true))))
abbrev miX7_isFigure : MI := (yX7_isFigure, cX7_isFigure, 1, (some .boolean))
theorem mfX7_isFigure : MF miX7_isFigure 1 := ⟨t2_72, t1_4, by decide +kernel⟩
abbrev rmX7_isFigure : Room := { frames := 0, cells := 0, slots := 0, locals := 0 }
set_option maxHeartbeats 4000000 in
set_option maxRecDepth 100000 in
theorem ccX7_isFigure (l : Launch) (D : va_G) (cy : Nat → ClassId) (p0 : Int32) (post : Bool → Prop) (hF : wpX7_isFigure p0 post) : Cr l D cy miX7_isFigure rmX7_isFigure emB NP [.int p0] [] post := by
  refine Cr.of (by decide) (Nat.le_of_ble_eq_true rfl) ?_
  intro p e s m args below meth c ls Q C hQ hO hP hl
  obtain ⟨hx, hb, hr, hml, hown, hts, hK, hlk, hnm⟩ := id C
  have hb : c.code = cX7_isFigure := hb
  have hml : c.maxLocals = 1 := hml
  have hown : s.vm.findClass RX7 = some m.cls := hown
  have hl : lv_has ls 1 [(0, .int p0)] := hl
  unfold wpX7_isFigure at hF
  refine lv_iload_n hx hb dX7_isFigure_0 rfl (lv_at hl 0 rfl) ?_
  refine lv_bipush (v := 48) hx hb dX7_isFigure_1 (by decide) ?_
  refine lv_icmp_lt (tgt := 16) hx hb dX7_isFigure_3 (by decide) (fun c_ => ?_) (fun c_ => ?_)
  · have hF := hF.1 c_
    refine lv_iconst (v := 0) hx hb dX7_isFigure_16 (by decide) ?_
    refine W.eq (g2 := F0 m 17 ls [.int (bz false)]) rfl ?_
    exact rr_b C hQ rfl hF dX7_isFigure_17
  · have hF := hF.2 c_
    refine lv_iload_n hx hb dX7_isFigure_6 rfl (lv_at hl 0 rfl) ?_
    refine lv_bipush (v := 57) hx hb dX7_isFigure_7 (by decide) ?_
    refine lv_icmp_gt (tgt := 16) hx hb dX7_isFigure_9 (by decide) (fun c_ => ?_) (fun c_ => ?_)
    · have hF := hF.1 c_
      refine lv_iconst (v := 0) hx hb dX7_isFigure_16 (by decide) ?_
      refine W.eq (g2 := F0 m 17 ls [.int (bz false)]) rfl ?_
      exact rr_b C hQ rfl hF dX7_isFigure_17
    · have hF := hF.2 c_
      refine lv_iconst (v := 1) hx hb dX7_isFigure_12 (by decide) ?_
      refine lv_goto (tgt := 17) hx hb dX7_isFigure_13 (by decide) ?_
      refine W.eq (g2 := F0 m 17 ls [.int (bz true)]) rfl ?_
      exact rr_b C hQ rfl hF dX7_isFigure_17

def wjX7_readNumber_70 (v_length : Int32) (v_bytes : Nat → Int32) (post : Int32 → Int32 → Int32 → Prop) (l3 : Int32) (w_place : Int32) (w_flaw : Int32) : Prop := post l3 w_place 1
def wjX7_readNumber_60 (v_length : Int32) (v_bytes : Nat → Int32) (post : Int32 → Int32 → Int32 → Prop) (l1 : Int32) (l2 : Int32) (l3 : Int32) (w_place : Int32) (w_flaw : Int32) : Prop := (l2 < 1 → (wjX7_readNumber_70 v_length v_bytes post l3 w_place w_flaw)) ∧ (¬ l2 < 1 → ((l2 ≤ 2 → ((l3 ≤ l1 → (post l3 (w_place + l2) w_flaw)) ∧ (¬ l3 ≤ l1 → (post l3 w_place 2)))) ∧ (¬ l2 ≤ 2 → (wjX7_readNumber_70 v_length v_bytes post l3 w_place w_flaw))))
def wlX7_readNumber_13 (v_length : Int32) (v_bytes : Nat → Int32) (post : Int32 → Int32 → Int32 → Prop) : Nat → Int32 → Int32 → Int32 → Int32 → Int32 → Prop
  | 0, _, _, _, _, _ => False
  | n + 1, l1, l2, l3, w_place, w_flaw => (60 < l2 → (wjX7_readNumber_60 v_length v_bytes post l1 l2 l3 w_place w_flaw)) ∧ (¬ 60 < l2 → (wpX7_byteAt (w_place + l2) v_length v_bytes (fun r1 => wpX7_isFigure r1 (fun r2 => (r2 = false → (wjX7_readNumber_60 v_length v_bytes post l1 l2 l3 w_place w_flaw)) ∧ (r2 = true → (wpX7_byteAt (w_place + l2) v_length v_bytes (fun r3 => (wlX7_readNumber_13 v_length v_bytes post n) l1 (l2 + 1) (((l3 * 10) + r3) - 48) w_place w_flaw)))))))
def wpX7_readNumber (p0 : Int32) (v_length : Int32) (v_place : Int32) (v_flaw : Int32) (v_bytes : Nat → Int32) (post : Int32 → Int32 → Int32 → Prop) : Prop := (v_flaw = 0 → (wlX7_readNumber_13 v_length v_bytes post fu p0 0 0 v_place v_flaw)) ∧ (¬ v_flaw = 0 → (post 0 v_place v_flaw))
abbrev miX7_readNumber : MI := (yX7_readNumber, cX7_readNumber, 4, (some .int))
theorem mfX7_readNumber : MF miX7_readNumber 1 := ⟨t2_69, t1_4, by decide +kernel⟩
abbrev rmX7_readNumber : Room := { frames := 1, cells := 0, slots := 0, locals := 21 }
set_option maxHeartbeats 4000000 in
set_option maxRecDepth 100000 in
theorem ccX7_readNumber (l : Launch) (D : va_G) (cy : Nat → ClassId) (h_this : Nat) (h_bytes : Nat) (x_newcomers : Value) (v_length : Int32) (v_place : Int32) (v_flaw : Int32) (v_bytes : Nat → Int32) (p0 : Int32) (post : Int32 → Int32 → Int32 → Prop) (hF : wpX7_readNumber p0 v_length v_place v_flaw v_bytes post) : Ct l D cy miX7_readNumber rmX7_readNumber emI NP [.ref h_this, .int p0] [(h_this, .inr (6, [x_newcomers, .int v_length, .int v_place, .int v_flaw, .ref h_bytes])), (h_bytes, .inl (cy 0, 60, .inl v_bytes))] (fun r w1 => ∃ (w_place : Int32) (w_flaw : Int32), w1 = [(h_this, .inr (6, [x_newcomers, .int v_length, .int w_place, .int w_flaw, .ref h_bytes])), (h_bytes, .inl (cy 0, 60, .inl v_bytes))] ∧ post r w_place w_flaw) := by
  refine Ct.of (by decide) (Nat.le_of_ble_eq_true rfl) ?_
  intro p e s m args below meth c A ls Q C hQ hA hI hP hD hS hl
  obtain ⟨hx, hb, hr, hml, hown, hts, hK, hlk, hnm⟩ := id C
  have hb : c.code = cX7_readNumber := hb
  have hml : c.maxLocals = 4 := hml
  have hown : s.vm.findClass RX7 = some m.cls := hown
  have hl : lv_has ls 4 [(0, .ref h_this), (1, .int p0)] := hl
  have J_70 : ∀ (l3 : Int32) (w_place : Int32) (w_flaw : Int32) (H : Heap) (locs : List Loc) (ls : Array Slot), va_P D CL [(h_this, .inr (6, [x_newcomers, .int v_length, .int w_place, .int w_flaw, .ref h_bytes])), (h_bytes, .inl (cy 0, 60, .inl v_bytes))] H → va_D A [(h_this, .inr (6, [x_newcomers, .int v_length, .int w_place, .int w_flaw, .ref h_bytes])), (h_bytes, .inl (cy 0, 60, .inl v_bytes))] → va_S A s.heap H locs → lv_has ls 4 [(0, .ref h_this), (3, .int l3)] → wjX7_readNumber_70 v_length v_bytes post l3 w_place w_flaw → W p l e rmX7_readNumber s m args below meth c H locs 0 0 Q (F0 m 70 ls []) := by
    intro l3 w_place w_flaw H locs ls  hP hD hS hl hF
    unfold wjX7_readNumber_70 at hF
    refine lv_aload_n hx hb dX7_readNumber_70 rfl (lv_at hl 0 rfl) ?_
    refine lv_iconst (v := 1) hx hb dX7_readNumber_71 (by decide) ?_
    refine va_put (D := D) (ci := 6) (v := .int 1) (ty := .int) (C := RX7) (T := TX7) (N := 5) hx hb hts inTX7 tyX7 tyX7_ok nmX7 hown hK.1 hP hD hS 0 rfl rfl 3 (by decide) (hts _ t1_62) (fun _ h9 => h9) rfl (tyX7_ok 3 (by decide)) rfl rfl (Nat.le_of_ble_eq_true rfl) dX7_readNumber_72 (fun H locs hP hD hS => ?_)
    have hP : va_P D CL [(h_this, .inr (6, [x_newcomers, .int v_length, .int w_place, .int 1, .ref h_bytes])), (h_bytes, .inl (cy 0, 60, .inl v_bytes))] H := hP
    have hD : va_D A [(h_this, .inr (6, [x_newcomers, .int v_length, .int w_place, .int 1, .ref h_bytes])), (h_bytes, .inl (cy 0, 60, .inl v_bytes))] := hD
    refine lv_goto (tgt := 101) hx hb dX7_readNumber_75 (by decide) ?_
    refine lv_iload_n hx hb dX7_readNumber_101 rfl (lv_at hl 1 rfl) ?_
    exact rt_i C hQ rfl hP hD hS ⟨w_place, 1, rfl, hF⟩ dX7_readNumber_102
  have J_60 : ∀ (l1 : Int32) (l2 : Int32) (l3 : Int32) (w_place : Int32) (w_flaw : Int32) (H : Heap) (locs : List Loc) (ls : Array Slot), va_P D CL [(h_this, .inr (6, [x_newcomers, .int v_length, .int w_place, .int w_flaw, .ref h_bytes])), (h_bytes, .inl (cy 0, 60, .inl v_bytes))] H → va_D A [(h_this, .inr (6, [x_newcomers, .int v_length, .int w_place, .int w_flaw, .ref h_bytes])), (h_bytes, .inl (cy 0, 60, .inl v_bytes))] → va_S A s.heap H locs → lv_has ls 4 [(0, .ref h_this), (1, .int l1), (2, .int l2), (3, .int l3)] → wjX7_readNumber_60 v_length v_bytes post l1 l2 l3 w_place w_flaw → W p l e rmX7_readNumber s m args below meth c H locs 0 0 Q (F0 m 60 ls []) := by
    intro l1 l2 l3 w_place w_flaw H locs ls  hP hD hS hl hF
    unfold wjX7_readNumber_60 at hF
    refine lv_iload_n hx hb dX7_readNumber_60 rfl (lv_at hl 2 rfl) ?_
    refine lv_iconst (v := 1) hx hb dX7_readNumber_61 (by decide) ?_
    refine lv_icmp_lt (tgt := 70) hx hb dX7_readNumber_62 (by decide) (fun c_ => ?_) (fun c_ => ?_)
    · have hF := hF.1 c_
      exact J_70 l3 w_place w_flaw _ _ ls  hP hD hS (lv_sub hl [0, 3] rfl) hF
    · have hF := hF.2 c_
      refine lv_iload_n hx hb dX7_readNumber_65 rfl (lv_at hl 2 rfl) ?_
      refine lv_iconst (v := 2) hx hb dX7_readNumber_66 (by decide) ?_
      refine lv_icmp_le (tgt := 78) hx hb dX7_readNumber_67 (by decide) (fun c_ => ?_) (fun c_ => ?_)
      · have hF := hF.1 c_
        refine lv_iload_n hx hb dX7_readNumber_78 rfl (lv_at hl 3 rfl) ?_
        refine lv_iload_n hx hb dX7_readNumber_79 rfl (lv_at hl 1 rfl) ?_
        refine lv_icmp_le (tgt := 91) hx hb dX7_readNumber_80 (by decide) (fun c_ => ?_) (fun c_ => ?_)
        · have hF := hF.1 c_
          refine lv_aload_n hx hb dX7_readNumber_91 rfl (lv_at hl 0 rfl) ?_
          refine lv_dup hx hb dX7_readNumber_92 rfl ?_
          refine va_get (D := D) (ci := 6) (v := .int w_place) (C := RX7) (T := TX7) (N := 5) hx hb hts inTX7 hown hK.1 hP 0 rfl rfl 2 (by decide) (hts _ t1_60) (fun _ h9 => h9) rfl dX7_readNumber_93 ?_
          refine lv_iload_n hx hb dX7_readNumber_96 rfl (lv_at hl 2 rfl) ?_
          refine lv_iadd hx hb dX7_readNumber_97 ?_
          refine va_put (D := D) (ci := 6) (v := .int (w_place + l2)) (ty := .int) (C := RX7) (T := TX7) (N := 5) hx hb hts inTX7 tyX7 tyX7_ok nmX7 hown hK.1 hP hD hS 0 rfl rfl 2 (by decide) (hts _ t1_60) (fun _ h9 => h9) rfl (tyX7_ok 2 (by decide)) rfl rfl (Nat.le_of_ble_eq_true rfl) dX7_readNumber_98 (fun H locs hP hD hS => ?_)
          have hP : va_P D CL [(h_this, .inr (6, [x_newcomers, .int v_length, .int (w_place + l2), .int w_flaw, .ref h_bytes])), (h_bytes, .inl (cy 0, 60, .inl v_bytes))] H := hP
          have hD : va_D A [(h_this, .inr (6, [x_newcomers, .int v_length, .int (w_place + l2), .int w_flaw, .ref h_bytes])), (h_bytes, .inl (cy 0, 60, .inl v_bytes))] := hD
          refine lv_iload_n hx hb dX7_readNumber_101 rfl (lv_at hl 3 rfl) ?_
          exact rt_i C hQ rfl hP hD hS ⟨(w_place + l2), w_flaw, rfl, hF⟩ dX7_readNumber_102
        · have hF := hF.2 c_
          refine lv_aload_n hx hb dX7_readNumber_83 rfl (lv_at hl 0 rfl) ?_
          refine lv_iconst (v := 2) hx hb dX7_readNumber_84 (by decide) ?_
          refine va_put (D := D) (ci := 6) (v := .int 2) (ty := .int) (C := RX7) (T := TX7) (N := 5) hx hb hts inTX7 tyX7 tyX7_ok nmX7 hown hK.1 hP hD hS 0 rfl rfl 3 (by decide) (hts _ t1_62) (fun _ h9 => h9) rfl (tyX7_ok 3 (by decide)) rfl rfl (Nat.le_of_ble_eq_true rfl) dX7_readNumber_85 (fun H locs hP hD hS => ?_)
          have hP : va_P D CL [(h_this, .inr (6, [x_newcomers, .int v_length, .int w_place, .int 2, .ref h_bytes])), (h_bytes, .inl (cy 0, 60, .inl v_bytes))] H := hP
          have hD : va_D A [(h_this, .inr (6, [x_newcomers, .int v_length, .int w_place, .int 2, .ref h_bytes])), (h_bytes, .inl (cy 0, 60, .inl v_bytes))] := hD
          refine lv_goto (tgt := 101) hx hb dX7_readNumber_88 (by decide) ?_
          refine lv_iload_n hx hb dX7_readNumber_101 rfl (lv_at hl 3 rfl) ?_
          exact rt_i C hQ rfl hP hD hS ⟨w_place, 2, rfl, hF⟩ dX7_readNumber_102
      · have hF := hF.2 c_
        exact J_70 l3 w_place w_flaw _ _ ls  hP hD hS (lv_sub hl [0, 3] rfl) hF
  have L_13 : ∀ (n_13 : Nat) (l1 : Int32) (l2 : Int32) (l3 : Int32) (w_place : Int32) (w_flaw : Int32) (H : Heap) (locs : List Loc) (ls : Array Slot), va_P D CL [(h_this, .inr (6, [x_newcomers, .int v_length, .int w_place, .int w_flaw, .ref h_bytes])), (h_bytes, .inl (cy 0, 60, .inl v_bytes))] H → va_D A [(h_this, .inr (6, [x_newcomers, .int v_length, .int w_place, .int w_flaw, .ref h_bytes])), (h_bytes, .inl (cy 0, 60, .inl v_bytes))] → va_S A s.heap H locs → lv_has ls 4 [(0, .ref h_this), (1, .int l1), (2, .int l2), (3, .int l3)] → wlX7_readNumber_13 v_length v_bytes post n_13 l1 l2 l3 w_place w_flaw → W p l e rmX7_readNumber s m args below meth c H locs 0 0 Q (F0 m 13 ls []) := by
    intro n_13
    induction n_13 with
    | zero =>
      intro l1 l2 l3 w_place w_flaw H locs ls  hP hD hS hl hF
      simp only [wlX7_readNumber_13] at hF
    | succ n_13 ih_13 =>
      intro l1 l2 l3 w_place w_flaw H locs ls  hP hD hS hl hF
      unfold wlX7_readNumber_13 at hF
      refine lv_iload_n hx hb dX7_readNumber_13 rfl (lv_at hl 2 rfl) ?_
      refine lv_bipush (v := 60) hx hb dX7_readNumber_14 (by decide) ?_
      refine lv_icmp_gt (tgt := 60) hx hb dX7_readNumber_16 (by decide) (fun c_ => ?_) (fun c_ => ?_)
      · have hF := hF.1 c_
        exact J_60 l1 l2 l3 w_place w_flaw _ _ ls  hP hD hS (lv_sub hl [0, 1, 2, 3] rfl) hF
      · have hF := hF.2 c_
        refine lv_aload_n hx hb dX7_readNumber_19 rfl (lv_at hl 0 rfl) ?_
        refine lv_aload_n hx hb dX7_readNumber_20 rfl (lv_at hl 0 rfl) ?_
        refine va_get (D := D) (ci := 6) (v := .int w_place) (C := RX7) (T := TX7) (N := 5) hx hb hts inTX7 hown hK.1 hP 0 rfl rfl 2 (by decide) (hts _ t1_60) (fun _ h9 => h9) rfl dX7_readNumber_21 ?_
        refine lv_iload_n hx hb dX7_readNumber_24 rfl (lv_at hl 2 rfl) ?_
        refine lv_iadd hx hb dX7_readNumber_25 ?_
        refine cV_r (As := [.int (w_place + l2)]) C mfX7_byteAt t2_57 ts_3 t2_55 (ccX7_byteAt l D cy h_this h_bytes x_newcomers v_length w_place w_flaw v_bytes (w_place + l2) _ hF) rfl rfl (hP.sub [0, 1] rfl) PR.np hP 0 6 rfl rfl rfl rfl hl.1 rfl (Nat.le_of_ble_eq_true rfl) dX7_readNumber_26 ⟨Nat.le_of_ble_eq_true rfl, Nat.le_of_ble_eq_true rfl⟩ ⟨Nat.le_of_ble_eq_true rfl, Nat.le_of_ble_eq_true rfl⟩ ?_
        intro r1 hF
        refine W.eq (g2 := F0 m 29 ls [.int r1]) rfl ?_
        refine cS_r (As := [.int r1]) C mfX7_isFigure t2_71 t2_70 (ccX7_isFigure l D cy r1 _ hF) rfl rfl (hP.sub [] rfl) PR.np rfl hl.1 rfl (Nat.le_of_ble_eq_true rfl) dX7_readNumber_29 ⟨Nat.le_of_ble_eq_true rfl, Nat.le_of_ble_eq_true rfl⟩ ⟨Nat.le_of_ble_eq_true rfl, Nat.le_of_ble_eq_true rfl⟩ ?_
        intro r2 hF
        refine W.eq (g2 := F0 m 32 ls [.int (bz r2)]) rfl ?_
        refine lv_if_eq (tgt := 60) hx hb dX7_readNumber_32 (by decide) (fun c_ => ?_) (fun c_ => ?_)
        · have hF := hF.1 ((bz_0 _).mp c_)
          exact J_60 l1 l2 l3 w_place w_flaw _ _ ls  hP hD hS (lv_sub hl [0, 1, 2, 3] rfl) hF
        · have hF := hF.2 ((bz_1 _).mp c_)
          refine lv_iload_n hx hb dX7_readNumber_35 rfl (lv_at hl 3 rfl) ?_
          refine lv_bipush (v := 10) hx hb dX7_readNumber_36 (by decide) ?_
          refine lv_imul hx hb dX7_readNumber_38 ?_
          refine lv_aload_n hx hb dX7_readNumber_39 rfl (lv_at hl 0 rfl) ?_
          refine lv_aload_n hx hb dX7_readNumber_40 rfl (lv_at hl 0 rfl) ?_
          refine va_get (D := D) (ci := 6) (v := .int w_place) (C := RX7) (T := TX7) (N := 5) hx hb hts inTX7 hown hK.1 hP 0 rfl rfl 2 (by decide) (hts _ t1_60) (fun _ h9 => h9) rfl dX7_readNumber_41 ?_
          refine lv_iload_n hx hb dX7_readNumber_44 rfl (lv_at hl 2 rfl) ?_
          refine lv_iadd hx hb dX7_readNumber_45 ?_
          refine cV_r (As := [.int (w_place + l2)]) C mfX7_byteAt t2_57 ts_3 t2_55 (ccX7_byteAt l D cy h_this h_bytes x_newcomers v_length w_place w_flaw v_bytes (w_place + l2) _ hF) rfl rfl (hP.sub [0, 1] rfl) PR.np hP 0 6 rfl rfl rfl rfl hl.1 rfl (Nat.le_of_ble_eq_true rfl) dX7_readNumber_46 ⟨Nat.le_of_ble_eq_true rfl, Nat.le_of_ble_eq_true rfl⟩ ⟨Nat.le_of_ble_eq_true rfl, Nat.le_of_ble_eq_true rfl⟩ ?_
          intro r3 hF
          refine W.eq (g2 := F0 m 49 ls [.int r3, .int (l3 * 10)]) rfl ?_
          refine lv_iadd hx hb dX7_readNumber_49 ?_
          refine lv_bipush (v := 48) hx hb dX7_readNumber_50 (by decide) ?_
          refine lv_isub hx hb dX7_readNumber_52 ?_
          refine lv_istore_n (lv' := [(3, .int (((l3 * 10) + r3) - 48)), (0, .ref h_this), (1, .int l1), (2, .int l2)]) hx hb dX7_readNumber_53 rfl hl (by decide) rfl (fun ls hl => ?_)
          refine lv_iinc (v := (l2 + 1)) (lv' := [(2, .int (l2 + 1)), (3, .int (((l3 * 10) + r3) - 48)), (0, .ref h_this), (1, .int l1)]) hx hb dX7_readNumber_54 hl (k := 3) rfl rfl (by decide) rfl (fun ls hl => ?_)
          refine lv_goto (tgt := 13) hx hb dX7_readNumber_57 (by decide) ?_
          exact ih_13 l1 (l2 + 1) (((l3 * 10) + r3) - 48) w_place w_flaw _ _ ls  hP hD hS (lv_sub hl [2, 3, 0, 1] rfl) hF
  unfold wpX7_readNumber at hF
  refine lv_aload_n hx hb dX7_readNumber_0 rfl (lv_at hl 0 rfl) ?_
  refine va_get (D := D) (ci := 6) (v := .int v_flaw) (C := RX7) (T := TX7) (N := 5) hx hb hts inTX7 hown hK.1 hP 0 rfl rfl 3 (by decide) (hts _ t1_62) (fun _ h9 => h9) rfl dX7_readNumber_1 ?_
  refine lv_if_eq (tgt := 9) hx hb dX7_readNumber_4 (by decide) (fun c_ => ?_) (fun c_ => ?_)
  · have hF := hF.1 c_
    refine lv_iconst (v := 0) hx hb dX7_readNumber_9 (by decide) ?_
    refine lv_istore_n (lv' := [(2, .int 0), (0, .ref h_this), (1, .int p0)]) hx hb dX7_readNumber_10 rfl hl (by decide) rfl (fun ls hl => ?_)
    refine lv_iconst (v := 0) hx hb dX7_readNumber_11 (by decide) ?_
    refine lv_istore_n (lv' := [(3, .int 0), (2, .int 0), (0, .ref h_this), (1, .int p0)]) hx hb dX7_readNumber_12 rfl hl (by decide) rfl (fun ls hl => ?_)
    exact L_13 fu p0 0 0 v_place v_flaw _ _ ls  hP hD hS (lv_sub hl [2, 3, 1, 0] rfl) hF
  · have hF := hF.2 c_
    refine lv_iconst (v := 0) hx hb dX7_readNumber_7 (by decide) ?_
    exact rt_i C hQ rfl hP hD hS ⟨v_place, v_flaw, rfl, hF⟩ dX7_readNumber_8

def wjX7_isSort_30 (post : Bool → Prop) : Prop := post true
def wpX7_isSort (p0 : Int32) (post : Bool → Prop) : Prop := (p0 = 102 → (wjX7_isSort_30 post)) ∧ (¬ p0 = 102 → ((p0 = 103 → (wjX7_isSort_30 post)) ∧ (¬ p0 = 103 → ((p0 = 115 → (wjX7_isSort_30 post)) ∧ (¬ p0 = 115 → ((p0 = 119 → (wjX7_isSort_30 post)) ∧ (¬ p0 = 119 → ((¬ p0 = 120 → (post false)) ∧ (p0 = 120 → (wjX7_isSort_30 post))))))))))
abbrev miX7_isSort : MI := (yX7_isSort, cX7_isSort, 1, (some .boolean))
theorem mfX7_isSort : MF miX7_isSort 1 := ⟨t2_65, t1_4, by decide +kernel⟩
abbrev rmX7_isSort : Room := { frames := 0, cells := 0, slots := 0, locals := 0 }
set_option maxHeartbeats 4000000 in
set_option maxRecDepth 100000 in
theorem ccX7_isSort (l : Launch) (D : va_G) (cy : Nat → ClassId) (p0 : Int32) (post : Bool → Prop) (hF : wpX7_isSort p0 post) : Cr l D cy miX7_isSort rmX7_isSort emB NP [.int p0] [] post := by
  refine Cr.of (by decide) (Nat.le_of_ble_eq_true rfl) ?_
  intro p e s m args below meth c ls Q C hQ hO hP hl
  obtain ⟨hx, hb, hr, hml, hown, hts, hK, hlk, hnm⟩ := id C
  have hb : c.code = cX7_isSort := hb
  have hml : c.maxLocals = 1 := hml
  have hown : s.vm.findClass RX7 = some m.cls := hown
  have hl : lv_has ls 1 [(0, .int p0)] := hl
  have J_30 : ∀  (ls : Array Slot), lv_has ls 1 [] → wjX7_isSort_30 post  → W p l e rmX7_isSort s m args below meth c s.heap [] 0 0 Q (F0 m 30 ls []) := by
    intro  ls  hl hF
    unfold wjX7_isSort_30 at hF
    refine lv_iconst (v := 1) hx hb dX7_isSort_30 (by decide) ?_
    refine lv_goto (tgt := 35) hx hb dX7_isSort_31 (by decide) ?_
    refine W.eq (g2 := F0 m 35 ls [.int (bz true)]) rfl ?_
    exact rr_b C hQ rfl hF dX7_isSort_35
  unfold wpX7_isSort at hF
  refine lv_iload_n hx hb dX7_isSort_0 rfl (lv_at hl 0 rfl) ?_
  refine lv_bipush (v := 102) hx hb dX7_isSort_1 (by decide) ?_
  refine lv_icmp_eq (tgt := 30) hx hb dX7_isSort_3 (by decide) (fun c_ => ?_) (fun c_ => ?_)
  · have hF := hF.1 c_
    exact J_30  ls  (lv_sub hl [] rfl) hF
  · have hF := hF.2 c_
    refine lv_iload_n hx hb dX7_isSort_6 rfl (lv_at hl 0 rfl) ?_
    refine lv_bipush (v := 103) hx hb dX7_isSort_7 (by decide) ?_
    refine lv_icmp_eq (tgt := 30) hx hb dX7_isSort_9 (by decide) (fun c_ => ?_) (fun c_ => ?_)
    · have hF := hF.1 c_
      exact J_30  ls  (lv_sub hl [] rfl) hF
    · have hF := hF.2 c_
      refine lv_iload_n hx hb dX7_isSort_12 rfl (lv_at hl 0 rfl) ?_
      refine lv_bipush (v := 115) hx hb dX7_isSort_13 (by decide) ?_
      refine lv_icmp_eq (tgt := 30) hx hb dX7_isSort_15 (by decide) (fun c_ => ?_) (fun c_ => ?_)
      · have hF := hF.1 c_
        exact J_30  ls  (lv_sub hl [] rfl) hF
      · have hF := hF.2 c_
        refine lv_iload_n hx hb dX7_isSort_18 rfl (lv_at hl 0 rfl) ?_
        refine lv_bipush (v := 119) hx hb dX7_isSort_19 (by decide) ?_
        refine lv_icmp_eq (tgt := 30) hx hb dX7_isSort_21 (by decide) (fun c_ => ?_) (fun c_ => ?_)
        · have hF := hF.1 c_
          exact J_30  ls  (lv_sub hl [] rfl) hF
        · have hF := hF.2 c_
          refine lv_iload_n hx hb dX7_isSort_24 rfl (lv_at hl 0 rfl) ?_
          refine lv_bipush (v := 120) hx hb dX7_isSort_25 (by decide) ?_
          refine lv_icmp_ne (tgt := 34) hx hb dX7_isSort_27 (by decide) (fun c_ => ?_) (fun c_ => ?_)
          · have hF := hF.1 c_
            refine lv_iconst (v := 0) hx hb dX7_isSort_34 (by decide) ?_
            refine W.eq (g2 := F0 m 35 ls [.int (bz false)]) rfl ?_
            exact rr_b C hQ rfl hF dX7_isSort_35
          · have hF := hF.2 c_
            exact J_30  ls  (lv_sub hl [] rfl) hF
