def wpX12_in (p0 : Int32) (p1 : Int32) (p2 : Int32) (post : Bool → Prop) : Prop := (p0 < p1 → (post false)) ∧ (¬ p0 < p1 → ((p2 < p0 → (post false)) ∧ (¬ p2 < p0 → (post true))))
abbrev miX12_in : MI := (yX12_in, cX12_in, 3, (some .boolean))
theorem mfX12_in : MF miX12_in 3 := ⟨t4_216, t1_8, by decide +kernel⟩
abbrev rmX12_in : Room := { frames := 0, cells := 0, slots := 0, locals := 0 }
set_option maxHeartbeats 4000000 in
set_option maxRecDepth 100000 in
theorem ccX12_in (l : Launch) (D : va_G) (cy : Nat → ClassId) (p0 : Int32) (p1 : Int32) (p2 : Int32) (post : Bool → Prop) (hF : wpX12_in p0 p1 p2 post) : Cr l D cy miX12_in rmX12_in emB NP [.int p0, .int p1, .int p2] [] post := by
  refine Cr.of (by decide) (Nat.le_of_ble_eq_true rfl) ?_
  intro p e s m args below meth c ls Q C hQ hO hP hl
  obtain ⟨hx, hb, hr, hml, hown, hts, hK, hlk, hnm⟩ := id C
  have hb : c.code = cX12_in := hb
  have hml : c.maxLocals = 3 := hml
  have hown : s.vm.findClass RX12 = some m.cls := hown
  have hl : lv_has ls 3 [(0, .int p0), (1, .int p1), (2, .int p2)] := hl
  unfold wpX12_in at hF
  refine lv_iload_n hx hb dX12_in_0 rfl (lv_at hl 0 rfl) ?_
  refine lv_iload_n hx hb dX12_in_1 rfl (lv_at hl 1 rfl) ?_
  refine lv_icmp_lt (tgt := 14) hx hb dX12_in_2 (by decide) (fun c_ => ?_) (fun c_ => ?_)
  · have hF := hF.1 c_
    refine lv_iconst (v := 0) hx hb dX12_in_14 (by decide) ?_
    refine W.eq (g2 := F0 m 15 ls [.int (bz false)]) rfl ?_
    exact rr_b C hQ rfl hF dX12_in_15
  · have hF := hF.2 c_
    refine lv_iload_n hx hb dX12_in_5 rfl (lv_at hl 0 rfl) ?_
    refine lv_iload_n hx hb dX12_in_6 rfl (lv_at hl 2 rfl) ?_
    refine lv_icmp_gt (tgt := 14) hx hb dX12_in_7 (by decide) (fun c_ => ?_) (fun c_ => ?_)
    · have hF := hF.1 c_
      refine lv_iconst (v := 0) hx hb dX12_in_14 (by decide) ?_
      refine W.eq (g2 := F0 m 15 ls [.int (bz false)]) rfl ?_
      exact rr_b C hQ rfl hF dX12_in_15
    · have hF := hF.2 c_
      refine lv_iconst (v := 1) hx hb dX12_in_10 (by decide) ?_
      refine lv_goto (tgt := 15) hx hb dX12_in_11 (by decide) ?_
      refine W.eq (g2 := F0 m 15 ls [.int (bz true)]) rfl ?_
      exact rr_b C hQ rfl hF dX12_in_15

def wpX12_found (p0 : Int32) (v_status : Int32) (post : Int32 → Int32 → Prop) : Prop := post ((-1000010) - p0) p0
abbrev miX12_found : MI := (yX12_found, cX12_found, 2, (some .int))
theorem mfX12_found : MF miX12_found 1 := ⟨t4_221, t1_8, by decide +kernel⟩
abbrev rmX12_found : Room := { frames := 0, cells := 0, slots := 0, locals := 0 }
set_option maxHeartbeats 4000000 in
set_option maxRecDepth 100000 in
theorem ccX12_found (l : Launch) (D : va_G) (cy : Nat → ClassId) (h_this : Nat) (x_lane : Value) (x_many : Value) (x_items : Value) (x_spare : Value) (x_tape : Value) (x_now : Value) (x_draft : Value) (x_tried : Value) (x_past : Value) (x_images : Value) (x_kept : Value) (x_trace : Value) (x_comes : Value) (x_standing : Value) (x_brought : Value) (x_habit : Value) (v_status : Int32) (v_taped : Int32) (v_faultKind : Int32) (v_faultPlace : Int32) (v_at : Int32) (v_start : Int32) (v_token : Int32) (v_value : Int32) (v_acts : Int32) (v_traced : Int32) (v_livedMany : Int32) (p0 : Int32) (post : Int32 → Int32 → Prop) (hF : wpX12_found p0 v_status post) : Ct l D cy miX12_found rmX12_found emI NP [.ref h_this, .int p0] [(h_this, .inr (11, [x_lane, x_many, x_items, x_spare, .int v_status, x_tape, .int v_taped, .int v_faultKind, .int v_faultPlace, .int v_at, .int v_start, .int v_token, .int v_value, x_now, x_draft, x_tried, x_past, .int v_acts, x_images, x_kept, x_trace, .int v_traced, x_comes, x_standing, x_brought, x_habit, .int v_livedMany]))] (fun r w1 => ∃ (w_status : Int32), w1 = [(h_this, .inr (11, [x_lane, x_many, x_items, x_spare, .int w_status, x_tape, .int v_taped, .int v_faultKind, .int v_faultPlace, .int v_at, .int v_start, .int v_token, .int v_value, x_now, x_draft, x_tried, x_past, .int v_acts, x_images, x_kept, x_trace, .int v_traced, x_comes, x_standing, x_brought, x_habit, .int v_livedMany]))] ∧ post r w_status) := by
  refine Ct.of (by decide) (Nat.le_of_ble_eq_true rfl) ?_
  intro p e s m args below meth c A ls Q C hQ hA hI hP hD hS hl
  obtain ⟨hx, hb, hr, hml, hown, hts, hK, hlk, hnm⟩ := id C
  have hb : c.code = cX12_found := hb
  have hml : c.maxLocals = 2 := hml
  have hown : s.vm.findClass RX12 = some m.cls := hown
  have hl : lv_has ls 2 [(0, .ref h_this), (1, .int p0)] := hl
  unfold wpX12_found at hF
  refine lv_aload_n hx hb dX12_found_0 rfl (lv_at hl 0 rfl) ?_
  refine lv_iload_n hx hb dX12_found_1 rfl (lv_at hl 1 rfl) ?_
  refine va_put (D := D) (ci := 11) (v := .int p0) (ty := .int) (C := RX12) (T := TX12) (N := 27) hx hb hts inTX12 tyX12 tyX12_ok nmX12 hown hK.1 hP hD hS 0 rfl rfl 4 (by decide) (hts _ t4_128) (fun _ h9 => h9) rfl (tyX12_ok 4 (by decide)) rfl rfl (Nat.le_of_ble_eq_true rfl) dX12_found_2 (fun H locs hP hD hS => ?_)
  have hP : va_P D CL [(h_this, .inr (11, [x_lane, x_many, x_items, x_spare, .int p0, x_tape, .int v_taped, .int v_faultKind, .int v_faultPlace, .int v_at, .int v_start, .int v_token, .int v_value, x_now, x_draft, x_tried, x_past, .int v_acts, x_images, x_kept, x_trace, .int v_traced, x_comes, x_standing, x_brought, x_habit, .int v_livedMany]))] H := hP
  have hD : va_D A [(h_this, .inr (11, [x_lane, x_many, x_items, x_spare, .int p0, x_tape, .int v_taped, .int v_faultKind, .int v_faultPlace, .int v_at, .int v_start, .int v_token, .int v_value, x_now, x_draft, x_tried, x_past, .int v_acts, x_images, x_kept, x_trace, .int v_traced, x_comes, x_standing, x_brought, x_habit, .int v_livedMany]))] := hD
  refine lv_ldc hx hb hown (hts _ t4_222) dX12_found_5 ?_
  refine lv_iload_n hx hb dX12_found_7 rfl (lv_at hl 1 rfl) ?_
  refine lv_isub hx hb dX12_found_8 ?_
  exact rt_i C hQ rfl hP hD hS ⟨p0, rfl, hF⟩ dX12_found_9

def wpX12_well (p0 : Int32) (v_status : Int32) (post : Int32 → Int32 → Prop) : Prop := post p0 0
abbrev miX12_well : MI := (yX12_well, cX12_well, 2, (some .int))
theorem mfX12_well : MF miX12_well 1 := ⟨t4_226, t1_8, by decide +kernel⟩
abbrev rmX12_well : Room := { frames := 0, cells := 0, slots := 0, locals := 0 }
set_option maxHeartbeats 4000000 in
set_option maxRecDepth 100000 in
theorem ccX12_well (l : Launch) (D : va_G) (cy : Nat → ClassId) (h_this : Nat) (x_lane : Value) (x_many : Value) (x_items : Value) (x_spare : Value) (x_tape : Value) (x_now : Value) (x_draft : Value) (x_tried : Value) (x_past : Value) (x_images : Value) (x_kept : Value) (x_trace : Value) (x_comes : Value) (x_standing : Value) (x_brought : Value) (x_habit : Value) (v_status : Int32) (v_taped : Int32) (v_faultKind : Int32) (v_faultPlace : Int32) (v_at : Int32) (v_start : Int32) (v_token : Int32) (v_value : Int32) (v_acts : Int32) (v_traced : Int32) (v_livedMany : Int32) (p0 : Int32) (post : Int32 → Int32 → Prop) (hF : wpX12_well p0 v_status post) : Ct l D cy miX12_well rmX12_well emI NP [.ref h_this, .int p0] [(h_this, .inr (11, [x_lane, x_many, x_items, x_spare, .int v_status, x_tape, .int v_taped, .int v_faultKind, .int v_faultPlace, .int v_at, .int v_start, .int v_token, .int v_value, x_now, x_draft, x_tried, x_past, .int v_acts, x_images, x_kept, x_trace, .int v_traced, x_comes, x_standing, x_brought, x_habit, .int v_livedMany]))] (fun r w1 => ∃ (w_status : Int32), w1 = [(h_this, .inr (11, [x_lane, x_many, x_items, x_spare, .int w_status, x_tape, .int v_taped, .int v_faultKind, .int v_faultPlace, .int v_at, .int v_start, .int v_token, .int v_value, x_now, x_draft, x_tried, x_past, .int v_acts, x_images, x_kept, x_trace, .int v_traced, x_comes, x_standing, x_brought, x_habit, .int v_livedMany]))] ∧ post r w_status) := by
  refine Ct.of (by decide) (Nat.le_of_ble_eq_true rfl) ?_
  intro p e s m args below meth c A ls Q C hQ hA hI hP hD hS hl
  obtain ⟨hx, hb, hr, hml, hown, hts, hK, hlk, hnm⟩ := id C
  have hb : c.code = cX12_well := hb
  have hml : c.maxLocals = 2 := hml
  have hown : s.vm.findClass RX12 = some m.cls := hown
  have hl : lv_has ls 2 [(0, .ref h_this), (1, .int p0)] := hl
  unfold wpX12_well at hF
  refine lv_aload_n hx hb dX12_well_0 rfl (lv_at hl 0 rfl) ?_
  refine lv_iconst (v := 0) hx hb dX12_well_1 (by decide) ?_
  refine va_put (D := D) (ci := 11) (v := .int 0) (ty := .int) (C := RX12) (T := TX12) (N := 27) hx hb hts inTX12 tyX12 tyX12_ok nmX12 hown hK.1 hP hD hS 0 rfl rfl 4 (by decide) (hts _ t4_128) (fun _ h9 => h9) rfl (tyX12_ok 4 (by decide)) rfl rfl (Nat.le_of_ble_eq_true rfl) dX12_well_2 (fun H locs hP hD hS => ?_)
  have hP : va_P D CL [(h_this, .inr (11, [x_lane, x_many, x_items, x_spare, .int 0, x_tape, .int v_taped, .int v_faultKind, .int v_faultPlace, .int v_at, .int v_start, .int v_token, .int v_value, x_now, x_draft, x_tried, x_past, .int v_acts, x_images, x_kept, x_trace, .int v_traced, x_comes, x_standing, x_brought, x_habit, .int v_livedMany]))] H := hP
  have hD : va_D A [(h_this, .inr (11, [x_lane, x_many, x_items, x_spare, .int 0, x_tape, .int v_taped, .int v_faultKind, .int v_faultPlace, .int v_at, .int v_start, .int v_token, .int v_value, x_now, x_draft, x_tried, x_past, .int v_acts, x_images, x_kept, x_trace, .int v_traced, x_comes, x_standing, x_brought, x_habit, .int v_livedMany]))] := hD
  refine lv_iload_n hx hb dX12_well_5 rfl (lv_at hl 1 rfl) ?_
  exact rt_i C hQ rfl hP hD hS ⟨0, rfl, hF⟩ dX12_well_6

def wpX12_isRow (p0 : Int32) (post : Bool → Prop) : Prop := wpX12_in p0 0 7 (fun r1 => post r1)
abbrev miX12_isRow : MI := (yX12_isRow, cX12_isRow, 1, (some .boolean))
theorem mfX12_isRow : MF miX12_isRow 1 := ⟨t4_213, t1_8, by decide +kernel⟩
abbrev rmX12_isRow : Room := { frames := 1, cells := 0, slots := 0, locals := 22 }
set_option maxHeartbeats 4000000 in
set_option maxRecDepth 100000 in
theorem ccX12_isRow (l : Launch) (D : va_G) (cy : Nat → ClassId) (p0 : Int32) (post : Bool → Prop) (hF : wpX12_isRow p0 post) : Cr l D cy miX12_isRow rmX12_isRow emB NP [.int p0] [] post := by
  refine Cr.of (by decide) (Nat.le_of_ble_eq_true rfl) ?_
  intro p e s m args below meth c ls Q C hQ hO hP hl
  obtain ⟨hx, hb, hr, hml, hown, hts, hK, hlk, hnm⟩ := id C
  have hb : c.code = cX12_isRow := hb
  have hml : c.maxLocals = 1 := hml
  have hown : s.vm.findClass RX12 = some m.cls := hown
  have hl : lv_has ls 1 [(0, .int p0)] := hl
  unfold wpX12_isRow at hF
  refine lv_iload_n hx hb dX12_isRow_0 rfl (lv_at hl 0 rfl) ?_
  refine lv_iconst (v := 0) hx hb dX12_isRow_1 (by decide) ?_
  refine lv_bipush (v := 7) hx hb dX12_isRow_2 (by decide) ?_
  refine cS_r (As := [.int p0, .int 0, .int 7]) C mfX12_in t4_215 t4_214 (ccX12_in l D cy p0 0 7 _ hF) rfl rfl (hP.sub [] rfl) PR.np rfl hl.1 rfl (Nat.le_of_ble_eq_true rfl) dX12_isRow_4 ⟨Nat.le_of_ble_eq_true rfl, Nat.le_of_ble_eq_true rfl⟩ ⟨Nat.le_of_ble_eq_true rfl, Nat.le_of_ble_eq_true rfl⟩ ?_
  intro r1 hF
  refine W.eq (g2 := F0 m 7 ls [.int (bz r1)]) rfl ?_
  exact rr_b C hQ rfl hF dX12_isRow_7

def wpX12_isMissing (p0 : Int32) (v_lane : Nat → Int32) (post : Bool → Prop) : Prop := vp_in p0 8 ∧ ((¬ (v_lane ((p0).toNatClampNeg)) = (-1000000) → (post false)) ∧ ((v_lane ((p0).toNatClampNeg)) = (-1000000) → (post true)))
abbrev miX12_isMissing : MI := (yX12_isMissing, cX12_isMissing, 2, (some .boolean))
theorem mfX12_isMissing : MF miX12_isMissing 1 := ⟨t4_234, t1_8, by decide +kernel⟩
abbrev rmX12_isMissing : Room := { frames := 0, cells := 0, slots := 0, locals := 0 }
set_option maxHeartbeats 4000000 in
set_option maxRecDepth 100000 in
theorem ccX12_isMissing (l : Launch) (D : va_G) (cy : Nat → ClassId) (h_this : Nat) (h_lane : Nat) (x_many : Value) (x_items : Value) (x_spare : Value) (x_tape : Value) (x_now : Value) (x_draft : Value) (x_tried : Value) (x_past : Value) (x_images : Value) (x_kept : Value) (x_trace : Value) (x_comes : Value) (x_standing : Value) (x_brought : Value) (x_habit : Value) (v_status : Int32) (v_taped : Int32) (v_faultKind : Int32) (v_faultPlace : Int32) (v_at : Int32) (v_start : Int32) (v_token : Int32) (v_value : Int32) (v_acts : Int32) (v_traced : Int32) (v_livedMany : Int32) (v_lane : Nat → Int32) (p0 : Int32) (post : Bool → Prop) (hF : wpX12_isMissing p0 v_lane post) : Cr l D cy miX12_isMissing rmX12_isMissing emB NP [.ref h_this, .int p0] [(h_this, .inr (11, [.ref h_lane, x_many, x_items, x_spare, .int v_status, x_tape, .int v_taped, .int v_faultKind, .int v_faultPlace, .int v_at, .int v_start, .int v_token, .int v_value, x_now, x_draft, x_tried, x_past, .int v_acts, x_images, x_kept, x_trace, .int v_traced, x_comes, x_standing, x_brought, x_habit, .int v_livedMany])), (h_lane, .inl (cy 0, 8, .inl v_lane))] post := by
  refine Cr.of (by decide) (Nat.le_of_ble_eq_true rfl) ?_
  intro p e s m args below meth c ls Q C hQ hO hP hl
  obtain ⟨hx, hb, hr, hml, hown, hts, hK, hlk, hnm⟩ := id C
  have hb : c.code = cX12_isMissing := hb
  have hml : c.maxLocals = 2 := hml
  have hown : s.vm.findClass RX12 = some m.cls := hown
  have hl : lv_has ls 2 [(0, .ref h_this), (1, .int p0)] := hl
  unfold wpX12_isMissing at hF
  refine lv_aload_n hx hb dX12_isMissing_0 rfl (lv_at hl 0 rfl) ?_
  refine va_get (D := D) (ci := 11) (v := .ref h_lane) (C := RX12) (T := TX12) (N := 27) hx hb hts inTX12 hown hK.1 hP 0 rfl rfl 0 (by decide) (hts _ t4_124) (fun _ h9 => h9) rfl dX12_isMissing_1 ?_
  refine lv_iload_n hx hb dX12_isMissing_4 rfl (lv_at hl 1 rfl) ?_
  obtain ⟨hi1, hF⟩ := hF
  refine s_iald (j := (p0).toNatClampNeg) hx hb hK.1 hP 1 0 rfl rfl hi1 rfl dX12_isMissing_5 ?_
  refine lv_ldc hx hb hown (hts _ t4_123) dX12_isMissing_6 ?_
  refine lv_icmp_ne (tgt := 15) hx hb dX12_isMissing_8 (by decide) (fun c_ => ?_) (fun c_ => ?_)
  · have hF := hF.1 c_
    refine lv_iconst (v := 0) hx hb dX12_isMissing_15 (by decide) ?_
    refine W.eq (g2 := F0 m 16 ls [.int (bz false)]) rfl ?_
    exact rr_b C hQ rfl hF dX12_isMissing_16
  · have hF := hF.2 c_
    refine lv_iconst (v := 1) hx hb dX12_isMissing_11 (by decide) ?_
    refine lv_goto (tgt := 16) hx hb dX12_isMissing_12 (by decide) ?_
    refine W.eq (g2 := F0 m 16 ls [.int (bz true)]) rfl ?_
    exact rr_b C hQ rfl hF dX12_isMissing_16

def wpX12_cut (p0 : Int32) (p1 : Int32) (post : Int32 → Prop) : Prop := (¬ p0 = 0 → ((¬ p0 = 1 → (post p1)) ∧ (p0 = 1 → (post ((p1 <<< ((16 : Int32) &&& 31)) >>> ((16 : Int32) &&& 31)))))) ∧ (p0 = 0 → (post ((p1 <<< ((24 : Int32) &&& 31)) >>> ((24 : Int32) &&& 31))))
abbrev miX12_cut : MI := (yX12_cut, cX12_cut, 2, (some .int))
theorem mfX12_cut : MF miX12_cut 2 := ⟨t4_237, t1_8, by decide +kernel⟩
abbrev rmX12_cut : Room := { frames := 0, cells := 0, slots := 0, locals := 0 }
set_option maxHeartbeats 4000000 in
set_option maxRecDepth 100000 in
theorem ccX12_cut (l : Launch) (D : va_G) (cy : Nat → ClassId) (p0 : Int32) (p1 : Int32) (post : Int32 → Prop) (hF : wpX12_cut p0 p1 post) : Cr l D cy miX12_cut rmX12_cut emI NP [.int p0, .int p1] [] post := by
  refine Cr.of (by decide) (Nat.le_of_ble_eq_true rfl) ?_
  intro p e s m args below meth c ls Q C hQ hO hP hl
  obtain ⟨hx, hb, hr, hml, hown, hts, hK, hlk, hnm⟩ := id C
  have hb : c.code = cX12_cut := hb
  have hml : c.maxLocals = 2 := hml
  have hown : s.vm.findClass RX12 = some m.cls := hown
  have hl : lv_has ls 2 [(0, .int p0), (1, .int p1)] := hl
  unfold wpX12_cut at hF
  refine lv_iload_n hx hb dX12_cut_0 rfl (lv_at hl 0 rfl) ?_
  refine lv_if_ne (tgt := 14) hx hb dX12_cut_1 (by decide) (fun c_ => ?_) (fun c_ => ?_)
  · have hF := hF.1 c_
    refine lv_iload_n hx hb dX12_cut_14 rfl (lv_at hl 0 rfl) ?_
    refine lv_iconst (v := 1) hx hb dX12_cut_15 (by decide) ?_
    refine lv_icmp_ne (tgt := 29) hx hb dX12_cut_16 (by decide) (fun c_ => ?_) (fun c_ => ?_)
    · have hF := hF.1 c_
      refine lv_iload_n hx hb dX12_cut_29 rfl (lv_at hl 1 rfl) ?_
      exact rr_i C hQ rfl hF dX12_cut_30
    · have hF := hF.2 c_
      refine lv_iload_n hx hb dX12_cut_19 rfl (lv_at hl 1 rfl) ?_
      refine lv_bipush (v := 16) hx hb dX12_cut_20 (by decide) ?_
      refine lv_ishl hx hb dX12_cut_22 ?_
      refine lv_bipush (v := 16) hx hb dX12_cut_23 (by decide) ?_
      refine lv_ishr hx hb dX12_cut_25 ?_
      refine lv_goto (tgt := 30) hx hb dX12_cut_26 (by decide) ?_
      exact rr_i C hQ rfl hF dX12_cut_30
  · have hF := hF.2 c_
    refine lv_iload_n hx hb dX12_cut_4 rfl (lv_at hl 1 rfl) ?_
    refine lv_bipush (v := 24) hx hb dX12_cut_5 (by decide) ?_
    refine lv_ishl hx hb dX12_cut_7 ?_
    refine lv_bipush (v := 24) hx hb dX12_cut_8 (by decide) ?_
    refine lv_ishr hx hb dX12_cut_10 ?_
    refine lv_goto (tgt := 30) hx hb dX12_cut_11 (by decide) ?_
    exact rr_i C hQ rfl hF dX12_cut_30

def wlX12_row_52 (post : Int32 → Int32 → (Nat → Int32) → (Nat → Int32) → (Nat → Int32) → Prop) : Nat → Int32 → Int32 → Int32 → Int32 → (Nat → Int32) → (Nat → Int32) → (Nat → Int32) → Prop
  | 0, _, _, _, _, _, _, _ => False
  | n + 1, l1, l3, l4, w_status, w_lane, w_many, w_items => (40 ≤ l4 → (wpX12_well l3 w_status (fun r1 u2_status => post r1 u2_status w_lane w_many w_items))) ∧ (¬ 40 ≤ l4 → (vp_in ((40 * l1) + l4) 320 ∧ ((wlX12_row_52 post n) l1 l3 (l4 + 1) w_status w_lane w_many (upd w_items ((((40 * l1) + l4)).toNatClampNeg) 0))))
def wpX12_row (p0 : Int32) (p1 : Int32) (p2 : Int32) (v_status : Int32) (v_lane : Nat → Int32) (v_many : Nat → Int32) (v_items : Nat → Int32) (post : Int32 → Int32 → (Nat → Int32) → (Nat → Int32) → (Nat → Int32) → Prop) : Prop := wpX12_isRow p0 (fun r1 => (r1 = false → (post (-1000001) v_status v_lane v_many v_items)) ∧ (r1 = true → (wpX12_in p1 0 2 (fun r2 => (r2 = false → (post (-1000001) v_status v_lane v_many v_items)) ∧ (r2 = true → ((p2 ≤ 40 → ((0 ≤ p2 → (vp_in p0 8 ∧ (vp_in p0 8 ∧ (wlX12_row_52 post fu p0 p2 0 v_status (upd v_lane ((p0).toNatClampNeg) p1) (upd v_many ((p0).toNatClampNeg) p2) v_items)))) ∧ (¬ 0 ≤ p2 → (wpX12_found 4 v_status (fun r5 u6_status => post r5 u6_status v_lane v_many v_items))))) ∧ (¬ p2 ≤ 40 → (post (-1000001) v_status v_lane v_many v_items))))))))
abbrev miX12_row : MI := (yX12_row, cX12_row, 5, (some .int))
theorem mfX12_row : MF miX12_row 3 := ⟨t4_210, t1_8, by decide +kernel⟩
abbrev rmX12_row : Room := { frames := 2, cells := 0, slots := 0, locals := 42 }
set_option maxHeartbeats 4000000 in
set_option maxRecDepth 100000 in
theorem ccX12_row (l : Launch) (D : va_G) (cy : Nat → ClassId) (h_this : Nat) (h_lane : Nat) (h_many : Nat) (h_items : Nat) (x_spare : Value) (x_tape : Value) (x_now : Value) (x_draft : Value) (x_tried : Value) (x_past : Value) (x_images : Value) (x_kept : Value) (x_trace : Value) (x_comes : Value) (x_standing : Value) (x_brought : Value) (x_habit : Value) (v_status : Int32) (v_taped : Int32) (v_faultKind : Int32) (v_faultPlace : Int32) (v_at : Int32) (v_start : Int32) (v_token : Int32) (v_value : Int32) (v_acts : Int32) (v_traced : Int32) (v_livedMany : Int32) (v_lane : Nat → Int32) (v_many : Nat → Int32) (v_items : Nat → Int32) (p0 : Int32) (p1 : Int32) (p2 : Int32) (post : Int32 → Int32 → (Nat → Int32) → (Nat → Int32) → (Nat → Int32) → Prop) (hF : wpX12_row p0 p1 p2 v_status v_lane v_many v_items post) : Ct l D cy miX12_row rmX12_row emI NP [.ref h_this, .int p0, .int p1, .int p2] [(h_this, .inr (11, [.ref h_lane, .ref h_many, .ref h_items, x_spare, .int v_status, x_tape, .int v_taped, .int v_faultKind, .int v_faultPlace, .int v_at, .int v_start, .int v_token, .int v_value, x_now, x_draft, x_tried, x_past, .int v_acts, x_images, x_kept, x_trace, .int v_traced, x_comes, x_standing, x_brought, x_habit, .int v_livedMany])), (h_lane, .inl (cy 0, 8, .inl v_lane)), (h_many, .inl (cy 0, 8, .inl v_many)), (h_items, .inl (cy 0, 320, .inl v_items))] (fun r w1 => ∃ (w_status : Int32) (w_lane : Nat → Int32) (w_many : Nat → Int32) (w_items : Nat → Int32), w1 = [(h_this, .inr (11, [.ref h_lane, .ref h_many, .ref h_items, x_spare, .int w_status, x_tape, .int v_taped, .int v_faultKind, .int v_faultPlace, .int v_at, .int v_start, .int v_token, .int v_value, x_now, x_draft, x_tried, x_past, .int v_acts, x_images, x_kept, x_trace, .int v_traced, x_comes, x_standing, x_brought, x_habit, .int v_livedMany])), (h_lane, .inl (cy 0, 8, .inl w_lane)), (h_many, .inl (cy 0, 8, .inl w_many)), (h_items, .inl (cy 0, 320, .inl w_items))] ∧ post r w_status w_lane w_many w_items) := by
  refine Ct.of (by decide) (Nat.le_of_ble_eq_true rfl) ?_
  intro p e s m args below meth c A ls Q C hQ hA hI hP hD hS hl
  obtain ⟨hx, hb, hr, hml, hown, hts, hK, hlk, hnm⟩ := id C
  have hb : c.code = cX12_row := hb
  have hml : c.maxLocals = 5 := hml
  have hown : s.vm.findClass RX12 = some m.cls := hown
  have hl : lv_has ls 5 [(0, .ref h_this), (1, .int p0), (2, .int p1), (3, .int p2)] := hl
  have L_52 : ∀ (n_52 : Nat) (l1 : Int32) (l3 : Int32) (l4 : Int32) (w_status : Int32) (w_lane : Nat → Int32) (w_many : Nat → Int32) (w_items : Nat → Int32) (H : Heap) (locs : List Loc) (ls : Array Slot), va_P D CL [(h_this, .inr (11, [.ref h_lane, .ref h_many, .ref h_items, x_spare, .int w_status, x_tape, .int v_taped, .int v_faultKind, .int v_faultPlace, .int v_at, .int v_start, .int v_token, .int v_value, x_now, x_draft, x_tried, x_past, .int v_acts, x_images, x_kept, x_trace, .int v_traced, x_comes, x_standing, x_brought, x_habit, .int v_livedMany])), (h_lane, .inl (cy 0, 8, .inl w_lane)), (h_many, .inl (cy 0, 8, .inl w_many)), (h_items, .inl (cy 0, 320, .inl w_items))] H → va_D A [(h_this, .inr (11, [.ref h_lane, .ref h_many, .ref h_items, x_spare, .int w_status, x_tape, .int v_taped, .int v_faultKind, .int v_faultPlace, .int v_at, .int v_start, .int v_token, .int v_value, x_now, x_draft, x_tried, x_past, .int v_acts, x_images, x_kept, x_trace, .int v_traced, x_comes, x_standing, x_brought, x_habit, .int v_livedMany])), (h_lane, .inl (cy 0, 8, .inl w_lane)), (h_many, .inl (cy 0, 8, .inl w_many)), (h_items, .inl (cy 0, 320, .inl w_items))] → va_S A s.heap H locs → lv_has ls 5 [(0, .ref h_this), (1, .int l1), (3, .int l3), (4, .int l4)] → wlX12_row_52 post n_52 l1 l3 l4 w_status w_lane w_many w_items → W p l e rmX12_row s m args below meth c H locs 0 0 Q (F0 m 52 ls []) := by
    intro n_52
    induction n_52 with
    | zero =>
      intro l1 l3 l4 w_status w_lane w_many w_items H locs ls  hP hD hS hl hF
      simp only [wlX12_row_52] at hF
    | succ n_52 ih_52 =>
      intro l1 l3 l4 w_status w_lane w_many w_items H locs ls  hP hD hS hl hF
      unfold wlX12_row_52 at hF
      refine lv_iload hx hb dX12_row_52 (lv_at hl 3 rfl) ?_
      refine lv_bipush (v := 40) hx hb dX12_row_54 (by decide) ?_
      refine lv_icmp_ge (tgt := 78) hx hb dX12_row_56 (by decide) (fun c_ => ?_) (fun c_ => ?_)
      · have hF := hF.1 c_
        refine lv_aload_n hx hb dX12_row_78 rfl (lv_at hl 0 rfl) ?_
        refine lv_iload_n hx hb dX12_row_79 rfl (lv_at hl 2 rfl) ?_
        refine cV_t (As := [.int l3]) (wr := [(h_lane, .inl (cy 0, 8, .inl w_lane)), (h_many, .inl (cy 0, 8, .inl w_many)), (h_items, .inl (cy 0, 320, .inl w_items))]) C hA hP hD hS mfX12_well t4_225 ts_15 t4_223 (ccX12_well l D cy h_this (.ref h_lane) (.ref h_many) (.ref h_items) x_spare x_tape x_now x_draft x_tried x_past x_images x_kept x_trace x_comes x_standing x_brought x_habit w_status v_taped v_faultKind v_faultPlace v_at v_start v_token v_value v_acts v_traced v_livedMany l3 _ hF) [0] [1, 2, 3] rfl rfl (by decide) (by decide) (by decide) PO.np 0 11 rfl rfl rfl rfl hl.1 rfl (Nat.le_of_ble_eq_true rfl) dX12_row_80 ⟨Nat.le_of_ble_eq_true rfl, Nat.le_of_ble_eq_true rfl⟩ ⟨Nat.le_of_ble_eq_true rfl, Nat.le_of_ble_eq_true rfl⟩ ?_
        rintro r1 w1 H locs ⟨u2_status, rfl, hF⟩ hP hD hS
        have hP : va_P D CL [(h_lane, .inl (cy 0, 8, .inl w_lane)), (h_many, .inl (cy 0, 8, .inl w_many)), (h_items, .inl (cy 0, 320, .inl w_items)), (h_this, .inr (11, [.ref h_lane, .ref h_many, .ref h_items, x_spare, .int u2_status, x_tape, .int v_taped, .int v_faultKind, .int v_faultPlace, .int v_at, .int v_start, .int v_token, .int v_value, x_now, x_draft, x_tried, x_past, .int v_acts, x_images, x_kept, x_trace, .int v_traced, x_comes, x_standing, x_brought, x_habit, .int v_livedMany]))] H := hP
        have hD : va_D A [(h_lane, .inl (cy 0, 8, .inl w_lane)), (h_many, .inl (cy 0, 8, .inl w_many)), (h_items, .inl (cy 0, 320, .inl w_items)), (h_this, .inr (11, [.ref h_lane, .ref h_many, .ref h_items, x_spare, .int u2_status, x_tape, .int v_taped, .int v_faultKind, .int v_faultPlace, .int v_at, .int v_start, .int v_token, .int v_value, x_now, x_draft, x_tried, x_past, .int v_acts, x_images, x_kept, x_trace, .int v_traced, x_comes, x_standing, x_brought, x_habit, .int v_livedMany]))] := hD
        refine W.eq (g2 := F0 m 83 ls [.int r1]) rfl ?_
        have hP : va_P D CL [(h_this, .inr (11, [.ref h_lane, .ref h_many, .ref h_items, x_spare, .int u2_status, x_tape, .int v_taped, .int v_faultKind, .int v_faultPlace, .int v_at, .int v_start, .int v_token, .int v_value, x_now, x_draft, x_tried, x_past, .int v_acts, x_images, x_kept, x_trace, .int v_traced, x_comes, x_standing, x_brought, x_habit, .int v_livedMany])), (h_lane, .inl (cy 0, 8, .inl w_lane)), (h_many, .inl (cy 0, 8, .inl w_many)), (h_items, .inl (cy 0, 320, .inl w_items))] H := (hP.sub [3, 0, 1, 2] rfl)
        have hD : va_D A [(h_this, .inr (11, [.ref h_lane, .ref h_many, .ref h_items, x_spare, .int u2_status, x_tape, .int v_taped, .int v_faultKind, .int v_faultPlace, .int v_at, .int v_start, .int v_token, .int v_value, x_now, x_draft, x_tried, x_past, .int v_acts, x_images, x_kept, x_trace, .int v_traced, x_comes, x_standing, x_brought, x_habit, .int v_livedMany])), (h_lane, .inl (cy 0, 8, .inl w_lane)), (h_many, .inl (cy 0, 8, .inl w_many)), (h_items, .inl (cy 0, 320, .inl w_items))] := (hD.sub [3, 0, 1, 2] (by decide) rfl)
        exact rt_i C hQ rfl hP hD hS ⟨u2_status, w_lane, w_many, w_items, rfl, hF⟩ dX12_row_83
      · have hF := hF.2 c_
        refine lv_aload_n hx hb dX12_row_59 rfl (lv_at hl 0 rfl) ?_
        refine va_get (D := D) (ci := 11) (v := .ref h_items) (C := RX12) (T := TX12) (N := 27) hx hb hts inTX12 hown hK.1 hP 0 rfl rfl 2 (by decide) (hts _ t4_126) (fun _ h9 => h9) rfl dX12_row_60 ?_
        refine lv_bipush (v := 40) hx hb dX12_row_63 (by decide) ?_
        refine lv_iload_n hx hb dX12_row_65 rfl (lv_at hl 1 rfl) ?_
        refine lv_imul hx hb dX12_row_66 ?_
        refine lv_iload hx hb dX12_row_67 (lv_at hl 3 rfl) ?_
        refine lv_iadd hx hb dX12_row_69 ?_
        refine lv_iconst (v := 0) hx hb dX12_row_70 (by decide) ?_
        obtain ⟨hi3, hF⟩ := hF
        refine s_iast (j := (((40 * l1) + l4)).toNatClampNeg) hx hb hK.1 hP hD hS 3 0 rfl rfl hi3 rfl dX12_row_71 (fun H locs hP hD hS => ?_)
        have hP : va_P D CL [(h_this, .inr (11, [.ref h_lane, .ref h_many, .ref h_items, x_spare, .int w_status, x_tape, .int v_taped, .int v_faultKind, .int v_faultPlace, .int v_at, .int v_start, .int v_token, .int v_value, x_now, x_draft, x_tried, x_past, .int v_acts, x_images, x_kept, x_trace, .int v_traced, x_comes, x_standing, x_brought, x_habit, .int v_livedMany])), (h_lane, .inl (cy 0, 8, .inl w_lane)), (h_many, .inl (cy 0, 8, .inl w_many)), (h_items, .inl (cy 0, 320, .inl (upd w_items ((((40 * l1) + l4)).toNatClampNeg) 0)))] H := hP
        have hD : va_D A [(h_this, .inr (11, [.ref h_lane, .ref h_many, .ref h_items, x_spare, .int w_status, x_tape, .int v_taped, .int v_faultKind, .int v_faultPlace, .int v_at, .int v_start, .int v_token, .int v_value, x_now, x_draft, x_tried, x_past, .int v_acts, x_images, x_kept, x_trace, .int v_traced, x_comes, x_standing, x_brought, x_habit, .int v_livedMany])), (h_lane, .inl (cy 0, 8, .inl w_lane)), (h_many, .inl (cy 0, 8, .inl w_many)), (h_items, .inl (cy 0, 320, .inl (upd w_items ((((40 * l1) + l4)).toNatClampNeg) 0)))] := hD
        refine lv_iinc (v := (l4 + 1)) (lv' := [(4, .int (l4 + 1)), (0, .ref h_this), (1, .int l1), (3, .int l3)]) hx hb dX12_row_72 hl (k := 3) rfl rfl (by decide) rfl (fun ls hl => ?_)
        refine lv_goto (tgt := 52) hx hb dX12_row_75 (by decide) ?_
        exact ih_52 l1 l3 (l4 + 1) w_status w_lane w_many (upd w_items ((((40 * l1) + l4)).toNatClampNeg) 0) _ _ ls  hP hD hS (lv_sub hl [1, 2, 3, 0] rfl) hF
  unfold wpX12_row at hF
  refine lv_iload_n hx hb dX12_row_0 rfl (lv_at hl 1 rfl) ?_
  refine cS_r (As := [.int p0]) C mfX12_isRow t4_212 t4_211 (ccX12_isRow l D cy p0 _ hF) rfl rfl (hP.sub [] rfl) PR.np rfl hl.1 rfl (Nat.le_of_ble_eq_true rfl) dX12_row_1 ⟨Nat.le_of_ble_eq_true rfl, Nat.le_of_ble_eq_true rfl⟩ ⟨Nat.le_of_ble_eq_true rfl, Nat.le_of_ble_eq_true rfl⟩ ?_
  intro r1 hF
  refine W.eq (g2 := F0 m 4 ls [.int (bz r1)]) rfl ?_
  refine lv_if_eq (tgt := 22) hx hb dX12_row_4 (by decide) (fun c_ => ?_) (fun c_ => ?_)
  · have hF := hF.1 ((bz_0 _).mp c_)
    refine lv_ldc hx hb hown (hts _ t4_217) dX12_row_22 ?_
    exact rt_i C hQ rfl hP hD hS ⟨v_status, v_lane, v_many, v_items, rfl, hF⟩ dX12_row_24
  · have hF := hF.2 ((bz_1 _).mp c_)
    refine lv_iload_n hx hb dX12_row_7 rfl (lv_at hl 2 rfl) ?_
    refine lv_iconst (v := 0) hx hb dX12_row_8 (by decide) ?_
    refine lv_iconst (v := 2) hx hb dX12_row_9 (by decide) ?_
    refine cS_r (As := [.int p1, .int 0, .int 2]) C mfX12_in t4_215 t4_214 (ccX12_in l D cy p1 0 2 _ hF) rfl rfl (hP.sub [] rfl) PR.np rfl hl.1 rfl (Nat.le_of_ble_eq_true rfl) dX12_row_10 ⟨Nat.le_of_ble_eq_true rfl, Nat.le_of_ble_eq_true rfl⟩ ⟨Nat.le_of_ble_eq_true rfl, Nat.le_of_ble_eq_true rfl⟩ ?_
    intro r2 hF
    refine W.eq (g2 := F0 m 13 ls [.int (bz r2)]) rfl ?_
    refine lv_if_eq (tgt := 22) hx hb dX12_row_13 (by decide) (fun c_ => ?_) (fun c_ => ?_)
    · have hF := hF.1 ((bz_0 _).mp c_)
      refine lv_ldc hx hb hown (hts _ t4_217) dX12_row_22 ?_
      exact rt_i C hQ rfl hP hD hS ⟨v_status, v_lane, v_many, v_items, rfl, hF⟩ dX12_row_24
    · have hF := hF.2 ((bz_1 _).mp c_)
      refine lv_iload_n hx hb dX12_row_16 rfl (lv_at hl 3 rfl) ?_
      refine lv_bipush (v := 40) hx hb dX12_row_17 (by decide) ?_
      refine lv_icmp_le (tgt := 25) hx hb dX12_row_19 (by decide) (fun c_ => ?_) (fun c_ => ?_)
      · have hF := hF.1 c_
        refine lv_iload_n hx hb dX12_row_25 rfl (lv_at hl 3 rfl) ?_
        refine lv_if_ge (tgt := 35) hx hb dX12_row_26 (by decide) (fun c_ => ?_) (fun c_ => ?_)
        · have hF := hF.1 c_
          refine lv_aload_n hx hb dX12_row_35 rfl (lv_at hl 0 rfl) ?_
          refine va_get (D := D) (ci := 11) (v := .ref h_lane) (C := RX12) (T := TX12) (N := 27) hx hb hts inTX12 hown hK.1 hP 0 rfl rfl 0 (by decide) (hts _ t4_124) (fun _ h9 => h9) rfl dX12_row_36 ?_
          refine lv_iload_n hx hb dX12_row_39 rfl (lv_at hl 1 rfl) ?_
          refine lv_iload_n hx hb dX12_row_40 rfl (lv_at hl 2 rfl) ?_
          obtain ⟨hi3, hF⟩ := hF
          refine s_iast (j := (p0).toNatClampNeg) hx hb hK.1 hP hD hS 1 0 rfl rfl hi3 rfl dX12_row_41 (fun H locs hP hD hS => ?_)
          have hP : va_P D CL [(h_this, .inr (11, [.ref h_lane, .ref h_many, .ref h_items, x_spare, .int v_status, x_tape, .int v_taped, .int v_faultKind, .int v_faultPlace, .int v_at, .int v_start, .int v_token, .int v_value, x_now, x_draft, x_tried, x_past, .int v_acts, x_images, x_kept, x_trace, .int v_traced, x_comes, x_standing, x_brought, x_habit, .int v_livedMany])), (h_lane, .inl (cy 0, 8, .inl (upd v_lane ((p0).toNatClampNeg) p1))), (h_many, .inl (cy 0, 8, .inl v_many)), (h_items, .inl (cy 0, 320, .inl v_items))] H := hP
          have hD : va_D A [(h_this, .inr (11, [.ref h_lane, .ref h_many, .ref h_items, x_spare, .int v_status, x_tape, .int v_taped, .int v_faultKind, .int v_faultPlace, .int v_at, .int v_start, .int v_token, .int v_value, x_now, x_draft, x_tried, x_past, .int v_acts, x_images, x_kept, x_trace, .int v_traced, x_comes, x_standing, x_brought, x_habit, .int v_livedMany])), (h_lane, .inl (cy 0, 8, .inl (upd v_lane ((p0).toNatClampNeg) p1))), (h_many, .inl (cy 0, 8, .inl v_many)), (h_items, .inl (cy 0, 320, .inl v_items))] := hD
          refine lv_aload_n hx hb dX12_row_42 rfl (lv_at hl 0 rfl) ?_
          refine va_get (D := D) (ci := 11) (v := .ref h_many) (C := RX12) (T := TX12) (N := 27) hx hb hts inTX12 hown hK.1 hP 0 rfl rfl 1 (by decide) (hts _ t4_125) (fun _ h9 => h9) rfl dX12_row_43 ?_
          refine lv_iload_n hx hb dX12_row_46 rfl (lv_at hl 1 rfl) ?_
          refine lv_iload_n hx hb dX12_row_47 rfl (lv_at hl 3 rfl) ?_
          obtain ⟨hi4, hF⟩ := hF
          refine s_iast (j := (p0).toNatClampNeg) hx hb hK.1 hP hD hS 2 0 rfl rfl hi4 rfl dX12_row_48 (fun H locs hP hD hS => ?_)
          have hP : va_P D CL [(h_this, .inr (11, [.ref h_lane, .ref h_many, .ref h_items, x_spare, .int v_status, x_tape, .int v_taped, .int v_faultKind, .int v_faultPlace, .int v_at, .int v_start, .int v_token, .int v_value, x_now, x_draft, x_tried, x_past, .int v_acts, x_images, x_kept, x_trace, .int v_traced, x_comes, x_standing, x_brought, x_habit, .int v_livedMany])), (h_lane, .inl (cy 0, 8, .inl (upd v_lane ((p0).toNatClampNeg) p1))), (h_many, .inl (cy 0, 8, .inl (upd v_many ((p0).toNatClampNeg) p2))), (h_items, .inl (cy 0, 320, .inl v_items))] H := hP
          have hD : va_D A [(h_this, .inr (11, [.ref h_lane, .ref h_many, .ref h_items, x_spare, .int v_status, x_tape, .int v_taped, .int v_faultKind, .int v_faultPlace, .int v_at, .int v_start, .int v_token, .int v_value, x_now, x_draft, x_tried, x_past, .int v_acts, x_images, x_kept, x_trace, .int v_traced, x_comes, x_standing, x_brought, x_habit, .int v_livedMany])), (h_lane, .inl (cy 0, 8, .inl (upd v_lane ((p0).toNatClampNeg) p1))), (h_many, .inl (cy 0, 8, .inl (upd v_many ((p0).toNatClampNeg) p2))), (h_items, .inl (cy 0, 320, .inl v_items))] := hD
          refine lv_iconst (v := 0) hx hb dX12_row_49 (by decide) ?_
          refine lv_istore (lv' := [(4, .int 0), (0, .ref h_this), (1, .int p0), (2, .int p1), (3, .int p2)]) hx hb dX12_row_50 hl (by decide) rfl (fun ls hl => ?_)
          exact L_52 fu p0 p2 0 v_status (upd v_lane ((p0).toNatClampNeg) p1) (upd v_many ((p0).toNatClampNeg) p2) v_items _ _ ls  hP hD hS (lv_sub hl [1, 2, 4, 0] rfl) hF
        · have hF := hF.2 c_
          refine lv_aload_n hx hb dX12_row_29 rfl (lv_at hl 0 rfl) ?_
          refine lv_iconst (v := 4) hx hb dX12_row_30 (by decide) ?_
          refine cV_t (As := [.int 4]) (wr := [(h_lane, .inl (cy 0, 8, .inl v_lane)), (h_many, .inl (cy 0, 8, .inl v_many)), (h_items, .inl (cy 0, 320, .inl v_items))]) C hA hP hD hS mfX12_found t4_220 ts_14 t4_218 (ccX12_found l D cy h_this (.ref h_lane) (.ref h_many) (.ref h_items) x_spare x_tape x_now x_draft x_tried x_past x_images x_kept x_trace x_comes x_standing x_brought x_habit v_status v_taped v_faultKind v_faultPlace v_at v_start v_token v_value v_acts v_traced v_livedMany 4 _ hF) [0] [1, 2, 3] rfl rfl (by decide) (by decide) (by decide) PO.np 0 11 rfl rfl rfl rfl hl.1 rfl (Nat.le_of_ble_eq_true rfl) dX12_row_31 ⟨Nat.le_of_ble_eq_true rfl, Nat.le_of_ble_eq_true rfl⟩ ⟨Nat.le_of_ble_eq_true rfl, Nat.le_of_ble_eq_true rfl⟩ ?_
          rintro r5 w1 H locs ⟨u6_status, rfl, hF⟩ hP hD hS
          have hP : va_P D CL [(h_lane, .inl (cy 0, 8, .inl v_lane)), (h_many, .inl (cy 0, 8, .inl v_many)), (h_items, .inl (cy 0, 320, .inl v_items)), (h_this, .inr (11, [.ref h_lane, .ref h_many, .ref h_items, x_spare, .int u6_status, x_tape, .int v_taped, .int v_faultKind, .int v_faultPlace, .int v_at, .int v_start, .int v_token, .int v_value, x_now, x_draft, x_tried, x_past, .int v_acts, x_images, x_kept, x_trace, .int v_traced, x_comes, x_standing, x_brought, x_habit, .int v_livedMany]))] H := hP
          have hD : va_D A [(h_lane, .inl (cy 0, 8, .inl v_lane)), (h_many, .inl (cy 0, 8, .inl v_many)), (h_items, .inl (cy 0, 320, .inl v_items)), (h_this, .inr (11, [.ref h_lane, .ref h_many, .ref h_items, x_spare, .int u6_status, x_tape, .int v_taped, .int v_faultKind, .int v_faultPlace, .int v_at, .int v_start, .int v_token, .int v_value, x_now, x_draft, x_tried, x_past, .int v_acts, x_images, x_kept, x_trace, .int v_traced, x_comes, x_standing, x_brought, x_habit, .int v_livedMany]))] := hD
          refine W.eq (g2 := F0 m 34 ls [.int r5]) rfl ?_
          have hP : va_P D CL [(h_this, .inr (11, [.ref h_lane, .ref h_many, .ref h_items, x_spare, .int u6_status, x_tape, .int v_taped, .int v_faultKind, .int v_faultPlace, .int v_at, .int v_start, .int v_token, .int v_value, x_now, x_draft, x_tried, x_past, .int v_acts, x_images, x_kept, x_trace, .int v_traced, x_comes, x_standing, x_brought, x_habit, .int v_livedMany])), (h_lane, .inl (cy 0, 8, .inl v_lane)), (h_many, .inl (cy 0, 8, .inl v_many)), (h_items, .inl (cy 0, 320, .inl v_items))] H := (hP.sub [3, 0, 1, 2] rfl)
          have hD : va_D A [(h_this, .inr (11, [.ref h_lane, .ref h_many, .ref h_items, x_spare, .int u6_status, x_tape, .int v_taped, .int v_faultKind, .int v_faultPlace, .int v_at, .int v_start, .int v_token, .int v_value, x_now, x_draft, x_tried, x_past, .int v_acts, x_images, x_kept, x_trace, .int v_traced, x_comes, x_standing, x_brought, x_habit, .int v_livedMany])), (h_lane, .inl (cy 0, 8, .inl v_lane)), (h_many, .inl (cy 0, 8, .inl v_many)), (h_items, .inl (cy 0, 320, .inl v_items))] := (hD.sub [3, 0, 1, 2] (by decide) rfl)
          exact rt_i C hQ rfl hP hD hS ⟨u6_status, v_lane, v_many, v_items, rfl, hF⟩ dX12_row_34
      · have hF := hF.2 c_
        refine lv_ldc hx hb hown (hts _ t4_217) dX12_row_22 ?_
        exact rt_i C hQ rfl hP hD hS ⟨v_status, v_lane, v_many, v_items, rfl, hF⟩ dX12_row_24

def wpX12_set (p0 : Int32) (p1 : Int32) (p2 : Int32) (v_status : Int32) (v_lane : Nat → Int32) (v_many : Nat → Int32) (v_items : Nat → Int32) (post : Int32 → Int32 → (Nat → Int32) → Prop) : Prop := wpX12_isRow p0 (fun r1 => (r1 = true → (wpX12_isMissing p0 v_lane (fun r2 => (r2 = false → (vp_in p0 8 ∧ (wpX12_in p1 0 ((v_many ((p0).toNatClampNeg)) - 1) (fun r4 => (r4 = true → (vp_in p0 8 ∧ (wpX12_cut (v_lane ((p0).toNatClampNeg)) p2 (fun r6 => vp_in ((40 * p0) + p1) 320 ∧ (vp_in ((40 * p0) + p1) 320 ∧ (wpX12_well ((upd v_items ((((40 * p0) + p1)).toNatClampNeg) r6) ((((40 * p0) + p1)).toNatClampNeg)) v_status (fun r9 u10_status => post r9 u10_status (upd v_items ((((40 * p0) + p1)).toNatClampNeg) r6)))))))) ∧ (r4 = false → (wpX12_found 2 v_status (fun r11 u12_status => post r11 u12_status v_items))))))) ∧ (r2 = true → (wpX12_found 1 v_status (fun r13 u14_status => post r13 u14_status v_items)))))) ∧ (r1 = false → (post (-1000001) v_status v_items)))
abbrev miX12_set : MI := (yX12_set, cX12_set, 4, (some .int))
theorem mfX12_set : MF miX12_set 3 := ⟨t4_230, t1_8, by decide +kernel⟩
abbrev rmX12_set : Room := { frames := 2, cells := 0, slots := 0, locals := 42 }
set_option maxHeartbeats 4000000 in
set_option maxRecDepth 100000 in
theorem ccX12_set (l : Launch) (D : va_G) (cy : Nat → ClassId) (h_this : Nat) (h_lane : Nat) (h_many : Nat) (h_items : Nat) (x_spare : Value) (x_tape : Value) (x_now : Value) (x_draft : Value) (x_tried : Value) (x_past : Value) (x_images : Value) (x_kept : Value) (x_trace : Value) (x_comes : Value) (x_standing : Value) (x_brought : Value) (x_habit : Value) (v_status : Int32) (v_taped : Int32) (v_faultKind : Int32) (v_faultPlace : Int32) (v_at : Int32) (v_start : Int32) (v_token : Int32) (v_value : Int32) (v_acts : Int32) (v_traced : Int32) (v_livedMany : Int32) (v_lane : Nat → Int32) (v_many : Nat → Int32) (v_items : Nat → Int32) (p0 : Int32) (p1 : Int32) (p2 : Int32) (post : Int32 → Int32 → (Nat → Int32) → Prop) (hF : wpX12_set p0 p1 p2 v_status v_lane v_many v_items post) : Ct l D cy miX12_set rmX12_set emI NP [.ref h_this, .int p0, .int p1, .int p2] [(h_this, .inr (11, [.ref h_lane, .ref h_many, .ref h_items, x_spare, .int v_status, x_tape, .int v_taped, .int v_faultKind, .int v_faultPlace, .int v_at, .int v_start, .int v_token, .int v_value, x_now, x_draft, x_tried, x_past, .int v_acts, x_images, x_kept, x_trace, .int v_traced, x_comes, x_standing, x_brought, x_habit, .int v_livedMany])), (h_lane, .inl (cy 0, 8, .inl v_lane)), (h_many, .inl (cy 0, 8, .inl v_many)), (h_items, .inl (cy 0, 320, .inl v_items))] (fun r w1 => ∃ (w_status : Int32) (w_items : Nat → Int32), w1 = [(h_this, .inr (11, [.ref h_lane, .ref h_many, .ref h_items, x_spare, .int w_status, x_tape, .int v_taped, .int v_faultKind, .int v_faultPlace, .int v_at, .int v_start, .int v_token, .int v_value, x_now, x_draft, x_tried, x_past, .int v_acts, x_images, x_kept, x_trace, .int v_traced, x_comes, x_standing, x_brought, x_habit, .int v_livedMany])), (h_lane, .inl (cy 0, 8, .inl v_lane)), (h_many, .inl (cy 0, 8, .inl v_many)), (h_items, .inl (cy 0, 320, .inl w_items))] ∧ post r w_status w_items) := by
  refine Ct.of (by decide) (Nat.le_of_ble_eq_true rfl) ?_
  intro p e s m args below meth c A ls Q C hQ hA hI hP hD hS hl
  obtain ⟨hx, hb, hr, hml, hown, hts, hK, hlk, hnm⟩ := id C
  have hb : c.code = cX12_set := hb
  have hml : c.maxLocals = 4 := hml
  have hown : s.vm.findClass RX12 = some m.cls := hown
  have hl : lv_has ls 4 [(0, .ref h_this), (1, .int p0), (2, .int p1), (3, .int p2)] := hl
  unfold wpX12_set at hF
  refine lv_iload_n hx hb dX12_set_0 rfl (lv_at hl 1 rfl) ?_
  refine cS_r (As := [.int p0]) C mfX12_isRow t4_212 t4_211 (ccX12_isRow l D cy p0 _ hF) rfl rfl (hP.sub [] rfl) PR.np rfl hl.1 rfl (Nat.le_of_ble_eq_true rfl) dX12_set_1 ⟨Nat.le_of_ble_eq_true rfl, Nat.le_of_ble_eq_true rfl⟩ ⟨Nat.le_of_ble_eq_true rfl, Nat.le_of_ble_eq_true rfl⟩ ?_
  intro r1 hF
  refine W.eq (g2 := F0 m 4 ls [.int (bz r1)]) rfl ?_
  refine lv_if_ne (tgt := 10) hx hb dX12_set_4 (by decide) (fun c_ => ?_) (fun c_ => ?_)
  · have hF := hF.1 ((bz_1 _).mp c_)
    refine lv_aload_n hx hb dX12_set_10 rfl (lv_at hl 0 rfl) ?_
    refine lv_iload_n hx hb dX12_set_11 rfl (lv_at hl 1 rfl) ?_
    refine cV_r (As := [.int p0]) C mfX12_isMissing t4_233 ts_16 t4_231 (ccX12_isMissing l D cy h_this h_lane (.ref h_many) (.ref h_items) x_spare x_tape x_now x_draft x_tried x_past x_images x_kept x_trace x_comes x_standing x_brought x_habit v_status v_taped v_faultKind v_faultPlace v_at v_start v_token v_value v_acts v_traced v_livedMany v_lane p0 _ hF) rfl rfl (hP.sub [0, 1] rfl) PR.np hP 0 11 rfl rfl rfl rfl hl.1 rfl (Nat.le_of_ble_eq_true rfl) dX12_set_12 ⟨Nat.le_of_ble_eq_true rfl, Nat.le_of_ble_eq_true rfl⟩ ⟨Nat.le_of_ble_eq_true rfl, Nat.le_of_ble_eq_true rfl⟩ ?_
    intro r2 hF
    refine W.eq (g2 := F0 m 15 ls [.int (bz r2)]) rfl ?_
    refine lv_if_eq (tgt := 24) hx hb dX12_set_15 (by decide) (fun c_ => ?_) (fun c_ => ?_)
    · have hF := hF.1 ((bz_0 _).mp c_)
      refine lv_iload_n hx hb dX12_set_24 rfl (lv_at hl 2 rfl) ?_
      refine lv_iconst (v := 0) hx hb dX12_set_25 (by decide) ?_
      refine lv_aload_n hx hb dX12_set_26 rfl (lv_at hl 0 rfl) ?_
      refine va_get (D := D) (ci := 11) (v := .ref h_many) (C := RX12) (T := TX12) (N := 27) hx hb hts inTX12 hown hK.1 hP 0 rfl rfl 1 (by decide) (hts _ t4_125) (fun _ h9 => h9) rfl dX12_set_27 ?_
      refine lv_iload_n hx hb dX12_set_30 rfl (lv_at hl 1 rfl) ?_
      obtain ⟨hi3, hF⟩ := hF
      refine s_iald (j := (p0).toNatClampNeg) hx hb hK.1 hP 2 0 rfl rfl hi3 rfl dX12_set_31 ?_
      refine lv_iconst (v := 1) hx hb dX12_set_32 (by decide) ?_
      refine lv_isub hx hb dX12_set_33 ?_
      refine cS_r (As := [.int p1, .int 0, .int ((v_many ((p0).toNatClampNeg)) - 1)]) C mfX12_in t4_215 t4_214 (ccX12_in l D cy p1 0 ((v_many ((p0).toNatClampNeg)) - 1) _ hF) rfl rfl (hP.sub [] rfl) PR.np rfl hl.1 rfl (Nat.le_of_ble_eq_true rfl) dX12_set_34 ⟨Nat.le_of_ble_eq_true rfl, Nat.le_of_ble_eq_true rfl⟩ ⟨Nat.le_of_ble_eq_true rfl, Nat.le_of_ble_eq_true rfl⟩ ?_
      intro r4 hF
      refine W.eq (g2 := F0 m 37 ls [.int (bz r4)]) rfl ?_
      refine lv_if_ne (tgt := 46) hx hb dX12_set_37 (by decide) (fun c_ => ?_) (fun c_ => ?_)
      · have hF := hF.1 ((bz_1 _).mp c_)
        refine lv_aload_n hx hb dX12_set_46 rfl (lv_at hl 0 rfl) ?_
        refine va_get (D := D) (ci := 11) (v := .ref h_items) (C := RX12) (T := TX12) (N := 27) hx hb hts inTX12 hown hK.1 hP 0 rfl rfl 2 (by decide) (hts _ t4_126) (fun _ h9 => h9) rfl dX12_set_47 ?_
        refine lv_bipush (v := 40) hx hb dX12_set_50 (by decide) ?_
        refine lv_iload_n hx hb dX12_set_52 rfl (lv_at hl 1 rfl) ?_
        refine lv_imul hx hb dX12_set_53 ?_
        refine lv_iload_n hx hb dX12_set_54 rfl (lv_at hl 2 rfl) ?_
        refine lv_iadd hx hb dX12_set_55 ?_
        refine lv_aload_n hx hb dX12_set_56 rfl (lv_at hl 0 rfl) ?_
        refine va_get (D := D) (ci := 11) (v := .ref h_lane) (C := RX12) (T := TX12) (N := 27) hx hb hts inTX12 hown hK.1 hP 0 rfl rfl 0 (by decide) (hts _ t4_124) (fun _ h9 => h9) rfl dX12_set_57 ?_
        refine lv_iload_n hx hb dX12_set_60 rfl (lv_at hl 1 rfl) ?_
        obtain ⟨hi5, hF⟩ := hF
        refine s_iald (j := (p0).toNatClampNeg) hx hb hK.1 hP 1 0 rfl rfl hi5 rfl dX12_set_61 ?_
        refine lv_iload_n hx hb dX12_set_62 rfl (lv_at hl 3 rfl) ?_
        refine cS_r (As := [.int (v_lane ((p0).toNatClampNeg)), .int p2]) C mfX12_cut t4_236 t4_235 (ccX12_cut l D cy (v_lane ((p0).toNatClampNeg)) p2 _ hF) rfl rfl (hP.sub [] rfl) PR.np rfl hl.1 rfl (Nat.le_of_ble_eq_true rfl) dX12_set_63 ⟨Nat.le_of_ble_eq_true rfl, Nat.le_of_ble_eq_true rfl⟩ ⟨Nat.le_of_ble_eq_true rfl, Nat.le_of_ble_eq_true rfl⟩ ?_
        intro r6 hF
        refine W.eq (g2 := F0 m 66 ls [.int r6, .int ((40 * p0) + p1), .ref h_items]) rfl ?_
        obtain ⟨hi7, hF⟩ := hF
        refine s_iast (j := (((40 * p0) + p1)).toNatClampNeg) hx hb hK.1 hP hD hS 3 0 rfl rfl hi7 rfl dX12_set_66 (fun H locs hP hD hS => ?_)
        have hP : va_P D CL [(h_this, .inr (11, [.ref h_lane, .ref h_many, .ref h_items, x_spare, .int v_status, x_tape, .int v_taped, .int v_faultKind, .int v_faultPlace, .int v_at, .int v_start, .int v_token, .int v_value, x_now, x_draft, x_tried, x_past, .int v_acts, x_images, x_kept, x_trace, .int v_traced, x_comes, x_standing, x_brought, x_habit, .int v_livedMany])), (h_lane, .inl (cy 0, 8, .inl v_lane)), (h_many, .inl (cy 0, 8, .inl v_many)), (h_items, .inl (cy 0, 320, .inl (upd v_items ((((40 * p0) + p1)).toNatClampNeg) r6)))] H := hP
        have hD : va_D A [(h_this, .inr (11, [.ref h_lane, .ref h_many, .ref h_items, x_spare, .int v_status, x_tape, .int v_taped, .int v_faultKind, .int v_faultPlace, .int v_at, .int v_start, .int v_token, .int v_value, x_now, x_draft, x_tried, x_past, .int v_acts, x_images, x_kept, x_trace, .int v_traced, x_comes, x_standing, x_brought, x_habit, .int v_livedMany])), (h_lane, .inl (cy 0, 8, .inl v_lane)), (h_many, .inl (cy 0, 8, .inl v_many)), (h_items, .inl (cy 0, 320, .inl (upd v_items ((((40 * p0) + p1)).toNatClampNeg) r6)))] := hD
        refine lv_aload_n hx hb dX12_set_67 rfl (lv_at hl 0 rfl) ?_
        refine lv_aload_n hx hb dX12_set_68 rfl (lv_at hl 0 rfl) ?_
        refine va_get (D := D) (ci := 11) (v := .ref h_items) (C := RX12) (T := TX12) (N := 27) hx hb hts inTX12 hown hK.1 hP 0 rfl rfl 2 (by decide) (hts _ t4_126) (fun _ h9 => h9) rfl dX12_set_69 ?_
        refine lv_bipush (v := 40) hx hb dX12_set_72 (by decide) ?_
        refine lv_iload_n hx hb dX12_set_74 rfl (lv_at hl 1 rfl) ?_
        refine lv_imul hx hb dX12_set_75 ?_
        refine lv_iload_n hx hb dX12_set_76 rfl (lv_at hl 2 rfl) ?_
        refine lv_iadd hx hb dX12_set_77 ?_
        obtain ⟨hi8, hF⟩ := hF
        refine s_iald (j := (((40 * p0) + p1)).toNatClampNeg) hx hb hK.1 hP 3 0 rfl rfl hi8 rfl dX12_set_78 ?_
        refine cV_t (As := [.int ((upd v_items ((((40 * p0) + p1)).toNatClampNeg) r6) ((((40 * p0) + p1)).toNatClampNeg))]) (wr := [(h_lane, .inl (cy 0, 8, .inl v_lane)), (h_many, .inl (cy 0, 8, .inl v_many)), (h_items, .inl (cy 0, 320, .inl (upd v_items ((((40 * p0) + p1)).toNatClampNeg) r6)))]) C hA hP hD hS mfX12_well t4_225 ts_15 t4_223 (ccX12_well l D cy h_this (.ref h_lane) (.ref h_many) (.ref h_items) x_spare x_tape x_now x_draft x_tried x_past x_images x_kept x_trace x_comes x_standing x_brought x_habit v_status v_taped v_faultKind v_faultPlace v_at v_start v_token v_value v_acts v_traced v_livedMany ((upd v_items ((((40 * p0) + p1)).toNatClampNeg) r6) ((((40 * p0) + p1)).toNatClampNeg)) _ hF) [0] [1, 2, 3] rfl rfl (by decide) (by decide) (by decide) PO.np 0 11 rfl rfl rfl rfl hl.1 rfl (Nat.le_of_ble_eq_true rfl) dX12_set_79 ⟨Nat.le_of_ble_eq_true rfl, Nat.le_of_ble_eq_true rfl⟩ ⟨Nat.le_of_ble_eq_true rfl, Nat.le_of_ble_eq_true rfl⟩ ?_
        rintro r9 w1 H locs ⟨u10_status, rfl, hF⟩ hP hD hS
        have hP : va_P D CL [(h_lane, .inl (cy 0, 8, .inl v_lane)), (h_many, .inl (cy 0, 8, .inl v_many)), (h_items, .inl (cy 0, 320, .inl (upd v_items ((((40 * p0) + p1)).toNatClampNeg) r6))), (h_this, .inr (11, [.ref h_lane, .ref h_many, .ref h_items, x_spare, .int u10_status, x_tape, .int v_taped, .int v_faultKind, .int v_faultPlace, .int v_at, .int v_start, .int v_token, .int v_value, x_now, x_draft, x_tried, x_past, .int v_acts, x_images, x_kept, x_trace, .int v_traced, x_comes, x_standing, x_brought, x_habit, .int v_livedMany]))] H := hP
        have hD : va_D A [(h_lane, .inl (cy 0, 8, .inl v_lane)), (h_many, .inl (cy 0, 8, .inl v_many)), (h_items, .inl (cy 0, 320, .inl (upd v_items ((((40 * p0) + p1)).toNatClampNeg) r6))), (h_this, .inr (11, [.ref h_lane, .ref h_many, .ref h_items, x_spare, .int u10_status, x_tape, .int v_taped, .int v_faultKind, .int v_faultPlace, .int v_at, .int v_start, .int v_token, .int v_value, x_now, x_draft, x_tried, x_past, .int v_acts, x_images, x_kept, x_trace, .int v_traced, x_comes, x_standing, x_brought, x_habit, .int v_livedMany]))] := hD
        refine W.eq (g2 := F0 m 82 ls [.int r9]) rfl ?_
        have hP : va_P D CL [(h_this, .inr (11, [.ref h_lane, .ref h_many, .ref h_items, x_spare, .int u10_status, x_tape, .int v_taped, .int v_faultKind, .int v_faultPlace, .int v_at, .int v_start, .int v_token, .int v_value, x_now, x_draft, x_tried, x_past, .int v_acts, x_images, x_kept, x_trace, .int v_traced, x_comes, x_standing, x_brought, x_habit, .int v_livedMany])), (h_lane, .inl (cy 0, 8, .inl v_lane)), (h_many, .inl (cy 0, 8, .inl v_many)), (h_items, .inl (cy 0, 320, .inl (upd v_items ((((40 * p0) + p1)).toNatClampNeg) r6)))] H := (hP.sub [3, 0, 1, 2] rfl)
        have hD : va_D A [(h_this, .inr (11, [.ref h_lane, .ref h_many, .ref h_items, x_spare, .int u10_status, x_tape, .int v_taped, .int v_faultKind, .int v_faultPlace, .int v_at, .int v_start, .int v_token, .int v_value, x_now, x_draft, x_tried, x_past, .int v_acts, x_images, x_kept, x_trace, .int v_traced, x_comes, x_standing, x_brought, x_habit, .int v_livedMany])), (h_lane, .inl (cy 0, 8, .inl v_lane)), (h_many, .inl (cy 0, 8, .inl v_many)), (h_items, .inl (cy 0, 320, .inl (upd v_items ((((40 * p0) + p1)).toNatClampNeg) r6)))] := (hD.sub [3, 0, 1, 2] (by decide) rfl)
        exact rt_i C hQ rfl hP hD hS ⟨u10_status, (upd v_items ((((40 * p0) + p1)).toNatClampNeg) r6), rfl, hF⟩ dX12_set_82
      · have hF := hF.2 ((bz_0 _).mp c_)
        refine lv_aload_n hx hb dX12_set_40 rfl (lv_at hl 0 rfl) ?_
        refine lv_iconst (v := 2) hx hb dX12_set_41 (by decide) ?_
        refine cV_t (As := [.int 2]) (wr := [(h_lane, .inl (cy 0, 8, .inl v_lane)), (h_many, .inl (cy 0, 8, .inl v_many)), (h_items, .inl (cy 0, 320, .inl v_items))]) C hA hP hD hS mfX12_found t4_220 ts_14 t4_218 (ccX12_found l D cy h_this (.ref h_lane) (.ref h_many) (.ref h_items) x_spare x_tape x_now x_draft x_tried x_past x_images x_kept x_trace x_comes x_standing x_brought x_habit v_status v_taped v_faultKind v_faultPlace v_at v_start v_token v_value v_acts v_traced v_livedMany 2 _ hF) [0] [1, 2, 3] rfl rfl (by decide) (by decide) (by decide) PO.np 0 11 rfl rfl rfl rfl hl.1 rfl (Nat.le_of_ble_eq_true rfl) dX12_set_42 ⟨Nat.le_of_ble_eq_true rfl, Nat.le_of_ble_eq_true rfl⟩ ⟨Nat.le_of_ble_eq_true rfl, Nat.le_of_ble_eq_true rfl⟩ ?_
        rintro r11 w1 H locs ⟨u12_status, rfl, hF⟩ hP hD hS
        have hP : va_P D CL [(h_lane, .inl (cy 0, 8, .inl v_lane)), (h_many, .inl (cy 0, 8, .inl v_many)), (h_items, .inl (cy 0, 320, .inl v_items)), (h_this, .inr (11, [.ref h_lane, .ref h_many, .ref h_items, x_spare, .int u12_status, x_tape, .int v_taped, .int v_faultKind, .int v_faultPlace, .int v_at, .int v_start, .int v_token, .int v_value, x_now, x_draft, x_tried, x_past, .int v_acts, x_images, x_kept, x_trace, .int v_traced, x_comes, x_standing, x_brought, x_habit, .int v_livedMany]))] H := hP
        have hD : va_D A [(h_lane, .inl (cy 0, 8, .inl v_lane)), (h_many, .inl (cy 0, 8, .inl v_many)), (h_items, .inl (cy 0, 320, .inl v_items)), (h_this, .inr (11, [.ref h_lane, .ref h_many, .ref h_items, x_spare, .int u12_status, x_tape, .int v_taped, .int v_faultKind, .int v_faultPlace, .int v_at, .int v_start, .int v_token, .int v_value, x_now, x_draft, x_tried, x_past, .int v_acts, x_images, x_kept, x_trace, .int v_traced, x_comes, x_standing, x_brought, x_habit, .int v_livedMany]))] := hD
        refine W.eq (g2 := F0 m 45 ls [.int r11]) rfl ?_
        have hP : va_P D CL [(h_this, .inr (11, [.ref h_lane, .ref h_many, .ref h_items, x_spare, .int u12_status, x_tape, .int v_taped, .int v_faultKind, .int v_faultPlace, .int v_at, .int v_start, .int v_token, .int v_value, x_now, x_draft, x_tried, x_past, .int v_acts, x_images, x_kept, x_trace, .int v_traced, x_comes, x_standing, x_brought, x_habit, .int v_livedMany])), (h_lane, .inl (cy 0, 8, .inl v_lane)), (h_many, .inl (cy 0, 8, .inl v_many)), (h_items, .inl (cy 0, 320, .inl v_items))] H := (hP.sub [3, 0, 1, 2] rfl)
        have hD : va_D A [(h_this, .inr (11, [.ref h_lane, .ref h_many, .ref h_items, x_spare, .int u12_status, x_tape, .int v_taped, .int v_faultKind, .int v_faultPlace, .int v_at, .int v_start, .int v_token, .int v_value, x_now, x_draft, x_tried, x_past, .int v_acts, x_images, x_kept, x_trace, .int v_traced, x_comes, x_standing, x_brought, x_habit, .int v_livedMany])), (h_lane, .inl (cy 0, 8, .inl v_lane)), (h_many, .inl (cy 0, 8, .inl v_many)), (h_items, .inl (cy 0, 320, .inl v_items))] := (hD.sub [3, 0, 1, 2] (by decide) rfl)
        exact rt_i C hQ rfl hP hD hS ⟨u12_status, v_items, rfl, hF⟩ dX12_set_45
    · have hF := hF.2 ((bz_1 _).mp c_)
      refine lv_aload_n hx hb dX12_set_18 rfl (lv_at hl 0 rfl) ?_
      refine lv_iconst (v := 1) hx hb dX12_set_19 (by decide) ?_
      refine cV_t (As := [.int 1]) (wr := [(h_lane, .inl (cy 0, 8, .inl v_lane)), (h_many, .inl (cy 0, 8, .inl v_many)), (h_items, .inl (cy 0, 320, .inl v_items))]) C hA hP hD hS mfX12_found t4_220 ts_14 t4_218 (ccX12_found l D cy h_this (.ref h_lane) (.ref h_many) (.ref h_items) x_spare x_tape x_now x_draft x_tried x_past x_images x_kept x_trace x_comes x_standing x_brought x_habit v_status v_taped v_faultKind v_faultPlace v_at v_start v_token v_value v_acts v_traced v_livedMany 1 _ hF) [0] [1, 2, 3] rfl rfl (by decide) (by decide) (by decide) PO.np 0 11 rfl rfl rfl rfl hl.1 rfl (Nat.le_of_ble_eq_true rfl) dX12_set_20 ⟨Nat.le_of_ble_eq_true rfl, Nat.le_of_ble_eq_true rfl⟩ ⟨Nat.le_of_ble_eq_true rfl, Nat.le_of_ble_eq_true rfl⟩ ?_
      rintro r13 w1 H locs ⟨u14_status, rfl, hF⟩ hP hD hS
      have hP : va_P D CL [(h_lane, .inl (cy 0, 8, .inl v_lane)), (h_many, .inl (cy 0, 8, .inl v_many)), (h_items, .inl (cy 0, 320, .inl v_items)), (h_this, .inr (11, [.ref h_lane, .ref h_many, .ref h_items, x_spare, .int u14_status, x_tape, .int v_taped, .int v_faultKind, .int v_faultPlace, .int v_at, .int v_start, .int v_token, .int v_value, x_now, x_draft, x_tried, x_past, .int v_acts, x_images, x_kept, x_trace, .int v_traced, x_comes, x_standing, x_brought, x_habit, .int v_livedMany]))] H := hP
      have hD : va_D A [(h_lane, .inl (cy 0, 8, .inl v_lane)), (h_many, .inl (cy 0, 8, .inl v_many)), (h_items, .inl (cy 0, 320, .inl v_items)), (h_this, .inr (11, [.ref h_lane, .ref h_many, .ref h_items, x_spare, .int u14_status, x_tape, .int v_taped, .int v_faultKind, .int v_faultPlace, .int v_at, .int v_start, .int v_token, .int v_value, x_now, x_draft, x_tried, x_past, .int v_acts, x_images, x_kept, x_trace, .int v_traced, x_comes, x_standing, x_brought, x_habit, .int v_livedMany]))] := hD
      refine W.eq (g2 := F0 m 23 ls [.int r13]) rfl ?_
      have hP : va_P D CL [(h_this, .inr (11, [.ref h_lane, .ref h_many, .ref h_items, x_spare, .int u14_status, x_tape, .int v_taped, .int v_faultKind, .int v_faultPlace, .int v_at, .int v_start, .int v_token, .int v_value, x_now, x_draft, x_tried, x_past, .int v_acts, x_images, x_kept, x_trace, .int v_traced, x_comes, x_standing, x_brought, x_habit, .int v_livedMany])), (h_lane, .inl (cy 0, 8, .inl v_lane)), (h_many, .inl (cy 0, 8, .inl v_many)), (h_items, .inl (cy 0, 320, .inl v_items))] H := (hP.sub [3, 0, 1, 2] rfl)
      have hD : va_D A [(h_this, .inr (11, [.ref h_lane, .ref h_many, .ref h_items, x_spare, .int u14_status, x_tape, .int v_taped, .int v_faultKind, .int v_faultPlace, .int v_at, .int v_start, .int v_token, .int v_value, x_now, x_draft, x_tried, x_past, .int v_acts, x_images, x_kept, x_trace, .int v_traced, x_comes, x_standing, x_brought, x_habit, .int v_livedMany])), (h_lane, .inl (cy 0, 8, .inl v_lane)), (h_many, .inl (cy 0, 8, .inl v_many)), (h_items, .inl (cy 0, 320, .inl v_items))] := (hD.sub [3, 0, 1, 2] (by decide) rfl)
      exact rt_i C hQ rfl hP hD hS ⟨u14_status, v_items, rfl, hF⟩ dX12_set_23
  · have hF := hF.2 ((bz_0 _).mp c_)
    refine lv_ldc hx hb hown (hts _ t4_217) dX12_set_7 ?_
    exact rt_i C hQ rfl hP hD hS ⟨v_status, v_items, rfl, hF⟩ dX12_set_9

def wpX12_isPart (p0 : Int32) (p1 : Int32) (p2 : Int32) (v_many : Nat → Int32) (post : Bool → Prop) : Prop := (p1 < 0 → (post false)) ∧ (¬ p1 < 0 → ((p2 < 0 → (post false)) ∧ (¬ p2 < 0 → (vp_in p0 8 ∧ (((v_many ((p0).toNatClampNeg)) < p1 → (post false)) ∧ (¬ (v_many ((p0).toNatClampNeg)) < p1 → (vp_in p0 8 ∧ ((((v_many ((p0).toNatClampNeg)) - p1) < p2 → (post false)) ∧ (¬ ((v_many ((p0).toNatClampNeg)) - p1) < p2 → (post true))))))))))
abbrev miX12_isPart : MI := (yX12_isPart, cX12_isPart, 4, (some .boolean))
theorem mfX12_isPart : MF miX12_isPart 3 := ⟨t5_5, t1_8, by decide +kernel⟩
abbrev rmX12_isPart : Room := { frames := 0, cells := 0, slots := 0, locals := 0 }
set_option maxHeartbeats 4000000 in
set_option maxRecDepth 100000 in
theorem ccX12_isPart (l : Launch) (D : va_G) (cy : Nat → ClassId) (h_this : Nat) (h_many : Nat) (x_lane : Value) (x_items : Value) (x_spare : Value) (x_tape : Value) (x_now : Value) (x_draft : Value) (x_tried : Value) (x_past : Value) (x_images : Value) (x_kept : Value) (x_trace : Value) (x_comes : Value) (x_standing : Value) (x_brought : Value) (x_habit : Value) (v_status : Int32) (v_taped : Int32) (v_faultKind : Int32) (v_faultPlace : Int32) (v_at : Int32) (v_start : Int32) (v_token : Int32) (v_value : Int32) (v_acts : Int32) (v_traced : Int32) (v_livedMany : Int32) (v_many : Nat → Int32) (p0 : Int32) (p1 : Int32) (p2 : Int32) (post : Bool → Prop) (hF : wpX12_isPart p0 p1 p2 v_many post) : Cr l D cy miX12_isPart rmX12_isPart emB NP [.ref h_this, .int p0, .int p1, .int p2] [(h_this, .inr (11, [x_lane, .ref h_many, x_items, x_spare, .int v_status, x_tape, .int v_taped, .int v_faultKind, .int v_faultPlace, .int v_at, .int v_start, .int v_token, .int v_value, x_now, x_draft, x_tried, x_past, .int v_acts, x_images, x_kept, x_trace, .int v_traced, x_comes, x_standing, x_brought, x_habit, .int v_livedMany])), (h_many, .inl (cy 0, 8, .inl v_many))] post := by
  refine Cr.of (by decide) (Nat.le_of_ble_eq_true rfl) ?_
  intro p e s m args below meth c ls Q C hQ hO hP hl
  obtain ⟨hx, hb, hr, hml, hown, hts, hK, hlk, hnm⟩ := id C
  have hb : c.code = cX12_isPart := hb
  have hml : c.maxLocals = 4 := hml
  have hown : s.vm.findClass RX12 = some m.cls := hown
  have hl : lv_has ls 4 [(0, .ref h_this), (1, .int p0), (2, .int p1), (3, .int p2)] := hl
  unfold wpX12_isPart at hF
  refine lv_iload_n hx hb dX12_isPart_0 rfl (lv_at hl 2 rfl) ?_
  refine lv_if_lt (tgt := 34) hx hb dX12_isPart_1 (by decide) (fun c_ => ?_) (fun c_ => ?_)
  · have hF := hF.1 c_
    refine lv_iconst (v := 0) hx hb dX12_isPart_34 (by decide) ?_
    refine W.eq (g2 := F0 m 35 ls [.int (bz false)]) rfl ?_
    exact rr_b C hQ rfl hF dX12_isPart_35
  · have hF := hF.2 c_
    refine lv_iload_n hx hb dX12_isPart_4 rfl (lv_at hl 3 rfl) ?_
    refine lv_if_lt (tgt := 34) hx hb dX12_isPart_5 (by decide) (fun c_ => ?_) (fun c_ => ?_)
    · have hF := hF.1 c_
      refine lv_iconst (v := 0) hx hb dX12_isPart_34 (by decide) ?_
      refine W.eq (g2 := F0 m 35 ls [.int (bz false)]) rfl ?_
      exact rr_b C hQ rfl hF dX12_isPart_35
    · have hF := hF.2 c_
      refine lv_iload_n hx hb dX12_isPart_8 rfl (lv_at hl 2 rfl) ?_
      refine lv_aload_n hx hb dX12_isPart_9 rfl (lv_at hl 0 rfl) ?_
      refine va_get (D := D) (ci := 11) (v := .ref h_many) (C := RX12) (T := TX12) (N := 27) hx hb hts inTX12 hown hK.1 hP 0 rfl rfl 1 (by decide) (hts _ t4_125) (fun _ h9 => h9) rfl dX12_isPart_10 ?_
      refine lv_iload_n hx hb dX12_isPart_13 rfl (lv_at hl 1 rfl) ?_
      obtain ⟨hi1, hF⟩ := hF
      refine s_iald (j := (p0).toNatClampNeg) hx hb hK.1 hP 1 0 rfl rfl hi1 rfl dX12_isPart_14 ?_
      refine lv_icmp_gt (tgt := 34) hx hb dX12_isPart_15 (by decide) (fun c_ => ?_) (fun c_ => ?_)
      · have hF := hF.1 c_
        refine lv_iconst (v := 0) hx hb dX12_isPart_34 (by decide) ?_
        refine W.eq (g2 := F0 m 35 ls [.int (bz false)]) rfl ?_
        exact rr_b C hQ rfl hF dX12_isPart_35
      · have hF := hF.2 c_
        refine lv_iload_n hx hb dX12_isPart_18 rfl (lv_at hl 3 rfl) ?_
        refine lv_aload_n hx hb dX12_isPart_19 rfl (lv_at hl 0 rfl) ?_
        refine va_get (D := D) (ci := 11) (v := .ref h_many) (C := RX12) (T := TX12) (N := 27) hx hb hts inTX12 hown hK.1 hP 0 rfl rfl 1 (by decide) (hts _ t4_125) (fun _ h9 => h9) rfl dX12_isPart_20 ?_
        refine lv_iload_n hx hb dX12_isPart_23 rfl (lv_at hl 1 rfl) ?_
        obtain ⟨hi2, hF⟩ := hF
        refine s_iald (j := (p0).toNatClampNeg) hx hb hK.1 hP 1 0 rfl rfl hi2 rfl dX12_isPart_24 ?_
        refine lv_iload_n hx hb dX12_isPart_25 rfl (lv_at hl 2 rfl) ?_
        refine lv_isub hx hb dX12_isPart_26 ?_
        refine lv_icmp_gt (tgt := 34) hx hb dX12_isPart_27 (by decide) (fun c_ => ?_) (fun c_ => ?_)
        · have hF := hF.1 c_
          refine lv_iconst (v := 0) hx hb dX12_isPart_34 (by decide) ?_
          refine W.eq (g2 := F0 m 35 ls [.int (bz false)]) rfl ?_
          exact rr_b C hQ rfl hF dX12_isPart_35
        · have hF := hF.2 c_
          refine lv_iconst (v := 1) hx hb dX12_isPart_30 (by decide) ?_
          refine lv_goto (tgt := 35) hx hb dX12_isPart_31 (by decide) ?_
          refine W.eq (g2 := F0 m 35 ls [.int (bz true)]) rfl ?_
          exact rr_b C hQ rfl hF dX12_isPart_35

def wlX12_copy_129 (v_lane : Nat → Int32) (v_many : Nat → Int32) (post : Int32 → Int32 → (Nat → Int32) → (Nat → Int32) → Prop) : Nat → Int32 → Int32 → Int32 → Int32 → Int32 → (Nat → Int32) → (Nat → Int32) → Prop
  | 0, _, _, _, _, _, _, _ => False
  | n + 1, l3, l4, l5, l6, w_status, w_spare, w_items => (l5 ≤ l6 → (wpX12_well l5 w_status (fun r1 u2_status => post r1 u2_status w_spare w_items))) ∧ (¬ l5 ≤ l6 → (vp_in l6 40 ∧ (vp_in (((40 * l3) + l4) + l6) 320 ∧ ((wlX12_copy_129 v_lane v_many post n) l3 l4 l5 (l6 + 1) w_status w_spare (upd w_items (((((40 * l3) + l4) + l6)).toNatClampNeg) (w_spare ((l6).toNatClampNeg)))))))
def wlX12_copy_92 (v_lane : Nat → Int32) (v_many : Nat → Int32) (post : Int32 → Int32 → (Nat → Int32) → (Nat → Int32) → Prop) : Nat → Int32 → Int32 → Int32 → Int32 → Int32 → Int32 → Int32 → (Nat → Int32) → (Nat → Int32) → Prop
  | 0, _, _, _, _, _, _, _, _, _ => False
  | n + 1, l1, l2, l3, l4, l5, l6, w_status, w_spare, w_items => (l5 ≤ l6 → (wlX12_copy_129 v_lane v_many post fu l3 l4 l5 0 w_status w_spare w_items)) ∧ (¬ l5 ≤ l6 → (vp_in (((40 * l1) + l2) + l6) 320 ∧ (vp_in l6 40 ∧ ((wlX12_copy_92 v_lane v_many post n) l1 l2 l3 l4 l5 (l6 + 1) w_status (upd w_spare ((l6).toNatClampNeg) (w_items (((((40 * l1) + l2) + l6)).toNatClampNeg))) w_items))))
def wjX12_copy_83 (v_lane : Nat → Int32) (v_many : Nat → Int32) (post : Int32 → Int32 → (Nat → Int32) → (Nat → Int32) → Prop) (w_status : Int32) (w_spare : Nat → Int32) (w_items : Nat → Int32) : Prop := wpX12_found 2 w_status (fun r1 u2_status => post r1 u2_status w_spare w_items)
def wjX12_copy_33 (v_lane : Nat → Int32) (v_many : Nat → Int32) (post : Int32 → Int32 → (Nat → Int32) → (Nat → Int32) → Prop) (w_status : Int32) (w_spare : Nat → Int32) (w_items : Nat → Int32) : Prop := wpX12_found 1 w_status (fun r1 u2_status => post r1 u2_status w_spare w_items)
def wpX12_copy (p0 : Int32) (p1 : Int32) (p2 : Int32) (p3 : Int32) (p4 : Int32) (v_status : Int32) (v_lane : Nat → Int32) (v_many : Nat → Int32) (v_spare : Nat → Int32) (v_items : Nat → Int32) (post : Int32 → Int32 → (Nat → Int32) → (Nat → Int32) → Prop) : Prop := wpX12_isRow p0 (fun r1 => (r1 = false → (post (-1000001) v_status v_spare v_items)) ∧ (r1 = true → (wpX12_isRow p2 (fun r2 => (r2 = true → (wpX12_isMissing p0 v_lane (fun r3 => (r3 = true → (wjX12_copy_33 v_lane v_many post v_status v_spare v_items)) ∧ (r3 = false → (wpX12_isMissing p2 v_lane (fun r4 => (r4 = false → (vp_in p0 8 ∧ (vp_in p2 8 ∧ (((v_lane ((p0).toNatClampNeg)) = (v_lane ((p2).toNatClampNeg)) → (wpX12_isPart p0 p1 p4 v_many (fun r7 => (r7 = false → (wjX12_copy_83 v_lane v_many post v_status v_spare v_items)) ∧ (r7 = true → (wpX12_isPart p2 p3 p4 v_many (fun r8 => (r8 = true → (wlX12_copy_92 v_lane v_many post fu p0 p1 p2 p3 p4 0 v_status v_spare v_items)) ∧ (r8 = false → (wjX12_copy_83 v_lane v_many post v_status v_spare v_items)))))))) ∧ (¬ (v_lane ((p0).toNatClampNeg)) = (v_lane ((p2).toNatClampNeg)) → (wpX12_found 5 v_status (fun r9 u10_status => post r9 u10_status v_spare v_items))))))) ∧ (r4 = true → (wjX12_copy_33 v_lane v_many post v_status v_spare v_items)))))))) ∧ (r2 = false → (post (-1000001) v_status v_spare v_items))))))
abbrev miX12_copy : MI := (yX12_copy, cX12_copy, 7, (some .int))
theorem mfX12_copy : MF miX12_copy 5 := ⟨t5_1, t1_8, by decide +kernel⟩
abbrev rmX12_copy : Room := { frames := 2, cells := 0, slots := 0, locals := 42 }
set_option maxHeartbeats 4000000 in
set_option maxRecDepth 100000 in
theorem ccX12_copy (l : Launch) (D : va_G) (cy : Nat → ClassId) (h_this : Nat) (h_lane : Nat) (h_many : Nat) (h_spare : Nat) (h_items : Nat) (x_tape : Value) (x_now : Value) (x_draft : Value) (x_tried : Value) (x_past : Value) (x_images : Value) (x_kept : Value) (x_trace : Value) (x_comes : Value) (x_standing : Value) (x_brought : Value) (x_habit : Value) (v_status : Int32) (v_taped : Int32) (v_faultKind : Int32) (v_faultPlace : Int32) (v_at : Int32) (v_start : Int32) (v_token : Int32) (v_value : Int32) (v_acts : Int32) (v_traced : Int32) (v_livedMany : Int32) (v_lane : Nat → Int32) (v_many : Nat → Int32) (v_spare : Nat → Int32) (v_items : Nat → Int32) (p0 : Int32) (p1 : Int32) (p2 : Int32) (p3 : Int32) (p4 : Int32) (post : Int32 → Int32 → (Nat → Int32) → (Nat → Int32) → Prop) (hF : wpX12_copy p0 p1 p2 p3 p4 v_status v_lane v_many v_spare v_items post) : Ct l D cy miX12_copy rmX12_copy emI NP [.ref h_this, .int p0, .int p1, .int p2, .int p3, .int p4] [(h_this, .inr (11, [.ref h_lane, .ref h_many, .ref h_items, .ref h_spare, .int v_status, x_tape, .int v_taped, .int v_faultKind, .int v_faultPlace, .int v_at, .int v_start, .int v_token, .int v_value, x_now, x_draft, x_tried, x_past, .int v_acts, x_images, x_kept, x_trace, .int v_traced, x_comes, x_standing, x_brought, x_habit, .int v_livedMany])), (h_lane, .inl (cy 0, 8, .inl v_lane)), (h_many, .inl (cy 0, 8, .inl v_many)), (h_spare, .inl (cy 0, 40, .inl v_spare)), (h_items, .inl (cy 0, 320, .inl v_items))] (fun r w1 => ∃ (w_status : Int32) (w_spare : Nat → Int32) (w_items : Nat → Int32), w1 = [(h_this, .inr (11, [.ref h_lane, .ref h_many, .ref h_items, .ref h_spare, .int w_status, x_tape, .int v_taped, .int v_faultKind, .int v_faultPlace, .int v_at, .int v_start, .int v_token, .int v_value, x_now, x_draft, x_tried, x_past, .int v_acts, x_images, x_kept, x_trace, .int v_traced, x_comes, x_standing, x_brought, x_habit, .int v_livedMany])), (h_lane, .inl (cy 0, 8, .inl v_lane)), (h_many, .inl (cy 0, 8, .inl v_many)), (h_spare, .inl (cy 0, 40, .inl w_spare)), (h_items, .inl (cy 0, 320, .inl w_items))] ∧ post r w_status w_spare w_items) := by
  refine Ct.of (by decide) (Nat.le_of_ble_eq_true rfl) ?_
  intro p e s m args below meth c A ls Q C hQ hA hI hP hD hS hl
  obtain ⟨hx, hb, hr, hml, hown, hts, hK, hlk, hnm⟩ := id C
  have hb : c.code = cX12_copy := hb
  have hml : c.maxLocals = 7 := hml
  have hown : s.vm.findClass RX12 = some m.cls := hown
  have hl : lv_has ls 7 [(0, .ref h_this), (1, .int p0), (2, .int p1), (3, .int p2), (4, .int p3), (5, .int p4)] := hl
  have L_129 : ∀ (n_129 : Nat) (l3 : Int32) (l4 : Int32) (l5 : Int32) (l6 : Int32) (w_status : Int32) (w_spare : Nat → Int32) (w_items : Nat → Int32) (H : Heap) (locs : List Loc) (ls : Array Slot), va_P D CL [(h_this, .inr (11, [.ref h_lane, .ref h_many, .ref h_items, .ref h_spare, .int w_status, x_tape, .int v_taped, .int v_faultKind, .int v_faultPlace, .int v_at, .int v_start, .int v_token, .int v_value, x_now, x_draft, x_tried, x_past, .int v_acts, x_images, x_kept, x_trace, .int v_traced, x_comes, x_standing, x_brought, x_habit, .int v_livedMany])), (h_lane, .inl (cy 0, 8, .inl v_lane)), (h_many, .inl (cy 0, 8, .inl v_many)), (h_spare, .inl (cy 0, 40, .inl w_spare)), (h_items, .inl (cy 0, 320, .inl w_items))] H → va_D A [(h_this, .inr (11, [.ref h_lane, .ref h_many, .ref h_items, .ref h_spare, .int w_status, x_tape, .int v_taped, .int v_faultKind, .int v_faultPlace, .int v_at, .int v_start, .int v_token, .int v_value, x_now, x_draft, x_tried, x_past, .int v_acts, x_images, x_kept, x_trace, .int v_traced, x_comes, x_standing, x_brought, x_habit, .int v_livedMany])), (h_lane, .inl (cy 0, 8, .inl v_lane)), (h_many, .inl (cy 0, 8, .inl v_many)), (h_spare, .inl (cy 0, 40, .inl w_spare)), (h_items, .inl (cy 0, 320, .inl w_items))] → va_S A s.heap H locs → lv_has ls 7 [(0, .ref h_this), (3, .int l3), (4, .int l4), (5, .int l5), (6, .int l6)] → wlX12_copy_129 v_lane v_many post n_129 l3 l4 l5 l6 w_status w_spare w_items → W p l e rmX12_copy s m args below meth c H locs 0 0 Q (F0 m 129 ls []) := by
    intro n_129
    induction n_129 with
    | zero =>
      intro l3 l4 l5 l6 w_status w_spare w_items H locs ls  hP hD hS hl hF
      simp only [wlX12_copy_129] at hF
    | succ n_129 ih_129 =>
      intro l3 l4 l5 l6 w_status w_spare w_items H locs ls  hP hD hS hl hF
      unfold wlX12_copy_129 at hF
      refine lv_iload hx hb dX12_copy_129 (lv_at hl 4 rfl) ?_
      refine lv_iload hx hb dX12_copy_131 (lv_at hl 3 rfl) ?_
      refine lv_icmp_ge (tgt := 164) hx hb dX12_copy_133 (by decide) (fun c_ => ?_) (fun c_ => ?_)
      · have hF := hF.1 c_
        refine lv_aload_n hx hb dX12_copy_164 rfl (lv_at hl 0 rfl) ?_
        refine lv_iload hx hb dX12_copy_165 (lv_at hl 3 rfl) ?_
        refine cV_t (As := [.int l5]) (wr := [(h_lane, .inl (cy 0, 8, .inl v_lane)), (h_many, .inl (cy 0, 8, .inl v_many)), (h_spare, .inl (cy 0, 40, .inl w_spare)), (h_items, .inl (cy 0, 320, .inl w_items))]) C hA hP hD hS mfX12_well t4_225 ts_15 t4_223 (ccX12_well l D cy h_this (.ref h_lane) (.ref h_many) (.ref h_items) (.ref h_spare) x_tape x_now x_draft x_tried x_past x_images x_kept x_trace x_comes x_standing x_brought x_habit w_status v_taped v_faultKind v_faultPlace v_at v_start v_token v_value v_acts v_traced v_livedMany l5 _ hF) [0] [1, 2, 3, 4] rfl rfl (by decide) (by decide) (by decide) PO.np 0 11 rfl rfl rfl rfl hl.1 rfl (Nat.le_of_ble_eq_true rfl) dX12_copy_167 ⟨Nat.le_of_ble_eq_true rfl, Nat.le_of_ble_eq_true rfl⟩ ⟨Nat.le_of_ble_eq_true rfl, Nat.le_of_ble_eq_true rfl⟩ ?_
        rintro r1 w1 H locs ⟨u2_status, rfl, hF⟩ hP hD hS
        have hP : va_P D CL [(h_lane, .inl (cy 0, 8, .inl v_lane)), (h_many, .inl (cy 0, 8, .inl v_many)), (h_spare, .inl (cy 0, 40, .inl w_spare)), (h_items, .inl (cy 0, 320, .inl w_items)), (h_this, .inr (11, [.ref h_lane, .ref h_many, .ref h_items, .ref h_spare, .int u2_status, x_tape, .int v_taped, .int v_faultKind, .int v_faultPlace, .int v_at, .int v_start, .int v_token, .int v_value, x_now, x_draft, x_tried, x_past, .int v_acts, x_images, x_kept, x_trace, .int v_traced, x_comes, x_standing, x_brought, x_habit, .int v_livedMany]))] H := hP
        have hD : va_D A [(h_lane, .inl (cy 0, 8, .inl v_lane)), (h_many, .inl (cy 0, 8, .inl v_many)), (h_spare, .inl (cy 0, 40, .inl w_spare)), (h_items, .inl (cy 0, 320, .inl w_items)), (h_this, .inr (11, [.ref h_lane, .ref h_many, .ref h_items, .ref h_spare, .int u2_status, x_tape, .int v_taped, .int v_faultKind, .int v_faultPlace, .int v_at, .int v_start, .int v_token, .int v_value, x_now, x_draft, x_tried, x_past, .int v_acts, x_images, x_kept, x_trace, .int v_traced, x_comes, x_standing, x_brought, x_habit, .int v_livedMany]))] := hD
        refine W.eq (g2 := F0 m 170 ls [.int r1]) rfl ?_
        have hP : va_P D CL [(h_this, .inr (11, [.ref h_lane, .ref h_many, .ref h_items, .ref h_spare, .int u2_status, x_tape, .int v_taped, .int v_faultKind, .int v_faultPlace, .int v_at, .int v_start, .int v_token, .int v_value, x_now, x_draft, x_tried, x_past, .int v_acts, x_images, x_kept, x_trace, .int v_traced, x_comes, x_standing, x_brought, x_habit, .int v_livedMany])), (h_lane, .inl (cy 0, 8, .inl v_lane)), (h_many, .inl (cy 0, 8, .inl v_many)), (h_spare, .inl (cy 0, 40, .inl w_spare)), (h_items, .inl (cy 0, 320, .inl w_items))] H := (hP.sub [4, 0, 1, 2, 3] rfl)
        have hD : va_D A [(h_this, .inr (11, [.ref h_lane, .ref h_many, .ref h_items, .ref h_spare, .int u2_status, x_tape, .int v_taped, .int v_faultKind, .int v_faultPlace, .int v_at, .int v_start, .int v_token, .int v_value, x_now, x_draft, x_tried, x_past, .int v_acts, x_images, x_kept, x_trace, .int v_traced, x_comes, x_standing, x_brought, x_habit, .int v_livedMany])), (h_lane, .inl (cy 0, 8, .inl v_lane)), (h_many, .inl (cy 0, 8, .inl v_many)), (h_spare, .inl (cy 0, 40, .inl w_spare)), (h_items, .inl (cy 0, 320, .inl w_items))] := (hD.sub [4, 0, 1, 2, 3] (by decide) rfl)
        exact rt_i C hQ rfl hP hD hS ⟨u2_status, w_spare, w_items, rfl, hF⟩ dX12_copy_170
      · have hF := hF.2 c_
        refine lv_aload_n hx hb dX12_copy_136 rfl (lv_at hl 0 rfl) ?_
        refine va_get (D := D) (ci := 11) (v := .ref h_items) (C := RX12) (T := TX12) (N := 27) hx hb hts inTX12 hown hK.1 hP 0 rfl rfl 2 (by decide) (hts _ t4_126) (fun _ h9 => h9) rfl dX12_copy_137 ?_
        refine lv_bipush (v := 40) hx hb dX12_copy_140 (by decide) ?_
        refine lv_iload_n hx hb dX12_copy_142 rfl (lv_at hl 1 rfl) ?_
        refine lv_imul hx hb dX12_copy_143 ?_
        refine lv_iload hx hb dX12_copy_144 (lv_at hl 2 rfl) ?_
        refine lv_iadd hx hb dX12_copy_146 ?_
        refine lv_iload hx hb dX12_copy_147 (lv_at hl 4 rfl) ?_
        refine lv_iadd hx hb dX12_copy_149 ?_
        refine lv_aload_n hx hb dX12_copy_150 rfl (lv_at hl 0 rfl) ?_
        refine va_get (D := D) (ci := 11) (v := .ref h_spare) (C := RX12) (T := TX12) (N := 27) hx hb hts inTX12 hown hK.1 hP 0 rfl rfl 3 (by decide) (hts _ t4_127) (fun _ h9 => h9) rfl dX12_copy_151 ?_
        refine lv_iload hx hb dX12_copy_154 (lv_at hl 4 rfl) ?_
        obtain ⟨hi3, hF⟩ := hF
        refine s_iald (j := (l6).toNatClampNeg) hx hb hK.1 hP 3 0 rfl rfl hi3 rfl dX12_copy_156 ?_
        obtain ⟨hi4, hF⟩ := hF
        refine s_iast (j := ((((40 * l3) + l4) + l6)).toNatClampNeg) hx hb hK.1 hP hD hS 4 0 rfl rfl hi4 rfl dX12_copy_157 (fun H locs hP hD hS => ?_)
        have hP : va_P D CL [(h_this, .inr (11, [.ref h_lane, .ref h_many, .ref h_items, .ref h_spare, .int w_status, x_tape, .int v_taped, .int v_faultKind, .int v_faultPlace, .int v_at, .int v_start, .int v_token, .int v_value, x_now, x_draft, x_tried, x_past, .int v_acts, x_images, x_kept, x_trace, .int v_traced, x_comes, x_standing, x_brought, x_habit, .int v_livedMany])), (h_lane, .inl (cy 0, 8, .inl v_lane)), (h_many, .inl (cy 0, 8, .inl v_many)), (h_spare, .inl (cy 0, 40, .inl w_spare)), (h_items, .inl (cy 0, 320, .inl (upd w_items (((((40 * l3) + l4) + l6)).toNatClampNeg) (w_spare ((l6).toNatClampNeg)))))] H := hP
        have hD : va_D A [(h_this, .inr (11, [.ref h_lane, .ref h_many, .ref h_items, .ref h_spare, .int w_status, x_tape, .int v_taped, .int v_faultKind, .int v_faultPlace, .int v_at, .int v_start, .int v_token, .int v_value, x_now, x_draft, x_tried, x_past, .int v_acts, x_images, x_kept, x_trace, .int v_traced, x_comes, x_standing, x_brought, x_habit, .int v_livedMany])), (h_lane, .inl (cy 0, 8, .inl v_lane)), (h_many, .inl (cy 0, 8, .inl v_many)), (h_spare, .inl (cy 0, 40, .inl w_spare)), (h_items, .inl (cy 0, 320, .inl (upd w_items (((((40 * l3) + l4) + l6)).toNatClampNeg) (w_spare ((l6).toNatClampNeg)))))] := hD
        refine lv_iinc (v := (l6 + 1)) (lv' := [(6, .int (l6 + 1)), (0, .ref h_this), (3, .int l3), (4, .int l4), (5, .int l5)]) hx hb dX12_copy_158 hl (k := 4) rfl rfl (by decide) rfl (fun ls hl => ?_)
        refine lv_goto (tgt := 129) hx hb dX12_copy_161 (by decide) ?_
        exact ih_129 l3 l4 l5 (l6 + 1) w_status w_spare (upd w_items (((((40 * l3) + l4) + l6)).toNatClampNeg) (w_spare ((l6).toNatClampNeg))) _ _ ls  hP hD hS (lv_sub hl [1, 2, 3, 4, 0] rfl) hF
  have L_92 : ∀ (n_92 : Nat) (l1 : Int32) (l2 : Int32) (l3 : Int32) (l4 : Int32) (l5 : Int32) (l6 : Int32) (w_status : Int32) (w_spare : Nat → Int32) (w_items : Nat → Int32) (H : Heap) (locs : List Loc) (ls : Array Slot), va_P D CL [(h_this, .inr (11, [.ref h_lane, .ref h_many, .ref h_items, .ref h_spare, .int w_status, x_tape, .int v_taped, .int v_faultKind, .int v_faultPlace, .int v_at, .int v_start, .int v_token, .int v_value, x_now, x_draft, x_tried, x_past, .int v_acts, x_images, x_kept, x_trace, .int v_traced, x_comes, x_standing, x_brought, x_habit, .int v_livedMany])), (h_lane, .inl (cy 0, 8, .inl v_lane)), (h_many, .inl (cy 0, 8, .inl v_many)), (h_spare, .inl (cy 0, 40, .inl w_spare)), (h_items, .inl (cy 0, 320, .inl w_items))] H → va_D A [(h_this, .inr (11, [.ref h_lane, .ref h_many, .ref h_items, .ref h_spare, .int w_status, x_tape, .int v_taped, .int v_faultKind, .int v_faultPlace, .int v_at, .int v_start, .int v_token, .int v_value, x_now, x_draft, x_tried, x_past, .int v_acts, x_images, x_kept, x_trace, .int v_traced, x_comes, x_standing, x_brought, x_habit, .int v_livedMany])), (h_lane, .inl (cy 0, 8, .inl v_lane)), (h_many, .inl (cy 0, 8, .inl v_many)), (h_spare, .inl (cy 0, 40, .inl w_spare)), (h_items, .inl (cy 0, 320, .inl w_items))] → va_S A s.heap H locs → lv_has ls 7 [(0, .ref h_this), (1, .int l1), (2, .int l2), (3, .int l3), (4, .int l4), (5, .int l5), (6, .int l6)] → wlX12_copy_92 v_lane v_many post n_92 l1 l2 l3 l4 l5 l6 w_status w_spare w_items → W p l e rmX12_copy s m args below meth c H locs 0 0 Q (F0 m 92 ls []) := by
    intro n_92
    induction n_92 with
    | zero =>
      intro l1 l2 l3 l4 l5 l6 w_status w_spare w_items H locs ls  hP hD hS hl hF
      simp only [wlX12_copy_92] at hF
    | succ n_92 ih_92 =>
      intro l1 l2 l3 l4 l5 l6 w_status w_spare w_items H locs ls  hP hD hS hl hF
      unfold wlX12_copy_92 at hF
      refine lv_iload hx hb dX12_copy_92 (lv_at hl 6 rfl) ?_
      refine lv_iload hx hb dX12_copy_94 (lv_at hl 5 rfl) ?_
      refine lv_icmp_ge (tgt := 126) hx hb dX12_copy_96 (by decide) (fun c_ => ?_) (fun c_ => ?_)
      · have hF := hF.1 c_
        refine lv_iconst (v := 0) hx hb dX12_copy_126 (by decide) ?_
        refine lv_istore (lv' := [(6, .int 0), (0, .ref h_this), (1, .int l1), (2, .int l2), (3, .int l3), (4, .int l4), (5, .int l5)]) hx hb dX12_copy_127 hl (by decide) rfl (fun ls hl => ?_)
        exact L_129 fu l3 l4 l5 0 w_status w_spare w_items _ _ ls  hP hD hS (lv_sub hl [1, 4, 5, 6, 0] rfl) hF
      · have hF := hF.2 c_
        refine lv_aload_n hx hb dX12_copy_99 rfl (lv_at hl 0 rfl) ?_
        refine va_get (D := D) (ci := 11) (v := .ref h_spare) (C := RX12) (T := TX12) (N := 27) hx hb hts inTX12 hown hK.1 hP 0 rfl rfl 3 (by decide) (hts _ t4_127) (fun _ h9 => h9) rfl dX12_copy_100 ?_
        refine lv_iload hx hb dX12_copy_103 (lv_at hl 6 rfl) ?_
        refine lv_aload_n hx hb dX12_copy_105 rfl (lv_at hl 0 rfl) ?_
        refine va_get (D := D) (ci := 11) (v := .ref h_items) (C := RX12) (T := TX12) (N := 27) hx hb hts inTX12 hown hK.1 hP 0 rfl rfl 2 (by decide) (hts _ t4_126) (fun _ h9 => h9) rfl dX12_copy_106 ?_
        refine lv_bipush (v := 40) hx hb dX12_copy_109 (by decide) ?_
        refine lv_iload_n hx hb dX12_copy_111 rfl (lv_at hl 1 rfl) ?_
        refine lv_imul hx hb dX12_copy_112 ?_
        refine lv_iload_n hx hb dX12_copy_113 rfl (lv_at hl 2 rfl) ?_
        refine lv_iadd hx hb dX12_copy_114 ?_
        refine lv_iload hx hb dX12_copy_115 (lv_at hl 6 rfl) ?_
        refine lv_iadd hx hb dX12_copy_117 ?_
        obtain ⟨hi1, hF⟩ := hF
        refine s_iald (j := ((((40 * l1) + l2) + l6)).toNatClampNeg) hx hb hK.1 hP 4 0 rfl rfl hi1 rfl dX12_copy_118 ?_
        obtain ⟨hi2, hF⟩ := hF
        refine s_iast (j := (l6).toNatClampNeg) hx hb hK.1 hP hD hS 3 0 rfl rfl hi2 rfl dX12_copy_119 (fun H locs hP hD hS => ?_)
        have hP : va_P D CL [(h_this, .inr (11, [.ref h_lane, .ref h_many, .ref h_items, .ref h_spare, .int w_status, x_tape, .int v_taped, .int v_faultKind, .int v_faultPlace, .int v_at, .int v_start, .int v_token, .int v_value, x_now, x_draft, x_tried, x_past, .int v_acts, x_images, x_kept, x_trace, .int v_traced, x_comes, x_standing, x_brought, x_habit, .int v_livedMany])), (h_lane, .inl (cy 0, 8, .inl v_lane)), (h_many, .inl (cy 0, 8, .inl v_many)), (h_spare, .inl (cy 0, 40, .inl (upd w_spare ((l6).toNatClampNeg) (w_items (((((40 * l1) + l2) + l6)).toNatClampNeg))))), (h_items, .inl (cy 0, 320, .inl w_items))] H := hP
        have hD : va_D A [(h_this, .inr (11, [.ref h_lane, .ref h_many, .ref h_items, .ref h_spare, .int w_status, x_tape, .int v_taped, .int v_faultKind, .int v_faultPlace, .int v_at, .int v_start, .int v_token, .int v_value, x_now, x_draft, x_tried, x_past, .int v_acts, x_images, x_kept, x_trace, .int v_traced, x_comes, x_standing, x_brought, x_habit, .int v_livedMany])), (h_lane, .inl (cy 0, 8, .inl v_lane)), (h_many, .inl (cy 0, 8, .inl v_many)), (h_spare, .inl (cy 0, 40, .inl (upd w_spare ((l6).toNatClampNeg) (w_items (((((40 * l1) + l2) + l6)).toNatClampNeg))))), (h_items, .inl (cy 0, 320, .inl w_items))] := hD
        refine lv_iinc (v := (l6 + 1)) (lv' := [(6, .int (l6 + 1)), (0, .ref h_this), (1, .int l1), (2, .int l2), (3, .int l3), (4, .int l4), (5, .int l5)]) hx hb dX12_copy_120 hl (k := 6) rfl rfl (by decide) rfl (fun ls hl => ?_)
        refine lv_goto (tgt := 92) hx hb dX12_copy_123 (by decide) ?_
        exact ih_92 l1 l2 l3 l4 l5 (l6 + 1) w_status (upd w_spare ((l6).toNatClampNeg) (w_items (((((40 * l1) + l2) + l6)).toNatClampNeg))) w_items _ _ ls  hP hD hS (lv_sub hl [1, 2, 3, 4, 5, 6, 0] rfl) hF
  have J_83 : ∀ (w_status : Int32) (w_spare : Nat → Int32) (w_items : Nat → Int32) (H : Heap) (locs : List Loc) (ls : Array Slot), va_P D CL [(h_this, .inr (11, [.ref h_lane, .ref h_many, .ref h_items, .ref h_spare, .int w_status, x_tape, .int v_taped, .int v_faultKind, .int v_faultPlace, .int v_at, .int v_start, .int v_token, .int v_value, x_now, x_draft, x_tried, x_past, .int v_acts, x_images, x_kept, x_trace, .int v_traced, x_comes, x_standing, x_brought, x_habit, .int v_livedMany])), (h_lane, .inl (cy 0, 8, .inl v_lane)), (h_many, .inl (cy 0, 8, .inl v_many)), (h_spare, .inl (cy 0, 40, .inl w_spare)), (h_items, .inl (cy 0, 320, .inl w_items))] H → va_D A [(h_this, .inr (11, [.ref h_lane, .ref h_many, .ref h_items, .ref h_spare, .int w_status, x_tape, .int v_taped, .int v_faultKind, .int v_faultPlace, .int v_at, .int v_start, .int v_token, .int v_value, x_now, x_draft, x_tried, x_past, .int v_acts, x_images, x_kept, x_trace, .int v_traced, x_comes, x_standing, x_brought, x_habit, .int v_livedMany])), (h_lane, .inl (cy 0, 8, .inl v_lane)), (h_many, .inl (cy 0, 8, .inl v_many)), (h_spare, .inl (cy 0, 40, .inl w_spare)), (h_items, .inl (cy 0, 320, .inl w_items))] → va_S A s.heap H locs → lv_has ls 7 [(0, .ref h_this)] → wjX12_copy_83 v_lane v_many post w_status w_spare w_items → W p l e rmX12_copy s m args below meth c H locs 0 0 Q (F0 m 83 ls []) := by
    intro w_status w_spare w_items H locs ls  hP hD hS hl hF
    unfold wjX12_copy_83 at hF
    refine lv_aload_n hx hb dX12_copy_83 rfl (lv_at hl 0 rfl) ?_
    refine lv_iconst (v := 2) hx hb dX12_copy_84 (by decide) ?_
    refine cV_t (As := [.int 2]) (wr := [(h_lane, .inl (cy 0, 8, .inl v_lane)), (h_many, .inl (cy 0, 8, .inl v_many)), (h_spare, .inl (cy 0, 40, .inl w_spare)), (h_items, .inl (cy 0, 320, .inl w_items))]) C hA hP hD hS mfX12_found t4_220 ts_14 t4_218 (ccX12_found l D cy h_this (.ref h_lane) (.ref h_many) (.ref h_items) (.ref h_spare) x_tape x_now x_draft x_tried x_past x_images x_kept x_trace x_comes x_standing x_brought x_habit w_status v_taped v_faultKind v_faultPlace v_at v_start v_token v_value v_acts v_traced v_livedMany 2 _ hF) [0] [1, 2, 3, 4] rfl rfl (by decide) (by decide) (by decide) PO.np 0 11 rfl rfl rfl rfl hl.1 rfl (Nat.le_of_ble_eq_true rfl) dX12_copy_85 ⟨Nat.le_of_ble_eq_true rfl, Nat.le_of_ble_eq_true rfl⟩ ⟨Nat.le_of_ble_eq_true rfl, Nat.le_of_ble_eq_true rfl⟩ ?_
    rintro r1 w1 H locs ⟨u2_status, rfl, hF⟩ hP hD hS
    have hP : va_P D CL [(h_lane, .inl (cy 0, 8, .inl v_lane)), (h_many, .inl (cy 0, 8, .inl v_many)), (h_spare, .inl (cy 0, 40, .inl w_spare)), (h_items, .inl (cy 0, 320, .inl w_items)), (h_this, .inr (11, [.ref h_lane, .ref h_many, .ref h_items, .ref h_spare, .int u2_status, x_tape, .int v_taped, .int v_faultKind, .int v_faultPlace, .int v_at, .int v_start, .int v_token, .int v_value, x_now, x_draft, x_tried, x_past, .int v_acts, x_images, x_kept, x_trace, .int v_traced, x_comes, x_standing, x_brought, x_habit, .int v_livedMany]))] H := hP
    have hD : va_D A [(h_lane, .inl (cy 0, 8, .inl v_lane)), (h_many, .inl (cy 0, 8, .inl v_many)), (h_spare, .inl (cy 0, 40, .inl w_spare)), (h_items, .inl (cy 0, 320, .inl w_items)), (h_this, .inr (11, [.ref h_lane, .ref h_many, .ref h_items, .ref h_spare, .int u2_status, x_tape, .int v_taped, .int v_faultKind, .int v_faultPlace, .int v_at, .int v_start, .int v_token, .int v_value, x_now, x_draft, x_tried, x_past, .int v_acts, x_images, x_kept, x_trace, .int v_traced, x_comes, x_standing, x_brought, x_habit, .int v_livedMany]))] := hD
    refine W.eq (g2 := F0 m 88 ls [.int r1]) rfl ?_
    have hP : va_P D CL [(h_this, .inr (11, [.ref h_lane, .ref h_many, .ref h_items, .ref h_spare, .int u2_status, x_tape, .int v_taped, .int v_faultKind, .int v_faultPlace, .int v_at, .int v_start, .int v_token, .int v_value, x_now, x_draft, x_tried, x_past, .int v_acts, x_images, x_kept, x_trace, .int v_traced, x_comes, x_standing, x_brought, x_habit, .int v_livedMany])), (h_lane, .inl (cy 0, 8, .inl v_lane)), (h_many, .inl (cy 0, 8, .inl v_many)), (h_spare, .inl (cy 0, 40, .inl w_spare)), (h_items, .inl (cy 0, 320, .inl w_items))] H := (hP.sub [4, 0, 1, 2, 3] rfl)
    have hD : va_D A [(h_this, .inr (11, [.ref h_lane, .ref h_many, .ref h_items, .ref h_spare, .int u2_status, x_tape, .int v_taped, .int v_faultKind, .int v_faultPlace, .int v_at, .int v_start, .int v_token, .int v_value, x_now, x_draft, x_tried, x_past, .int v_acts, x_images, x_kept, x_trace, .int v_traced, x_comes, x_standing, x_brought, x_habit, .int v_livedMany])), (h_lane, .inl (cy 0, 8, .inl v_lane)), (h_many, .inl (cy 0, 8, .inl v_many)), (h_spare, .inl (cy 0, 40, .inl w_spare)), (h_items, .inl (cy 0, 320, .inl w_items))] := (hD.sub [4, 0, 1, 2, 3] (by decide) rfl)
    exact rt_i C hQ rfl hP hD hS ⟨u2_status, w_spare, w_items, rfl, hF⟩ dX12_copy_88
  have J_33 : ∀ (w_status : Int32) (w_spare : Nat → Int32) (w_items : Nat → Int32) (H : Heap) (locs : List Loc) (ls : Array Slot), va_P D CL [(h_this, .inr (11, [.ref h_lane, .ref h_many, .ref h_items, .ref h_spare, .int w_status, x_tape, .int v_taped, .int v_faultKind, .int v_faultPlace, .int v_at, .int v_start, .int v_token, .int v_value, x_now, x_draft, x_tried, x_past, .int v_acts, x_images, x_kept, x_trace, .int v_traced, x_comes, x_standing, x_brought, x_habit, .int v_livedMany])), (h_lane, .inl (cy 0, 8, .inl v_lane)), (h_many, .inl (cy 0, 8, .inl v_many)), (h_spare, .inl (cy 0, 40, .inl w_spare)), (h_items, .inl (cy 0, 320, .inl w_items))] H → va_D A [(h_this, .inr (11, [.ref h_lane, .ref h_many, .ref h_items, .ref h_spare, .int w_status, x_tape, .int v_taped, .int v_faultKind, .int v_faultPlace, .int v_at, .int v_start, .int v_token, .int v_value, x_now, x_draft, x_tried, x_past, .int v_acts, x_images, x_kept, x_trace, .int v_traced, x_comes, x_standing, x_brought, x_habit, .int v_livedMany])), (h_lane, .inl (cy 0, 8, .inl v_lane)), (h_many, .inl (cy 0, 8, .inl v_many)), (h_spare, .inl (cy 0, 40, .inl w_spare)), (h_items, .inl (cy 0, 320, .inl w_items))] → va_S A s.heap H locs → lv_has ls 7 [(0, .ref h_this)] → wjX12_copy_33 v_lane v_many post w_status w_spare w_items → W p l e rmX12_copy s m args below meth c H locs 0 0 Q (F0 m 33 ls []) := by
    intro w_status w_spare w_items H locs ls  hP hD hS hl hF
    unfold wjX12_copy_33 at hF
    refine lv_aload_n hx hb dX12_copy_33 rfl (lv_at hl 0 rfl) ?_
    refine lv_iconst (v := 1) hx hb dX12_copy_34 (by decide) ?_
    refine cV_t (As := [.int 1]) (wr := [(h_lane, .inl (cy 0, 8, .inl v_lane)), (h_many, .inl (cy 0, 8, .inl v_many)), (h_spare, .inl (cy 0, 40, .inl w_spare)), (h_items, .inl (cy 0, 320, .inl w_items))]) C hA hP hD hS mfX12_found t4_220 ts_14 t4_218 (ccX12_found l D cy h_this (.ref h_lane) (.ref h_many) (.ref h_items) (.ref h_spare) x_tape x_now x_draft x_tried x_past x_images x_kept x_trace x_comes x_standing x_brought x_habit w_status v_taped v_faultKind v_faultPlace v_at v_start v_token v_value v_acts v_traced v_livedMany 1 _ hF) [0] [1, 2, 3, 4] rfl rfl (by decide) (by decide) (by decide) PO.np 0 11 rfl rfl rfl rfl hl.1 rfl (Nat.le_of_ble_eq_true rfl) dX12_copy_35 ⟨Nat.le_of_ble_eq_true rfl, Nat.le_of_ble_eq_true rfl⟩ ⟨Nat.le_of_ble_eq_true rfl, Nat.le_of_ble_eq_true rfl⟩ ?_
    rintro r1 w1 H locs ⟨u2_status, rfl, hF⟩ hP hD hS
    have hP : va_P D CL [(h_lane, .inl (cy 0, 8, .inl v_lane)), (h_many, .inl (cy 0, 8, .inl v_many)), (h_spare, .inl (cy 0, 40, .inl w_spare)), (h_items, .inl (cy 0, 320, .inl w_items)), (h_this, .inr (11, [.ref h_lane, .ref h_many, .ref h_items, .ref h_spare, .int u2_status, x_tape, .int v_taped, .int v_faultKind, .int v_faultPlace, .int v_at, .int v_start, .int v_token, .int v_value, x_now, x_draft, x_tried, x_past, .int v_acts, x_images, x_kept, x_trace, .int v_traced, x_comes, x_standing, x_brought, x_habit, .int v_livedMany]))] H := hP
    have hD : va_D A [(h_lane, .inl (cy 0, 8, .inl v_lane)), (h_many, .inl (cy 0, 8, .inl v_many)), (h_spare, .inl (cy 0, 40, .inl w_spare)), (h_items, .inl (cy 0, 320, .inl w_items)), (h_this, .inr (11, [.ref h_lane, .ref h_many, .ref h_items, .ref h_spare, .int u2_status, x_tape, .int v_taped, .int v_faultKind, .int v_faultPlace, .int v_at, .int v_start, .int v_token, .int v_value, x_now, x_draft, x_tried, x_past, .int v_acts, x_images, x_kept, x_trace, .int v_traced, x_comes, x_standing, x_brought, x_habit, .int v_livedMany]))] := hD
    refine W.eq (g2 := F0 m 38 ls [.int r1]) rfl ?_
    have hP : va_P D CL [(h_this, .inr (11, [.ref h_lane, .ref h_many, .ref h_items, .ref h_spare, .int u2_status, x_tape, .int v_taped, .int v_faultKind, .int v_faultPlace, .int v_at, .int v_start, .int v_token, .int v_value, x_now, x_draft, x_tried, x_past, .int v_acts, x_images, x_kept, x_trace, .int v_traced, x_comes, x_standing, x_brought, x_habit, .int v_livedMany])), (h_lane, .inl (cy 0, 8, .inl v_lane)), (h_many, .inl (cy 0, 8, .inl v_many)), (h_spare, .inl (cy 0, 40, .inl w_spare)), (h_items, .inl (cy 0, 320, .inl w_items))] H := (hP.sub [4, 0, 1, 2, 3] rfl)
    have hD : va_D A [(h_this, .inr (11, [.ref h_lane, .ref h_many, .ref h_items, .ref h_spare, .int u2_status, x_tape, .int v_taped, .int v_faultKind, .int v_faultPlace, .int v_at, .int v_start, .int v_token, .int v_value, x_now, x_draft, x_tried, x_past, .int v_acts, x_images, x_kept, x_trace, .int v_traced, x_comes, x_standing, x_brought, x_habit, .int v_livedMany])), (h_lane, .inl (cy 0, 8, .inl v_lane)), (h_many, .inl (cy 0, 8, .inl v_many)), (h_spare, .inl (cy 0, 40, .inl w_spare)), (h_items, .inl (cy 0, 320, .inl w_items))] := (hD.sub [4, 0, 1, 2, 3] (by decide) rfl)
    exact rt_i C hQ rfl hP hD hS ⟨u2_status, w_spare, w_items, rfl, hF⟩ dX12_copy_38
  unfold wpX12_copy at hF
  refine lv_iload_n hx hb dX12_copy_0 rfl (lv_at hl 1 rfl) ?_
  refine cS_r (As := [.int p0]) C mfX12_isRow t4_212 t4_211 (ccX12_isRow l D cy p0 _ hF) rfl rfl (hP.sub [] rfl) PR.np rfl hl.1 rfl (Nat.le_of_ble_eq_true rfl) dX12_copy_1 ⟨Nat.le_of_ble_eq_true rfl, Nat.le_of_ble_eq_true rfl⟩ ⟨Nat.le_of_ble_eq_true rfl, Nat.le_of_ble_eq_true rfl⟩ ?_
  intro r1 hF
  refine W.eq (g2 := F0 m 4 ls [.int (bz r1)]) rfl ?_
  refine lv_if_eq (tgt := 14) hx hb dX12_copy_4 (by decide) (fun c_ => ?_) (fun c_ => ?_)
  · have hF := hF.1 ((bz_0 _).mp c_)
    refine lv_ldc hx hb hown (hts _ t4_217) dX12_copy_14 ?_
    exact rt_i C hQ rfl hP hD hS ⟨v_status, v_spare, v_items, rfl, hF⟩ dX12_copy_16
  · have hF := hF.2 ((bz_1 _).mp c_)
    refine lv_iload_n hx hb dX12_copy_7 rfl (lv_at hl 3 rfl) ?_
    refine cS_r (As := [.int p2]) C mfX12_isRow t4_212 t4_211 (ccX12_isRow l D cy p2 _ hF) rfl rfl (hP.sub [] rfl) PR.np rfl hl.1 rfl (Nat.le_of_ble_eq_true rfl) dX12_copy_8 ⟨Nat.le_of_ble_eq_true rfl, Nat.le_of_ble_eq_true rfl⟩ ⟨Nat.le_of_ble_eq_true rfl, Nat.le_of_ble_eq_true rfl⟩ ?_
    intro r2 hF
    refine W.eq (g2 := F0 m 11 ls [.int (bz r2)]) rfl ?_
    refine lv_if_ne (tgt := 17) hx hb dX12_copy_11 (by decide) (fun c_ => ?_) (fun c_ => ?_)
    · have hF := hF.1 ((bz_1 _).mp c_)
      refine lv_aload_n hx hb dX12_copy_17 rfl (lv_at hl 0 rfl) ?_
      refine lv_iload_n hx hb dX12_copy_18 rfl (lv_at hl 1 rfl) ?_
      refine cV_r (As := [.int p0]) C mfX12_isMissing t4_233 ts_16 t4_231 (ccX12_isMissing l D cy h_this h_lane (.ref h_many) (.ref h_items) (.ref h_spare) x_tape x_now x_draft x_tried x_past x_images x_kept x_trace x_comes x_standing x_brought x_habit v_status v_taped v_faultKind v_faultPlace v_at v_start v_token v_value v_acts v_traced v_livedMany v_lane p0 _ hF) rfl rfl (hP.sub [0, 1] rfl) PR.np hP 0 11 rfl rfl rfl rfl hl.1 rfl (Nat.le_of_ble_eq_true rfl) dX12_copy_19 ⟨Nat.le_of_ble_eq_true rfl, Nat.le_of_ble_eq_true rfl⟩ ⟨Nat.le_of_ble_eq_true rfl, Nat.le_of_ble_eq_true rfl⟩ ?_
      intro r3 hF
      refine W.eq (g2 := F0 m 22 ls [.int (bz r3)]) rfl ?_
      refine lv_if_ne (tgt := 33) hx hb dX12_copy_22 (by decide) (fun c_ => ?_) (fun c_ => ?_)
      · have hF := hF.1 ((bz_1 _).mp c_)
        exact J_33 v_status v_spare v_items _ _ ls  hP hD hS (lv_sub hl [0] rfl) hF
      · have hF := hF.2 ((bz_0 _).mp c_)
        refine lv_aload_n hx hb dX12_copy_25 rfl (lv_at hl 0 rfl) ?_
        refine lv_iload_n hx hb dX12_copy_26 rfl (lv_at hl 3 rfl) ?_
        refine cV_r (As := [.int p2]) C mfX12_isMissing t4_233 ts_16 t4_231 (ccX12_isMissing l D cy h_this h_lane (.ref h_many) (.ref h_items) (.ref h_spare) x_tape x_now x_draft x_tried x_past x_images x_kept x_trace x_comes x_standing x_brought x_habit v_status v_taped v_faultKind v_faultPlace v_at v_start v_token v_value v_acts v_traced v_livedMany v_lane p2 _ hF) rfl rfl (hP.sub [0, 1] rfl) PR.np hP 0 11 rfl rfl rfl rfl hl.1 rfl (Nat.le_of_ble_eq_true rfl) dX12_copy_27 ⟨Nat.le_of_ble_eq_true rfl, Nat.le_of_ble_eq_true rfl⟩ ⟨Nat.le_of_ble_eq_true rfl, Nat.le_of_ble_eq_true rfl⟩ ?_
        intro r4 hF
        refine W.eq (g2 := F0 m 30 ls [.int (bz r4)]) rfl ?_
        refine lv_if_eq (tgt := 39) hx hb dX12_copy_30 (by decide) (fun c_ => ?_) (fun c_ => ?_)
        · have hF := hF.1 ((bz_0 _).mp c_)
          refine lv_aload_n hx hb dX12_copy_39 rfl (lv_at hl 0 rfl) ?_
          refine va_get (D := D) (ci := 11) (v := .ref h_lane) (C := RX12) (T := TX12) (N := 27) hx hb hts inTX12 hown hK.1 hP 0 rfl rfl 0 (by decide) (hts _ t4_124) (fun _ h9 => h9) rfl dX12_copy_40 ?_
          refine lv_iload_n hx hb dX12_copy_43 rfl (lv_at hl 1 rfl) ?_
          obtain ⟨hi5, hF⟩ := hF
          refine s_iald (j := (p0).toNatClampNeg) hx hb hK.1 hP 1 0 rfl rfl hi5 rfl dX12_copy_44 ?_
          refine lv_aload_n hx hb dX12_copy_45 rfl (lv_at hl 0 rfl) ?_
          refine va_get (D := D) (ci := 11) (v := .ref h_lane) (C := RX12) (T := TX12) (N := 27) hx hb hts inTX12 hown hK.1 hP 0 rfl rfl 0 (by decide) (hts _ t4_124) (fun _ h9 => h9) rfl dX12_copy_46 ?_
          refine lv_iload_n hx hb dX12_copy_49 rfl (lv_at hl 3 rfl) ?_
          obtain ⟨hi6, hF⟩ := hF
          refine s_iald (j := (p2).toNatClampNeg) hx hb hK.1 hP 1 0 rfl rfl hi6 rfl dX12_copy_50 ?_
          refine lv_icmp_eq (tgt := 60) hx hb dX12_copy_51 (by decide) (fun c_ => ?_) (fun c_ => ?_)
          · have hF := hF.1 c_
            refine lv_aload_n hx hb dX12_copy_60 rfl (lv_at hl 0 rfl) ?_
            refine lv_iload_n hx hb dX12_copy_61 rfl (lv_at hl 1 rfl) ?_
            refine lv_iload_n hx hb dX12_copy_62 rfl (lv_at hl 2 rfl) ?_
            refine lv_iload hx hb dX12_copy_63 (lv_at hl 5 rfl) ?_
            refine cV_r (As := [.int p0, .int p1, .int p4]) C mfX12_isPart t5_4 ts_17 t5_2 (ccX12_isPart l D cy h_this h_many (.ref h_lane) (.ref h_items) (.ref h_spare) x_tape x_now x_draft x_tried x_past x_images x_kept x_trace x_comes x_standing x_brought x_habit v_status v_taped v_faultKind v_faultPlace v_at v_start v_token v_value v_acts v_traced v_livedMany v_many p0 p1 p4 _ hF) rfl rfl (hP.sub [0, 2] rfl) PR.np hP 0 11 rfl rfl rfl rfl hl.1 rfl (Nat.le_of_ble_eq_true rfl) dX12_copy_65 ⟨Nat.le_of_ble_eq_true rfl, Nat.le_of_ble_eq_true rfl⟩ ⟨Nat.le_of_ble_eq_true rfl, Nat.le_of_ble_eq_true rfl⟩ ?_
            intro r7 hF
            refine W.eq (g2 := F0 m 68 ls [.int (bz r7)]) rfl ?_
            refine lv_if_eq (tgt := 83) hx hb dX12_copy_68 (by decide) (fun c_ => ?_) (fun c_ => ?_)
            · have hF := hF.1 ((bz_0 _).mp c_)
              exact J_83 v_status v_spare v_items _ _ ls  hP hD hS (lv_sub hl [0] rfl) hF
            · have hF := hF.2 ((bz_1 _).mp c_)
              refine lv_aload_n hx hb dX12_copy_71 rfl (lv_at hl 0 rfl) ?_
              refine lv_iload_n hx hb dX12_copy_72 rfl (lv_at hl 3 rfl) ?_
              refine lv_iload hx hb dX12_copy_73 (lv_at hl 4 rfl) ?_
              refine lv_iload hx hb dX12_copy_75 (lv_at hl 5 rfl) ?_
              refine cV_r (As := [.int p2, .int p3, .int p4]) C mfX12_isPart t5_4 ts_17 t5_2 (ccX12_isPart l D cy h_this h_many (.ref h_lane) (.ref h_items) (.ref h_spare) x_tape x_now x_draft x_tried x_past x_images x_kept x_trace x_comes x_standing x_brought x_habit v_status v_taped v_faultKind v_faultPlace v_at v_start v_token v_value v_acts v_traced v_livedMany v_many p2 p3 p4 _ hF) rfl rfl (hP.sub [0, 2] rfl) PR.np hP 0 11 rfl rfl rfl rfl hl.1 rfl (Nat.le_of_ble_eq_true rfl) dX12_copy_77 ⟨Nat.le_of_ble_eq_true rfl, Nat.le_of_ble_eq_true rfl⟩ ⟨Nat.le_of_ble_eq_true rfl, Nat.le_of_ble_eq_true rfl⟩ ?_
              intro r8 hF
              refine W.eq (g2 := F0 m 80 ls [.int (bz r8)]) rfl ?_
              refine lv_if_ne (tgt := 89) hx hb dX12_copy_80 (by decide) (fun c_ => ?_) (fun c_ => ?_)
              · have hF := hF.1 ((bz_1 _).mp c_)
                refine lv_iconst (v := 0) hx hb dX12_copy_89 (by decide) ?_
                refine lv_istore (lv' := [(6, .int 0), (0, .ref h_this), (1, .int p0), (2, .int p1), (3, .int p2), (4, .int p3), (5, .int p4)]) hx hb dX12_copy_90 hl (by decide) rfl (fun ls hl => ?_)
                exact L_92 fu p0 p1 p2 p3 p4 0 v_status v_spare v_items _ _ ls  hP hD hS (lv_sub hl [1, 2, 3, 4, 5, 6, 0] rfl) hF
              · have hF := hF.2 ((bz_0 _).mp c_)
                exact J_83 v_status v_spare v_items _ _ ls  hP hD hS (lv_sub hl [0] rfl) hF
          · have hF := hF.2 c_
            refine lv_aload_n hx hb dX12_copy_54 rfl (lv_at hl 0 rfl) ?_
            refine lv_iconst (v := 5) hx hb dX12_copy_55 (by decide) ?_
            refine cV_t (As := [.int 5]) (wr := [(h_lane, .inl (cy 0, 8, .inl v_lane)), (h_many, .inl (cy 0, 8, .inl v_many)), (h_spare, .inl (cy 0, 40, .inl v_spare)), (h_items, .inl (cy 0, 320, .inl v_items))]) C hA hP hD hS mfX12_found t4_220 ts_14 t4_218 (ccX12_found l D cy h_this (.ref h_lane) (.ref h_many) (.ref h_items) (.ref h_spare) x_tape x_now x_draft x_tried x_past x_images x_kept x_trace x_comes x_standing x_brought x_habit v_status v_taped v_faultKind v_faultPlace v_at v_start v_token v_value v_acts v_traced v_livedMany 5 _ hF) [0] [1, 2, 3, 4] rfl rfl (by decide) (by decide) (by decide) PO.np 0 11 rfl rfl rfl rfl hl.1 rfl (Nat.le_of_ble_eq_true rfl) dX12_copy_56 ⟨Nat.le_of_ble_eq_true rfl, Nat.le_of_ble_eq_true rfl⟩ ⟨Nat.le_of_ble_eq_true rfl, Nat.le_of_ble_eq_true rfl⟩ ?_
            rintro r9 w1 H locs ⟨u10_status, rfl, hF⟩ hP hD hS
            have hP : va_P D CL [(h_lane, .inl (cy 0, 8, .inl v_lane)), (h_many, .inl (cy 0, 8, .inl v_many)), (h_spare, .inl (cy 0, 40, .inl v_spare)), (h_items, .inl (cy 0, 320, .inl v_items)), (h_this, .inr (11, [.ref h_lane, .ref h_many, .ref h_items, .ref h_spare, .int u10_status, x_tape, .int v_taped, .int v_faultKind, .int v_faultPlace, .int v_at, .int v_start, .int v_token, .int v_value, x_now, x_draft, x_tried, x_past, .int v_acts, x_images, x_kept, x_trace, .int v_traced, x_comes, x_standing, x_brought, x_habit, .int v_livedMany]))] H := hP
            have hD : va_D A [(h_lane, .inl (cy 0, 8, .inl v_lane)), (h_many, .inl (cy 0, 8, .inl v_many)), (h_spare, .inl (cy 0, 40, .inl v_spare)), (h_items, .inl (cy 0, 320, .inl v_items)), (h_this, .inr (11, [.ref h_lane, .ref h_many, .ref h_items, .ref h_spare, .int u10_status, x_tape, .int v_taped, .int v_faultKind, .int v_faultPlace, .int v_at, .int v_start, .int v_token, .int v_value, x_now, x_draft, x_tried, x_past, .int v_acts, x_images, x_kept, x_trace, .int v_traced, x_comes, x_standing, x_brought, x_habit, .int v_livedMany]))] := hD
            refine W.eq (g2 := F0 m 59 ls [.int r9]) rfl ?_
            have hP : va_P D CL [(h_this, .inr (11, [.ref h_lane, .ref h_many, .ref h_items, .ref h_spare, .int u10_status, x_tape, .int v_taped, .int v_faultKind, .int v_faultPlace, .int v_at, .int v_start, .int v_token, .int v_value, x_now, x_draft, x_tried, x_past, .int v_acts, x_images, x_kept, x_trace, .int v_traced, x_comes, x_standing, x_brought, x_habit, .int v_livedMany])), (h_lane, .inl (cy 0, 8, .inl v_lane)), (h_many, .inl (cy 0, 8, .inl v_many)), (h_spare, .inl (cy 0, 40, .inl v_spare)), (h_items, .inl (cy 0, 320, .inl v_items))] H := (hP.sub [4, 0, 1, 2, 3] rfl)
            have hD : va_D A [(h_this, .inr (11, [.ref h_lane, .ref h_many, .ref h_items, .ref h_spare, .int u10_status, x_tape, .int v_taped, .int v_faultKind, .int v_faultPlace, .int v_at, .int v_start, .int v_token, .int v_value, x_now, x_draft, x_tried, x_past, .int v_acts, x_images, x_kept, x_trace, .int v_traced, x_comes, x_standing, x_brought, x_habit, .int v_livedMany])), (h_lane, .inl (cy 0, 8, .inl v_lane)), (h_many, .inl (cy 0, 8, .inl v_many)), (h_spare, .inl (cy 0, 40, .inl v_spare)), (h_items, .inl (cy 0, 320, .inl v_items))] := (hD.sub [4, 0, 1, 2, 3] (by decide) rfl)
            exact rt_i C hQ rfl hP hD hS ⟨u10_status, v_spare, v_items, rfl, hF⟩ dX12_copy_59
        · have hF := hF.2 ((bz_1 _).mp c_)
          exact J_33 v_status v_spare v_items _ _ ls  hP hD hS (lv_sub hl [0] rfl) hF
    · have hF := hF.2 ((bz_0 _).mp c_)
      refine lv_ldc hx hb hown (hts _ t4_217) dX12_copy_14 ?_
      exact rt_i C hQ rfl hP hD hS ⟨v_status, v_spare, v_items, rfl, hF⟩ dX12_copy_16

def wpX12_drop (p0 : Int32) (v_status : Int32) (v_lane : Nat → Int32) (v_many : Nat → Int32) (post : Int32 → Int32 → (Nat → Int32) → Prop) : Prop := wpX12_isRow p0 (fun r1 => (r1 = true → (wpX12_isMissing p0 v_lane (fun r2 => (r2 = false → (vp_in p0 8 ∧ (vp_in p0 8 ∧ (wpX12_well (v_many ((p0).toNatClampNeg)) v_status (fun r5 u6_status => post r5 u6_status (upd v_lane ((p0).toNatClampNeg) (-1000000))))))) ∧ (r2 = true → (wpX12_found 1 v_status (fun r7 u8_status => post r7 u8_status v_lane)))))) ∧ (r1 = false → (post (-1000001) v_status v_lane)))
abbrev miX12_drop : MI := (yX12_drop, cX12_drop, 2, (some .int))
theorem mfX12_drop : MF miX12_drop 1 := ⟨t5_9, t1_8, by decide +kernel⟩
abbrev rmX12_drop : Room := { frames := 2, cells := 0, slots := 0, locals := 42 }
set_option maxHeartbeats 4000000 in
set_option maxRecDepth 100000 in
theorem ccX12_drop (l : Launch) (D : va_G) (cy : Nat → ClassId) (h_this : Nat) (h_lane : Nat) (h_many : Nat) (x_items : Value) (x_spare : Value) (x_tape : Value) (x_now : Value) (x_draft : Value) (x_tried : Value) (x_past : Value) (x_images : Value) (x_kept : Value) (x_trace : Value) (x_comes : Value) (x_standing : Value) (x_brought : Value) (x_habit : Value) (v_status : Int32) (v_taped : Int32) (v_faultKind : Int32) (v_faultPlace : Int32) (v_at : Int32) (v_start : Int32) (v_token : Int32) (v_value : Int32) (v_acts : Int32) (v_traced : Int32) (v_livedMany : Int32) (v_lane : Nat → Int32) (v_many : Nat → Int32) (p0 : Int32) (post : Int32 → Int32 → (Nat → Int32) → Prop) (hF : wpX12_drop p0 v_status v_lane v_many post) : Ct l D cy miX12_drop rmX12_drop emI NP [.ref h_this, .int p0] [(h_this, .inr (11, [.ref h_lane, .ref h_many, x_items, x_spare, .int v_status, x_tape, .int v_taped, .int v_faultKind, .int v_faultPlace, .int v_at, .int v_start, .int v_token, .int v_value, x_now, x_draft, x_tried, x_past, .int v_acts, x_images, x_kept, x_trace, .int v_traced, x_comes, x_standing, x_brought, x_habit, .int v_livedMany])), (h_lane, .inl (cy 0, 8, .inl v_lane)), (h_many, .inl (cy 0, 8, .inl v_many))] (fun r w1 => ∃ (w_status : Int32) (w_lane : Nat → Int32), w1 = [(h_this, .inr (11, [.ref h_lane, .ref h_many, x_items, x_spare, .int w_status, x_tape, .int v_taped, .int v_faultKind, .int v_faultPlace, .int v_at, .int v_start, .int v_token, .int v_value, x_now, x_draft, x_tried, x_past, .int v_acts, x_images, x_kept, x_trace, .int v_traced, x_comes, x_standing, x_brought, x_habit, .int v_livedMany])), (h_lane, .inl (cy 0, 8, .inl w_lane)), (h_many, .inl (cy 0, 8, .inl v_many))] ∧ post r w_status w_lane) := by
  refine Ct.of (by decide) (Nat.le_of_ble_eq_true rfl) ?_
  intro p e s m args below meth c A ls Q C hQ hA hI hP hD hS hl
  obtain ⟨hx, hb, hr, hml, hown, hts, hK, hlk, hnm⟩ := id C
  have hb : c.code = cX12_drop := hb
  have hml : c.maxLocals = 2 := hml
  have hown : s.vm.findClass RX12 = some m.cls := hown
  have hl : lv_has ls 2 [(0, .ref h_this), (1, .int p0)] := hl
  unfold wpX12_drop at hF
  refine lv_iload_n hx hb dX12_drop_0 rfl (lv_at hl 1 rfl) ?_
  refine cS_r (As := [.int p0]) C mfX12_isRow t4_212 t4_211 (ccX12_isRow l D cy p0 _ hF) rfl rfl (hP.sub [] rfl) PR.np rfl hl.1 rfl (Nat.le_of_ble_eq_true rfl) dX12_drop_1 ⟨Nat.le_of_ble_eq_true rfl, Nat.le_of_ble_eq_true rfl⟩ ⟨Nat.le_of_ble_eq_true rfl, Nat.le_of_ble_eq_true rfl⟩ ?_
  intro r1 hF
  refine W.eq (g2 := F0 m 4 ls [.int (bz r1)]) rfl ?_
  refine lv_if_ne (tgt := 10) hx hb dX12_drop_4 (by decide) (fun c_ => ?_) (fun c_ => ?_)
  · have hF := hF.1 ((bz_1 _).mp c_)
    refine lv_aload_n hx hb dX12_drop_10 rfl (lv_at hl 0 rfl) ?_
    refine lv_iload_n hx hb dX12_drop_11 rfl (lv_at hl 1 rfl) ?_
    refine cV_r (As := [.int p0]) C mfX12_isMissing t4_233 ts_16 t4_231 (ccX12_isMissing l D cy h_this h_lane (.ref h_many) x_items x_spare x_tape x_now x_draft x_tried x_past x_images x_kept x_trace x_comes x_standing x_brought x_habit v_status v_taped v_faultKind v_faultPlace v_at v_start v_token v_value v_acts v_traced v_livedMany v_lane p0 _ hF) rfl rfl (hP.sub [0, 1] rfl) PR.np hP 0 11 rfl rfl rfl rfl hl.1 rfl (Nat.le_of_ble_eq_true rfl) dX12_drop_12 ⟨Nat.le_of_ble_eq_true rfl, Nat.le_of_ble_eq_true rfl⟩ ⟨Nat.le_of_ble_eq_true rfl, Nat.le_of_ble_eq_true rfl⟩ ?_
    intro r2 hF
    refine W.eq (g2 := F0 m 15 ls [.int (bz r2)]) rfl ?_
    refine lv_if_eq (tgt := 24) hx hb dX12_drop_15 (by decide) (fun c_ => ?_) (fun c_ => ?_)
    · have hF := hF.1 ((bz_0 _).mp c_)
      refine lv_aload_n hx hb dX12_drop_24 rfl (lv_at hl 0 rfl) ?_
      refine va_get (D := D) (ci := 11) (v := .ref h_lane) (C := RX12) (T := TX12) (N := 27) hx hb hts inTX12 hown hK.1 hP 0 rfl rfl 0 (by decide) (hts _ t4_124) (fun _ h9 => h9) rfl dX12_drop_25 ?_
      refine lv_iload_n hx hb dX12_drop_28 rfl (lv_at hl 1 rfl) ?_
      refine lv_ldc hx hb hown (hts _ t4_123) dX12_drop_29 ?_
      obtain ⟨hi3, hF⟩ := hF
      refine s_iast (j := (p0).toNatClampNeg) hx hb hK.1 hP hD hS 1 0 rfl rfl hi3 rfl dX12_drop_31 (fun H locs hP hD hS => ?_)
      have hP : va_P D CL [(h_this, .inr (11, [.ref h_lane, .ref h_many, x_items, x_spare, .int v_status, x_tape, .int v_taped, .int v_faultKind, .int v_faultPlace, .int v_at, .int v_start, .int v_token, .int v_value, x_now, x_draft, x_tried, x_past, .int v_acts, x_images, x_kept, x_trace, .int v_traced, x_comes, x_standing, x_brought, x_habit, .int v_livedMany])), (h_lane, .inl (cy 0, 8, .inl (upd v_lane ((p0).toNatClampNeg) (-1000000)))), (h_many, .inl (cy 0, 8, .inl v_many))] H := hP
      have hD : va_D A [(h_this, .inr (11, [.ref h_lane, .ref h_many, x_items, x_spare, .int v_status, x_tape, .int v_taped, .int v_faultKind, .int v_faultPlace, .int v_at, .int v_start, .int v_token, .int v_value, x_now, x_draft, x_tried, x_past, .int v_acts, x_images, x_kept, x_trace, .int v_traced, x_comes, x_standing, x_brought, x_habit, .int v_livedMany])), (h_lane, .inl (cy 0, 8, .inl (upd v_lane ((p0).toNatClampNeg) (-1000000)))), (h_many, .inl (cy 0, 8, .inl v_many))] := hD
      refine lv_aload_n hx hb dX12_drop_32 rfl (lv_at hl 0 rfl) ?_
      refine lv_aload_n hx hb dX12_drop_33 rfl (lv_at hl 0 rfl) ?_
      refine va_get (D := D) (ci := 11) (v := .ref h_many) (C := RX12) (T := TX12) (N := 27) hx hb hts inTX12 hown hK.1 hP 0 rfl rfl 1 (by decide) (hts _ t4_125) (fun _ h9 => h9) rfl dX12_drop_34 ?_
      refine lv_iload_n hx hb dX12_drop_37 rfl (lv_at hl 1 rfl) ?_
      obtain ⟨hi4, hF⟩ := hF
      refine s_iald (j := (p0).toNatClampNeg) hx hb hK.1 hP 2 0 rfl rfl hi4 rfl dX12_drop_38 ?_
      refine cV_t (As := [.int (v_many ((p0).toNatClampNeg))]) (wr := [(h_lane, .inl (cy 0, 8, .inl (upd v_lane ((p0).toNatClampNeg) (-1000000)))), (h_many, .inl (cy 0, 8, .inl v_many))]) C hA hP hD hS mfX12_well t4_225 ts_15 t4_223 (ccX12_well l D cy h_this (.ref h_lane) (.ref h_many) x_items x_spare x_tape x_now x_draft x_tried x_past x_images x_kept x_trace x_comes x_standing x_brought x_habit v_status v_taped v_faultKind v_faultPlace v_at v_start v_token v_value v_acts v_traced v_livedMany (v_many ((p0).toNatClampNeg)) _ hF) [0] [1, 2] rfl rfl (by decide) (by decide) (by decide) PO.np 0 11 rfl rfl rfl rfl hl.1 rfl (Nat.le_of_ble_eq_true rfl) dX12_drop_39 ⟨Nat.le_of_ble_eq_true rfl, Nat.le_of_ble_eq_true rfl⟩ ⟨Nat.le_of_ble_eq_true rfl, Nat.le_of_ble_eq_true rfl⟩ ?_
      rintro r5 w1 H locs ⟨u6_status, rfl, hF⟩ hP hD hS
      have hP : va_P D CL [(h_lane, .inl (cy 0, 8, .inl (upd v_lane ((p0).toNatClampNeg) (-1000000)))), (h_many, .inl (cy 0, 8, .inl v_many)), (h_this, .inr (11, [.ref h_lane, .ref h_many, x_items, x_spare, .int u6_status, x_tape, .int v_taped, .int v_faultKind, .int v_faultPlace, .int v_at, .int v_start, .int v_token, .int v_value, x_now, x_draft, x_tried, x_past, .int v_acts, x_images, x_kept, x_trace, .int v_traced, x_comes, x_standing, x_brought, x_habit, .int v_livedMany]))] H := hP
      have hD : va_D A [(h_lane, .inl (cy 0, 8, .inl (upd v_lane ((p0).toNatClampNeg) (-1000000)))), (h_many, .inl (cy 0, 8, .inl v_many)), (h_this, .inr (11, [.ref h_lane, .ref h_many, x_items, x_spare, .int u6_status, x_tape, .int v_taped, .int v_faultKind, .int v_faultPlace, .int v_at, .int v_start, .int v_token, .int v_value, x_now, x_draft, x_tried, x_past, .int v_acts, x_images, x_kept, x_trace, .int v_traced, x_comes, x_standing, x_brought, x_habit, .int v_livedMany]))] := hD
      refine W.eq (g2 := F0 m 42 ls [.int r5]) rfl ?_
      have hP : va_P D CL [(h_this, .inr (11, [.ref h_lane, .ref h_many, x_items, x_spare, .int u6_status, x_tape, .int v_taped, .int v_faultKind, .int v_faultPlace, .int v_at, .int v_start, .int v_token, .int v_value, x_now, x_draft, x_tried, x_past, .int v_acts, x_images, x_kept, x_trace, .int v_traced, x_comes, x_standing, x_brought, x_habit, .int v_livedMany])), (h_lane, .inl (cy 0, 8, .inl (upd v_lane ((p0).toNatClampNeg) (-1000000)))), (h_many, .inl (cy 0, 8, .inl v_many))] H := (hP.sub [2, 0, 1] rfl)
      have hD : va_D A [(h_this, .inr (11, [.ref h_lane, .ref h_many, x_items, x_spare, .int u6_status, x_tape, .int v_taped, .int v_faultKind, .int v_faultPlace, .int v_at, .int v_start, .int v_token, .int v_value, x_now, x_draft, x_tried, x_past, .int v_acts, x_images, x_kept, x_trace, .int v_traced, x_comes, x_standing, x_brought, x_habit, .int v_livedMany])), (h_lane, .inl (cy 0, 8, .inl (upd v_lane ((p0).toNatClampNeg) (-1000000)))), (h_many, .inl (cy 0, 8, .inl v_many))] := (hD.sub [2, 0, 1] (by decide) rfl)
      exact rt_i C hQ rfl hP hD hS ⟨u6_status, (upd v_lane ((p0).toNatClampNeg) (-1000000)), rfl, hF⟩ dX12_drop_42
    · have hF := hF.2 ((bz_1 _).mp c_)
      refine lv_aload_n hx hb dX12_drop_18 rfl (lv_at hl 0 rfl) ?_
      refine lv_iconst (v := 1) hx hb dX12_drop_19 (by decide) ?_
      refine cV_t (As := [.int 1]) (wr := [(h_lane, .inl (cy 0, 8, .inl v_lane)), (h_many, .inl (cy 0, 8, .inl v_many))]) C hA hP hD hS mfX12_found t4_220 ts_14 t4_218 (ccX12_found l D cy h_this (.ref h_lane) (.ref h_many) x_items x_spare x_tape x_now x_draft x_tried x_past x_images x_kept x_trace x_comes x_standing x_brought x_habit v_status v_taped v_faultKind v_faultPlace v_at v_start v_token v_value v_acts v_traced v_livedMany 1 _ hF) [0] [1, 2] rfl rfl (by decide) (by decide) (by decide) PO.np 0 11 rfl rfl rfl rfl hl.1 rfl (Nat.le_of_ble_eq_true rfl) dX12_drop_20 ⟨Nat.le_of_ble_eq_true rfl, Nat.le_of_ble_eq_true rfl⟩ ⟨Nat.le_of_ble_eq_true rfl, Nat.le_of_ble_eq_true rfl⟩ ?_
      rintro r7 w1 H locs ⟨u8_status, rfl, hF⟩ hP hD hS
      have hP : va_P D CL [(h_lane, .inl (cy 0, 8, .inl v_lane)), (h_many, .inl (cy 0, 8, .inl v_many)), (h_this, .inr (11, [.ref h_lane, .ref h_many, x_items, x_spare, .int u8_status, x_tape, .int v_taped, .int v_faultKind, .int v_faultPlace, .int v_at, .int v_start, .int v_token, .int v_value, x_now, x_draft, x_tried, x_past, .int v_acts, x_images, x_kept, x_trace, .int v_traced, x_comes, x_standing, x_brought, x_habit, .int v_livedMany]))] H := hP
      have hD : va_D A [(h_lane, .inl (cy 0, 8, .inl v_lane)), (h_many, .inl (cy 0, 8, .inl v_many)), (h_this, .inr (11, [.ref h_lane, .ref h_many, x_items, x_spare, .int u8_status, x_tape, .int v_taped, .int v_faultKind, .int v_faultPlace, .int v_at, .int v_start, .int v_token, .int v_value, x_now, x_draft, x_tried, x_past, .int v_acts, x_images, x_kept, x_trace, .int v_traced, x_comes, x_standing, x_brought, x_habit, .int v_livedMany]))] := hD
      refine W.eq (g2 := F0 m 23 ls [.int r7]) rfl ?_
      have hP : va_P D CL [(h_this, .inr (11, [.ref h_lane, .ref h_many, x_items, x_spare, .int u8_status, x_tape, .int v_taped, .int v_faultKind, .int v_faultPlace, .int v_at, .int v_start, .int v_token, .int v_value, x_now, x_draft, x_tried, x_past, .int v_acts, x_images, x_kept, x_trace, .int v_traced, x_comes, x_standing, x_brought, x_habit, .int v_livedMany])), (h_lane, .inl (cy 0, 8, .inl v_lane)), (h_many, .inl (cy 0, 8, .inl v_many))] H := (hP.sub [2, 0, 1] rfl)
      have hD : va_D A [(h_this, .inr (11, [.ref h_lane, .ref h_many, x_items, x_spare, .int u8_status, x_tape, .int v_taped, .int v_faultKind, .int v_faultPlace, .int v_at, .int v_start, .int v_token, .int v_value, x_now, x_draft, x_tried, x_past, .int v_acts, x_images, x_kept, x_trace, .int v_traced, x_comes, x_standing, x_brought, x_habit, .int v_livedMany])), (h_lane, .inl (cy 0, 8, .inl v_lane)), (h_many, .inl (cy 0, 8, .inl v_many))] := (hD.sub [2, 0, 1] (by decide) rfl)
      exact rt_i C hQ rfl hP hD hS ⟨u8_status, v_lane, rfl, hF⟩ dX12_drop_23
  · have hF := hF.2 ((bz_0 _).mp c_)
    refine lv_ldc hx hb hown (hts _ t4_217) dX12_drop_7 ?_
    exact rt_i C hQ rfl hP hD hS ⟨v_status, v_lane, rfl, hF⟩ dX12_drop_9

def wpX12_feed (p0 : Int32) (v_taped : Int32) (v_tape : Nat → Int32) (post : Int32 → Int32 → (Nat → Int32) → Prop) : Prop := wpX12_in p0 0 255 (fun r1 => (r1 = true → ((¬ v_taped = 60 → (vp_in v_taped 60 ∧ (post (v_taped + 1) (v_taped + 1) (upd v_tape ((v_taped).toNatClampNeg) p0)))) ∧ (v_taped = 60 → (post (-1000003) v_taped v_tape)))) ∧ (r1 = false → (post (-1000001) v_taped v_tape)))
abbrev miX12_feed : MI := (yX12_feed, cX12_feed, 2, (some .int))
theorem mfX12_feed : MF miX12_feed 1 := ⟨t5_13, t1_8, by decide +kernel⟩
abbrev rmX12_feed : Room := { frames := 1, cells := 0, slots := 0, locals := 22 }
set_option maxHeartbeats 4000000 in
set_option maxRecDepth 100000 in
theorem ccX12_feed (l : Launch) (D : va_G) (cy : Nat → ClassId) (h_this : Nat) (h_tape : Nat) (x_lane : Value) (x_many : Value) (x_items : Value) (x_spare : Value) (x_now : Value) (x_draft : Value) (x_tried : Value) (x_past : Value) (x_images : Value) (x_kept : Value) (x_trace : Value) (x_comes : Value) (x_standing : Value) (x_brought : Value) (x_habit : Value) (v_status : Int32) (v_taped : Int32) (v_faultKind : Int32) (v_faultPlace : Int32) (v_at : Int32) (v_start : Int32) (v_token : Int32) (v_value : Int32) (v_acts : Int32) (v_traced : Int32) (v_livedMany : Int32) (v_tape : Nat → Int32) (p0 : Int32) (post : Int32 → Int32 → (Nat → Int32) → Prop) (hF : wpX12_feed p0 v_taped v_tape post) : Ct l D cy miX12_feed rmX12_feed emI NP [.ref h_this, .int p0] [(h_this, .inr (11, [x_lane, x_many, x_items, x_spare, .int v_status, .ref h_tape, .int v_taped, .int v_faultKind, .int v_faultPlace, .int v_at, .int v_start, .int v_token, .int v_value, x_now, x_draft, x_tried, x_past, .int v_acts, x_images, x_kept, x_trace, .int v_traced, x_comes, x_standing, x_brought, x_habit, .int v_livedMany])), (h_tape, .inl (cy 0, 60, .inl v_tape))] (fun r w1 => ∃ (w_taped : Int32) (w_tape : Nat → Int32), w1 = [(h_this, .inr (11, [x_lane, x_many, x_items, x_spare, .int v_status, .ref h_tape, .int w_taped, .int v_faultKind, .int v_faultPlace, .int v_at, .int v_start, .int v_token, .int v_value, x_now, x_draft, x_tried, x_past, .int v_acts, x_images, x_kept, x_trace, .int v_traced, x_comes, x_standing, x_brought, x_habit, .int v_livedMany])), (h_tape, .inl (cy 0, 60, .inl w_tape))] ∧ post r w_taped w_tape) := by
  refine Ct.of (by decide) (Nat.le_of_ble_eq_true rfl) ?_
  intro p e s m args below meth c A ls Q C hQ hA hI hP hD hS hl
  obtain ⟨hx, hb, hr, hml, hown, hts, hK, hlk, hnm⟩ := id C
  have hb : c.code = cX12_feed := hb
  have hml : c.maxLocals = 2 := hml
  have hown : s.vm.findClass RX12 = some m.cls := hown
  have hl : lv_has ls 2 [(0, .ref h_this), (1, .int p0)] := hl
  unfold wpX12_feed at hF
  refine lv_iload_n hx hb dX12_feed_0 rfl (lv_at hl 1 rfl) ?_
  refine lv_iconst (v := 0) hx hb dX12_feed_1 (by decide) ?_
  refine lv_sipush (v := 255) hx hb dX12_feed_2 (by decide) ?_
  refine cS_r (As := [.int p0, .int 0, .int 255]) C mfX12_in t4_215 t4_214 (ccX12_in l D cy p0 0 255 _ hF) rfl rfl (hP.sub [] rfl) PR.np rfl hl.1 rfl (Nat.le_of_ble_eq_true rfl) dX12_feed_5 ⟨Nat.le_of_ble_eq_true rfl, Nat.le_of_ble_eq_true rfl⟩ ⟨Nat.le_of_ble_eq_true rfl, Nat.le_of_ble_eq_true rfl⟩ ?_
  intro r1 hF
  refine W.eq (g2 := F0 m 8 ls [.int (bz r1)]) rfl ?_
  refine lv_if_ne (tgt := 14) hx hb dX12_feed_8 (by decide) (fun c_ => ?_) (fun c_ => ?_)
  · have hF := hF.1 ((bz_1 _).mp c_)
    refine lv_aload_n hx hb dX12_feed_14 rfl (lv_at hl 0 rfl) ?_
    refine va_get (D := D) (ci := 11) (v := .int v_taped) (C := RX12) (T := TX12) (N := 27) hx hb hts inTX12 hown hK.1 hP 0 rfl rfl 6 (by decide) (hts _ t4_130) (fun _ h9 => h9) rfl dX12_feed_15 ?_
    refine lv_bipush (v := 60) hx hb dX12_feed_18 (by decide) ?_
    refine lv_icmp_ne (tgt := 26) hx hb dX12_feed_20 (by decide) (fun c_ => ?_) (fun c_ => ?_)
    · have hF := hF.1 c_
      refine lv_aload_n hx hb dX12_feed_26 rfl (lv_at hl 0 rfl) ?_
      refine va_get (D := D) (ci := 11) (v := .ref h_tape) (C := RX12) (T := TX12) (N := 27) hx hb hts inTX12 hown hK.1 hP 0 rfl rfl 5 (by decide) (hts _ t4_129) (fun _ h9 => h9) rfl dX12_feed_27 ?_
      refine lv_aload_n hx hb dX12_feed_30 rfl (lv_at hl 0 rfl) ?_
      refine va_get (D := D) (ci := 11) (v := .int v_taped) (C := RX12) (T := TX12) (N := 27) hx hb hts inTX12 hown hK.1 hP 0 rfl rfl 6 (by decide) (hts _ t4_130) (fun _ h9 => h9) rfl dX12_feed_31 ?_
      refine lv_iload_n hx hb dX12_feed_34 rfl (lv_at hl 1 rfl) ?_
      obtain ⟨hi2, hF⟩ := hF
      refine s_iast (j := (v_taped).toNatClampNeg) hx hb hK.1 hP hD hS 1 0 rfl rfl hi2 rfl dX12_feed_35 (fun H locs hP hD hS => ?_)
      have hP : va_P D CL [(h_this, .inr (11, [x_lane, x_many, x_items, x_spare, .int v_status, .ref h_tape, .int v_taped, .int v_faultKind, .int v_faultPlace, .int v_at, .int v_start, .int v_token, .int v_value, x_now, x_draft, x_tried, x_past, .int v_acts, x_images, x_kept, x_trace, .int v_traced, x_comes, x_standing, x_brought, x_habit, .int v_livedMany])), (h_tape, .inl (cy 0, 60, .inl (upd v_tape ((v_taped).toNatClampNeg) p0)))] H := hP
      have hD : va_D A [(h_this, .inr (11, [x_lane, x_many, x_items, x_spare, .int v_status, .ref h_tape, .int v_taped, .int v_faultKind, .int v_faultPlace, .int v_at, .int v_start, .int v_token, .int v_value, x_now, x_draft, x_tried, x_past, .int v_acts, x_images, x_kept, x_trace, .int v_traced, x_comes, x_standing, x_brought, x_habit, .int v_livedMany])), (h_tape, .inl (cy 0, 60, .inl (upd v_tape ((v_taped).toNatClampNeg) p0)))] := hD
      refine lv_aload_n hx hb dX12_feed_36 rfl (lv_at hl 0 rfl) ?_
      refine lv_dup hx hb dX12_feed_37 rfl ?_
      refine va_get (D := D) (ci := 11) (v := .int v_taped) (C := RX12) (T := TX12) (N := 27) hx hb hts inTX12 hown hK.1 hP 0 rfl rfl 6 (by decide) (hts _ t4_130) (fun _ h9 => h9) rfl dX12_feed_38 ?_
      refine lv_iconst (v := 1) hx hb dX12_feed_41 (by decide) ?_
      refine lv_iadd hx hb dX12_feed_42 ?_
      refine va_put (D := D) (ci := 11) (v := .int (v_taped + 1)) (ty := .int) (C := RX12) (T := TX12) (N := 27) hx hb hts inTX12 tyX12 tyX12_ok nmX12 hown hK.1 hP hD hS 0 rfl rfl 6 (by decide) (hts _ t4_130) (fun _ h9 => h9) rfl (tyX12_ok 6 (by decide)) rfl rfl (Nat.le_of_ble_eq_true rfl) dX12_feed_43 (fun H locs hP hD hS => ?_)
      have hP : va_P D CL [(h_this, .inr (11, [x_lane, x_many, x_items, x_spare, .int v_status, .ref h_tape, .int (v_taped + 1), .int v_faultKind, .int v_faultPlace, .int v_at, .int v_start, .int v_token, .int v_value, x_now, x_draft, x_tried, x_past, .int v_acts, x_images, x_kept, x_trace, .int v_traced, x_comes, x_standing, x_brought, x_habit, .int v_livedMany])), (h_tape, .inl (cy 0, 60, .inl (upd v_tape ((v_taped).toNatClampNeg) p0)))] H := hP
      have hD : va_D A [(h_this, .inr (11, [x_lane, x_many, x_items, x_spare, .int v_status, .ref h_tape, .int (v_taped + 1), .int v_faultKind, .int v_faultPlace, .int v_at, .int v_start, .int v_token, .int v_value, x_now, x_draft, x_tried, x_past, .int v_acts, x_images, x_kept, x_trace, .int v_traced, x_comes, x_standing, x_brought, x_habit, .int v_livedMany])), (h_tape, .inl (cy 0, 60, .inl (upd v_tape ((v_taped).toNatClampNeg) p0)))] := hD
      refine lv_aload_n hx hb dX12_feed_46 rfl (lv_at hl 0 rfl) ?_
      refine va_get (D := D) (ci := 11) (v := .int (v_taped + 1)) (C := RX12) (T := TX12) (N := 27) hx hb hts inTX12 hown hK.1 hP 0 rfl rfl 6 (by decide) (hts _ t4_130) (fun _ h9 => h9) rfl dX12_feed_47 ?_
      exact rt_i C hQ rfl hP hD hS ⟨(v_taped + 1), (upd v_tape ((v_taped).toNatClampNeg) p0), rfl, hF⟩ dX12_feed_50
    · have hF := hF.2 c_
      refine lv_ldc hx hb hown (hts _ t5_14) dX12_feed_23 ?_
      exact rt_i C hQ rfl hP hD hS ⟨v_taped, v_tape, rfl, hF⟩ dX12_feed_25
  · have hF := hF.2 ((bz_0 _).mp c_)
    refine lv_ldc hx hb hown (hts _ t4_217) dX12_feed_11 ?_
    exact rt_i C hQ rfl hP hD hS ⟨v_taped, v_tape, rfl, hF⟩ dX12_feed_13
