def wpX12_byteAt (p0 : Int32) (v_taped : Int32) (v_tape : Nat → Int32) (post : Int32 → Prop) : Prop := (v_taped ≤ p0 → (post (-1))) ∧ (¬ v_taped ≤ p0 → (vp_in p0 60 ∧ (post (v_tape ((p0).toNatClampNeg)))))
abbrev miX12_byteAt : MI := (yX12_byteAt, cX12_byteAt, 2, (some .int))
theorem mfX12_byteAt : MF miX12_byteAt 1 := ⟨t5_26, t1_8, by decide +kernel⟩
abbrev rmX12_byteAt : Room := { frames := 0, cells := 0, slots := 0, locals := 0 }
set_option maxHeartbeats 4000000 in
set_option maxRecDepth 100000 in
theorem ccX12_byteAt (l : Launch) (D : va_G) (cy : Nat → ClassId) (h_this : Nat) (h_tape : Nat) (x_lane : Value) (x_many : Value) (x_items : Value) (x_spare : Value) (x_now : Value) (x_draft : Value) (x_tried : Value) (x_past : Value) (x_images : Value) (x_kept : Value) (x_trace : Value) (x_comes : Value) (x_standing : Value) (x_brought : Value) (x_habit : Value) (v_status : Int32) (v_taped : Int32) (v_faultKind : Int32) (v_faultPlace : Int32) (v_at : Int32) (v_start : Int32) (v_token : Int32) (v_value : Int32) (v_acts : Int32) (v_traced : Int32) (v_livedMany : Int32) (v_tape : Nat → Int32) (p0 : Int32) (post : Int32 → Prop) (hF : wpX12_byteAt p0 v_taped v_tape post) : Cr l D cy miX12_byteAt rmX12_byteAt emI NP [.ref h_this, .int p0] [(h_this, .inr (11, [x_lane, x_many, x_items, x_spare, .int v_status, .ref h_tape, .int v_taped, .int v_faultKind, .int v_faultPlace, .int v_at, .int v_start, .int v_token, .int v_value, x_now, x_draft, x_tried, x_past, .int v_acts, x_images, x_kept, x_trace, .int v_traced, x_comes, x_standing, x_brought, x_habit, .int v_livedMany])), (h_tape, .inl (cy 0, 60, .inl v_tape))] post := by
  refine Cr.of (by decide) (Nat.le_of_ble_eq_true rfl) ?_
  intro p e s m args below meth c ls Q C hQ hO hP hl
  obtain ⟨hx, hb, hr, hml, hown, hts, hK, hlk, hnm⟩ := id C
  have hb : c.code = cX12_byteAt := hb
  have hml : c.maxLocals = 2 := hml
  have hown : s.vm.findClass RX12 = some m.cls := hown
  have hl : lv_has ls 2 [(0, .ref h_this), (1, .int p0)] := hl
  unfold wpX12_byteAt at hF
  refine lv_iload_n hx hb dX12_byteAt_0 rfl (lv_at hl 1 rfl) ?_
  refine lv_aload_n hx hb dX12_byteAt_1 rfl (lv_at hl 0 rfl) ?_
  refine va_get (D := D) (ci := 11) (v := .int v_taped) (C := RX12) (T := TX12) (N := 27) hx hb hts inTX12 hown hK.1 hP 0 rfl rfl 6 (by decide) (hts _ t4_130) (fun _ h9 => h9) rfl dX12_byteAt_2 ?_
  refine lv_icmp_ge (tgt := 17) hx hb dX12_byteAt_5 (by decide) (fun c_ => ?_) (fun c_ => ?_)
  · have hF := hF.1 c_
    refine lv_iconst (v := (-1)) hx hb dX12_byteAt_17 (by decide) ?_
    exact rr_i C hQ rfl hF dX12_byteAt_18
  · have hF := hF.2 c_
    refine lv_aload_n hx hb dX12_byteAt_8 rfl (lv_at hl 0 rfl) ?_
    refine va_get (D := D) (ci := 11) (v := .ref h_tape) (C := RX12) (T := TX12) (N := 27) hx hb hts inTX12 hown hK.1 hP 0 rfl rfl 5 (by decide) (hts _ t4_129) (fun _ h9 => h9) rfl dX12_byteAt_9 ?_
    refine lv_iload_n hx hb dX12_byteAt_12 rfl (lv_at hl 1 rfl) ?_
    obtain ⟨hi1, hF⟩ := hF
    refine s_iald (j := (p0).toNatClampNeg) hx hb hK.1 hP 1 0 rfl rfl hi1 rfl dX12_byteAt_13 ?_
    refine lv_goto (tgt := 18) hx hb dX12_byteAt_14 (by decide) ?_
    exact rr_i C hQ rfl hF dX12_byteAt_18

def wjX12_advances_180 (v_taped : Int32) (v_tape : Nat → Int32) (post : Unit → Int32 → Int32 → Int32 → Int32 → Prop) (k0 : Int32) (w_at : Int32) (w_start : Int32) (w_token : Int32) (w_value : Int32) : Prop := (¬ k0 = 0 → (post () (w_at + 1) w_start k0 w_value)) ∧ (k0 = 0 → (post () (w_at + 0) w_start k0 w_value))
def wjX12_advances_96 (v_taped : Int32) (v_tape : Nat → Int32) (post : Unit → Int32 → Int32 → Int32 → Int32 → Prop) (K_38 : Int32 → Int32 → Int32 → Int32 → Prop) (k0 : Int32) (w_at : Int32) (w_start : Int32) (w_token : Int32) (w_value : Int32) : Prop := K_38 (w_at + 1) w_start w_token k0
def wlX12_advances_38 (v_taped : Int32) (v_tape : Nat → Int32) (post : Unit → Int32 → Int32 → Int32 → Int32 → Prop) : Nat → Int32 → Int32 → Int32 → Int32 → Prop
  | 0, _, _, _, _ => False
  | n + 1, w_at, w_start, w_token, w_value => wpX12_byteAt w_at v_taped v_tape (fun r1 => wpX12_in r1 48 57 (fun r2 => (r2 = false → ((3 ≤ (w_at - w_start) → (post () w_at w_start 5 w_value)) ∧ (¬ 3 ≤ (w_at - w_start) → (post () w_at w_start 2 w_value)))) ∧ (r2 = true → ((2 ≤ (w_at - w_start) → (wjX12_advances_96 v_taped v_tape post (wlX12_advances_38 v_taped v_tape post n) w_value w_at w_start w_token w_value)) ∧ (¬ 2 ≤ (w_at - w_start) → (wpX12_byteAt w_at v_taped v_tape (fun r3 => wjX12_advances_96 v_taped v_tape post (wlX12_advances_38 v_taped v_tape post n) (((10 * w_value) + r3) - 48) w_at w_start w_token w_value)))))))
def wpX12_advances (v_taped : Int32) (v_at : Int32) (v_start : Int32) (v_token : Int32) (v_value : Int32) (v_tape : Nat → Int32) (post : Unit → Int32 → Int32 → Int32 → Int32 → Prop) : Prop := wpX12_byteAt v_at v_taped v_tape (fun r1 => wpX12_in r1 48 57 (fun r2 => (r2 = false → ((0 ≤ r1 → (wpX12_in r1 97 122 (fun r3 => (r3 = false → ((¬ r1 = 44 → ((¬ r1 = 59 → (wjX12_advances_180 v_taped v_tape post 5 v_at v_at v_token r1)) ∧ (r1 = 59 → (wjX12_advances_180 v_taped v_tape post 4 v_at v_at v_token r1)))) ∧ (r1 = 44 → (wjX12_advances_180 v_taped v_tape post 3 v_at v_at v_token r1)))) ∧ (r3 = true → (wjX12_advances_180 v_taped v_tape post 1 v_at v_at v_token r1))))) ∧ (¬ 0 ≤ r1 → (wjX12_advances_180 v_taped v_tape post 0 v_at v_at v_token r1)))) ∧ (r2 = true → (wlX12_advances_38 v_taped v_tape post fu v_at v_at v_token 0))))
abbrev miX12_advances : MI := (yX12_advances, cX12_advances, 2, none)
theorem mfX12_advances : MF miX12_advances 0 := ⟨t5_22, t1_8, by decide +kernel⟩
abbrev rmX12_advances : Room := { frames := 1, cells := 0, slots := 0, locals := 22 }
set_option maxHeartbeats 4000000 in
set_option maxRecDepth 100000 in
theorem ccX12_advances (l : Launch) (D : va_G) (cy : Nat → ClassId) (h_this : Nat) (h_tape : Nat) (x_lane : Value) (x_many : Value) (x_items : Value) (x_spare : Value) (x_now : Value) (x_draft : Value) (x_tried : Value) (x_past : Value) (x_images : Value) (x_kept : Value) (x_trace : Value) (x_comes : Value) (x_standing : Value) (x_brought : Value) (x_habit : Value) (v_status : Int32) (v_taped : Int32) (v_faultKind : Int32) (v_faultPlace : Int32) (v_at : Int32) (v_start : Int32) (v_token : Int32) (v_value : Int32) (v_acts : Int32) (v_traced : Int32) (v_livedMany : Int32) (v_tape : Nat → Int32) (post : Unit → Int32 → Int32 → Int32 → Int32 → Prop) (hF : wpX12_advances v_taped v_at v_start v_token v_value v_tape post) : Ct l D cy miX12_advances rmX12_advances emV NP [.ref h_this] [(h_this, .inr (11, [x_lane, x_many, x_items, x_spare, .int v_status, .ref h_tape, .int v_taped, .int v_faultKind, .int v_faultPlace, .int v_at, .int v_start, .int v_token, .int v_value, x_now, x_draft, x_tried, x_past, .int v_acts, x_images, x_kept, x_trace, .int v_traced, x_comes, x_standing, x_brought, x_habit, .int v_livedMany])), (h_tape, .inl (cy 0, 60, .inl v_tape))] (fun r w1 => ∃ (w_at : Int32) (w_start : Int32) (w_token : Int32) (w_value : Int32), w1 = [(h_this, .inr (11, [x_lane, x_many, x_items, x_spare, .int v_status, .ref h_tape, .int v_taped, .int v_faultKind, .int v_faultPlace, .int w_at, .int w_start, .int w_token, .int w_value, x_now, x_draft, x_tried, x_past, .int v_acts, x_images, x_kept, x_trace, .int v_traced, x_comes, x_standing, x_brought, x_habit, .int v_livedMany])), (h_tape, .inl (cy 0, 60, .inl v_tape))] ∧ post r w_at w_start w_token w_value) := by
  refine Ct.of (by decide) (Nat.le_of_ble_eq_true rfl) ?_
  intro p e s m args below meth c A ls Q C hQ hA hI hP hD hS hl
  obtain ⟨hx, hb, hr, hml, hown, hts, hK, hlk, hnm⟩ := id C
  have hb : c.code = cX12_advances := hb
  have hml : c.maxLocals = 2 := hml
  have hown : s.vm.findClass RX12 = some m.cls := hown
  have hl : lv_has ls 2 [(0, .ref h_this)] := hl
  have J_180 : ∀ (k0 : Int32) (w_at : Int32) (w_start : Int32) (w_token : Int32) (w_value : Int32) (H : Heap) (locs : List Loc) (ls : Array Slot), va_P D CL [(h_this, .inr (11, [x_lane, x_many, x_items, x_spare, .int v_status, .ref h_tape, .int v_taped, .int v_faultKind, .int v_faultPlace, .int w_at, .int w_start, .int w_token, .int w_value, x_now, x_draft, x_tried, x_past, .int v_acts, x_images, x_kept, x_trace, .int v_traced, x_comes, x_standing, x_brought, x_habit, .int v_livedMany])), (h_tape, .inl (cy 0, 60, .inl v_tape))] H → va_D A [(h_this, .inr (11, [x_lane, x_many, x_items, x_spare, .int v_status, .ref h_tape, .int v_taped, .int v_faultKind, .int v_faultPlace, .int w_at, .int w_start, .int w_token, .int w_value, x_now, x_draft, x_tried, x_past, .int v_acts, x_images, x_kept, x_trace, .int v_traced, x_comes, x_standing, x_brought, x_habit, .int v_livedMany])), (h_tape, .inl (cy 0, 60, .inl v_tape))] → va_S A s.heap H locs → lv_has ls 2 [(0, .ref h_this)] → wjX12_advances_180 v_taped v_tape post k0 w_at w_start w_token w_value → W p l e rmX12_advances s m args below meth c H locs 0 0 Q (F0 m 180 ls [.int k0, .ref h_this]) := by
    intro k0 w_at w_start w_token w_value H locs ls  hP hD hS hl hF
    unfold wjX12_advances_180 at hF
    refine va_put (D := D) (ci := 11) (v := .int k0) (ty := .int) (C := RX12) (T := TX12) (N := 27) hx hb hts inTX12 tyX12 tyX12_ok nmX12 hown hK.1 hP hD hS 0 rfl rfl 11 (by decide) (hts _ t4_135) (fun _ h9 => h9) rfl (tyX12_ok 11 (by decide)) rfl rfl (Nat.le_of_ble_eq_true rfl) dX12_advances_180 (fun H locs hP hD hS => ?_)
    have hP : va_P D CL [(h_this, .inr (11, [x_lane, x_many, x_items, x_spare, .int v_status, .ref h_tape, .int v_taped, .int v_faultKind, .int v_faultPlace, .int w_at, .int w_start, .int k0, .int w_value, x_now, x_draft, x_tried, x_past, .int v_acts, x_images, x_kept, x_trace, .int v_traced, x_comes, x_standing, x_brought, x_habit, .int v_livedMany])), (h_tape, .inl (cy 0, 60, .inl v_tape))] H := hP
    have hD : va_D A [(h_this, .inr (11, [x_lane, x_many, x_items, x_spare, .int v_status, .ref h_tape, .int v_taped, .int v_faultKind, .int v_faultPlace, .int w_at, .int w_start, .int k0, .int w_value, x_now, x_draft, x_tried, x_past, .int v_acts, x_images, x_kept, x_trace, .int v_traced, x_comes, x_standing, x_brought, x_habit, .int v_livedMany])), (h_tape, .inl (cy 0, 60, .inl v_tape))] := hD
    refine lv_aload_n hx hb dX12_advances_183 rfl (lv_at hl 0 rfl) ?_
    refine lv_dup hx hb dX12_advances_184 rfl ?_
    refine va_get (D := D) (ci := 11) (v := .int w_at) (C := RX12) (T := TX12) (N := 27) hx hb hts inTX12 hown hK.1 hP 0 rfl rfl 9 (by decide) (hts _ t4_133) (fun _ h9 => h9) rfl dX12_advances_185 ?_
    refine lv_aload_n hx hb dX12_advances_188 rfl (lv_at hl 0 rfl) ?_
    refine va_get (D := D) (ci := 11) (v := .int k0) (C := RX12) (T := TX12) (N := 27) hx hb hts inTX12 hown hK.1 hP 0 rfl rfl 11 (by decide) (hts _ t4_135) (fun _ h9 => h9) rfl dX12_advances_189 ?_
    refine lv_if_ne (tgt := 199) hx hb dX12_advances_192 (by decide) (fun c_ => ?_) (fun c_ => ?_)
    · have hF := hF.1 c_
      refine lv_iconst (v := 1) hx hb dX12_advances_199 (by decide) ?_
      refine lv_iadd hx hb dX12_advances_200 ?_
      refine va_put (D := D) (ci := 11) (v := .int (w_at + 1)) (ty := .int) (C := RX12) (T := TX12) (N := 27) hx hb hts inTX12 tyX12 tyX12_ok nmX12 hown hK.1 hP hD hS 0 rfl rfl 9 (by decide) (hts _ t4_133) (fun _ h9 => h9) rfl (tyX12_ok 9 (by decide)) rfl rfl (Nat.le_of_ble_eq_true rfl) dX12_advances_201 (fun H locs hP hD hS => ?_)
      have hP : va_P D CL [(h_this, .inr (11, [x_lane, x_many, x_items, x_spare, .int v_status, .ref h_tape, .int v_taped, .int v_faultKind, .int v_faultPlace, .int (w_at + 1), .int w_start, .int k0, .int w_value, x_now, x_draft, x_tried, x_past, .int v_acts, x_images, x_kept, x_trace, .int v_traced, x_comes, x_standing, x_brought, x_habit, .int v_livedMany])), (h_tape, .inl (cy 0, 60, .inl v_tape))] H := hP
      have hD : va_D A [(h_this, .inr (11, [x_lane, x_many, x_items, x_spare, .int v_status, .ref h_tape, .int v_taped, .int v_faultKind, .int v_faultPlace, .int (w_at + 1), .int w_start, .int k0, .int w_value, x_now, x_draft, x_tried, x_past, .int v_acts, x_images, x_kept, x_trace, .int v_traced, x_comes, x_standing, x_brought, x_habit, .int v_livedMany])), (h_tape, .inl (cy 0, 60, .inl v_tape))] := hD
      exact rt_v C hQ rfl hP hD hS ⟨(w_at + 1), w_start, k0, w_value, rfl, hF⟩ dX12_advances_204
    · have hF := hF.2 c_
      refine lv_iconst (v := 0) hx hb dX12_advances_195 (by decide) ?_
      refine lv_goto (tgt := 200) hx hb dX12_advances_196 (by decide) ?_
      refine lv_iadd hx hb dX12_advances_200 ?_
      refine va_put (D := D) (ci := 11) (v := .int (w_at + 0)) (ty := .int) (C := RX12) (T := TX12) (N := 27) hx hb hts inTX12 tyX12 tyX12_ok nmX12 hown hK.1 hP hD hS 0 rfl rfl 9 (by decide) (hts _ t4_133) (fun _ h9 => h9) rfl (tyX12_ok 9 (by decide)) rfl rfl (Nat.le_of_ble_eq_true rfl) dX12_advances_201 (fun H locs hP hD hS => ?_)
      have hP : va_P D CL [(h_this, .inr (11, [x_lane, x_many, x_items, x_spare, .int v_status, .ref h_tape, .int v_taped, .int v_faultKind, .int v_faultPlace, .int (w_at + 0), .int w_start, .int k0, .int w_value, x_now, x_draft, x_tried, x_past, .int v_acts, x_images, x_kept, x_trace, .int v_traced, x_comes, x_standing, x_brought, x_habit, .int v_livedMany])), (h_tape, .inl (cy 0, 60, .inl v_tape))] H := hP
      have hD : va_D A [(h_this, .inr (11, [x_lane, x_many, x_items, x_spare, .int v_status, .ref h_tape, .int v_taped, .int v_faultKind, .int v_faultPlace, .int (w_at + 0), .int w_start, .int k0, .int w_value, x_now, x_draft, x_tried, x_past, .int v_acts, x_images, x_kept, x_trace, .int v_traced, x_comes, x_standing, x_brought, x_habit, .int v_livedMany])), (h_tape, .inl (cy 0, 60, .inl v_tape))] := hD
      exact rt_v C hQ rfl hP hD hS ⟨(w_at + 0), w_start, k0, w_value, rfl, hF⟩ dX12_advances_204
  have L_38 : ∀ (n_38 : Nat) (w_at : Int32) (w_start : Int32) (w_token : Int32) (w_value : Int32) (H : Heap) (locs : List Loc) (ls : Array Slot), va_P D CL [(h_this, .inr (11, [x_lane, x_many, x_items, x_spare, .int v_status, .ref h_tape, .int v_taped, .int v_faultKind, .int v_faultPlace, .int w_at, .int w_start, .int w_token, .int w_value, x_now, x_draft, x_tried, x_past, .int v_acts, x_images, x_kept, x_trace, .int v_traced, x_comes, x_standing, x_brought, x_habit, .int v_livedMany])), (h_tape, .inl (cy 0, 60, .inl v_tape))] H → va_D A [(h_this, .inr (11, [x_lane, x_many, x_items, x_spare, .int v_status, .ref h_tape, .int v_taped, .int v_faultKind, .int v_faultPlace, .int w_at, .int w_start, .int w_token, .int w_value, x_now, x_draft, x_tried, x_past, .int v_acts, x_images, x_kept, x_trace, .int v_traced, x_comes, x_standing, x_brought, x_habit, .int v_livedMany])), (h_tape, .inl (cy 0, 60, .inl v_tape))] → va_S A s.heap H locs → lv_has ls 2 [(0, .ref h_this)] → wlX12_advances_38 v_taped v_tape post n_38 w_at w_start w_token w_value → W p l e rmX12_advances s m args below meth c H locs 0 0 Q (F0 m 38 ls []) := by
    intro n_38
    induction n_38 with
    | zero =>
      intro w_at w_start w_token w_value H locs ls  hP hD hS hl hF
      simp only [wlX12_advances_38] at hF
    | succ n_38 ih_38 =>
      have J_96 : ∀ (k0 : Int32) (w_at : Int32) (w_start : Int32) (w_token : Int32) (w_value : Int32) (H : Heap) (locs : List Loc) (ls : Array Slot), va_P D CL [(h_this, .inr (11, [x_lane, x_many, x_items, x_spare, .int v_status, .ref h_tape, .int v_taped, .int v_faultKind, .int v_faultPlace, .int w_at, .int w_start, .int w_token, .int w_value, x_now, x_draft, x_tried, x_past, .int v_acts, x_images, x_kept, x_trace, .int v_traced, x_comes, x_standing, x_brought, x_habit, .int v_livedMany])), (h_tape, .inl (cy 0, 60, .inl v_tape))] H → va_D A [(h_this, .inr (11, [x_lane, x_many, x_items, x_spare, .int v_status, .ref h_tape, .int v_taped, .int v_faultKind, .int v_faultPlace, .int w_at, .int w_start, .int w_token, .int w_value, x_now, x_draft, x_tried, x_past, .int v_acts, x_images, x_kept, x_trace, .int v_traced, x_comes, x_standing, x_brought, x_habit, .int v_livedMany])), (h_tape, .inl (cy 0, 60, .inl v_tape))] → va_S A s.heap H locs → lv_has ls 2 [(0, .ref h_this)] → wjX12_advances_96 v_taped v_tape post (wlX12_advances_38 v_taped v_tape post n_38) k0 w_at w_start w_token w_value → W p l e rmX12_advances s m args below meth c H locs 0 0 Q (F0 m 96 ls [.int k0, .ref h_this]) := by
        intro k0 w_at w_start w_token w_value H locs ls  hP hD hS hl hF
        unfold wjX12_advances_96 at hF
        refine va_put (D := D) (ci := 11) (v := .int k0) (ty := .int) (C := RX12) (T := TX12) (N := 27) hx hb hts inTX12 tyX12 tyX12_ok nmX12 hown hK.1 hP hD hS 0 rfl rfl 12 (by decide) (hts _ t4_136) (fun _ h9 => h9) rfl (tyX12_ok 12 (by decide)) rfl rfl (Nat.le_of_ble_eq_true rfl) dX12_advances_96 (fun H locs hP hD hS => ?_)
        have hP : va_P D CL [(h_this, .inr (11, [x_lane, x_many, x_items, x_spare, .int v_status, .ref h_tape, .int v_taped, .int v_faultKind, .int v_faultPlace, .int w_at, .int w_start, .int w_token, .int k0, x_now, x_draft, x_tried, x_past, .int v_acts, x_images, x_kept, x_trace, .int v_traced, x_comes, x_standing, x_brought, x_habit, .int v_livedMany])), (h_tape, .inl (cy 0, 60, .inl v_tape))] H := hP
        have hD : va_D A [(h_this, .inr (11, [x_lane, x_many, x_items, x_spare, .int v_status, .ref h_tape, .int v_taped, .int v_faultKind, .int v_faultPlace, .int w_at, .int w_start, .int w_token, .int k0, x_now, x_draft, x_tried, x_past, .int v_acts, x_images, x_kept, x_trace, .int v_traced, x_comes, x_standing, x_brought, x_habit, .int v_livedMany])), (h_tape, .inl (cy 0, 60, .inl v_tape))] := hD
        refine lv_aload_n hx hb dX12_advances_99 rfl (lv_at hl 0 rfl) ?_
        refine lv_dup hx hb dX12_advances_100 rfl ?_
        refine va_get (D := D) (ci := 11) (v := .int w_at) (C := RX12) (T := TX12) (N := 27) hx hb hts inTX12 hown hK.1 hP 0 rfl rfl 9 (by decide) (hts _ t4_133) (fun _ h9 => h9) rfl dX12_advances_101 ?_
        refine lv_iconst (v := 1) hx hb dX12_advances_104 (by decide) ?_
        refine lv_iadd hx hb dX12_advances_105 ?_
        refine va_put (D := D) (ci := 11) (v := .int (w_at + 1)) (ty := .int) (C := RX12) (T := TX12) (N := 27) hx hb hts inTX12 tyX12 tyX12_ok nmX12 hown hK.1 hP hD hS 0 rfl rfl 9 (by decide) (hts _ t4_133) (fun _ h9 => h9) rfl (tyX12_ok 9 (by decide)) rfl rfl (Nat.le_of_ble_eq_true rfl) dX12_advances_106 (fun H locs hP hD hS => ?_)
        have hP : va_P D CL [(h_this, .inr (11, [x_lane, x_many, x_items, x_spare, .int v_status, .ref h_tape, .int v_taped, .int v_faultKind, .int v_faultPlace, .int (w_at + 1), .int w_start, .int w_token, .int k0, x_now, x_draft, x_tried, x_past, .int v_acts, x_images, x_kept, x_trace, .int v_traced, x_comes, x_standing, x_brought, x_habit, .int v_livedMany])), (h_tape, .inl (cy 0, 60, .inl v_tape))] H := hP
        have hD : va_D A [(h_this, .inr (11, [x_lane, x_many, x_items, x_spare, .int v_status, .ref h_tape, .int v_taped, .int v_faultKind, .int v_faultPlace, .int (w_at + 1), .int w_start, .int w_token, .int k0, x_now, x_draft, x_tried, x_past, .int v_acts, x_images, x_kept, x_trace, .int v_traced, x_comes, x_standing, x_brought, x_habit, .int v_livedMany])), (h_tape, .inl (cy 0, 60, .inl v_tape))] := hD
        refine lv_goto (tgt := 38) hx hb dX12_advances_109 (by decide) ?_
        exact ih_38 (w_at + 1) w_start w_token k0 _ _ ls  hP hD hS (lv_sub hl [0] rfl) hF
      intro w_at w_start w_token w_value H locs ls  hP hD hS hl hF
      unfold wlX12_advances_38 at hF
      refine lv_aload_n hx hb dX12_advances_38 rfl (lv_at hl 0 rfl) ?_
      refine lv_aload_n hx hb dX12_advances_39 rfl (lv_at hl 0 rfl) ?_
      refine va_get (D := D) (ci := 11) (v := .int w_at) (C := RX12) (T := TX12) (N := 27) hx hb hts inTX12 hown hK.1 hP 0 rfl rfl 9 (by decide) (hts _ t4_133) (fun _ h9 => h9) rfl dX12_advances_40 ?_
      refine cV_r (As := [.int w_at]) C mfX12_byteAt t5_25 ts_19 t5_23 (ccX12_byteAt l D cy h_this h_tape x_lane x_many x_items x_spare x_now x_draft x_tried x_past x_images x_kept x_trace x_comes x_standing x_brought x_habit v_status v_taped v_faultKind v_faultPlace w_at w_start w_token w_value v_acts v_traced v_livedMany v_tape w_at _ hF) rfl rfl (hP.sub [0, 1] rfl) PR.np hP 0 11 rfl rfl rfl rfl hl.1 rfl (Nat.le_of_ble_eq_true rfl) dX12_advances_43 ⟨Nat.le_of_ble_eq_true rfl, Nat.le_of_ble_eq_true rfl⟩ ⟨Nat.le_of_ble_eq_true rfl, Nat.le_of_ble_eq_true rfl⟩ ?_
      intro r1 hF
      refine W.eq (g2 := F0 m 46 ls [.int r1]) rfl ?_
      refine lv_bipush (v := 48) hx hb dX12_advances_46 (by decide) ?_
      refine lv_bipush (v := 57) hx hb dX12_advances_48 (by decide) ?_
      refine cS_r (As := [.int r1, .int 48, .int 57]) C mfX12_in t4_215 t4_214 (ccX12_in l D cy r1 48 57 _ hF) rfl rfl (hP.sub [] rfl) PR.np rfl hl.1 rfl (Nat.le_of_ble_eq_true rfl) dX12_advances_50 ⟨Nat.le_of_ble_eq_true rfl, Nat.le_of_ble_eq_true rfl⟩ ⟨Nat.le_of_ble_eq_true rfl, Nat.le_of_ble_eq_true rfl⟩ ?_
      intro r2 hF
      refine W.eq (g2 := F0 m 53 ls [.int (bz r2)]) rfl ?_
      refine lv_if_eq (tgt := 112) hx hb dX12_advances_53 (by decide) (fun c_ => ?_) (fun c_ => ?_)
      · have hF := hF.1 ((bz_0 _).mp c_)
        refine lv_aload_n hx hb dX12_advances_112 rfl (lv_at hl 0 rfl) ?_
        refine lv_aload_n hx hb dX12_advances_113 rfl (lv_at hl 0 rfl) ?_
        refine va_get (D := D) (ci := 11) (v := .int w_at) (C := RX12) (T := TX12) (N := 27) hx hb hts inTX12 hown hK.1 hP 0 rfl rfl 9 (by decide) (hts _ t4_133) (fun _ h9 => h9) rfl dX12_advances_114 ?_
        refine lv_aload_n hx hb dX12_advances_117 rfl (lv_at hl 0 rfl) ?_
        refine va_get (D := D) (ci := 11) (v := .int w_start) (C := RX12) (T := TX12) (N := 27) hx hb hts inTX12 hown hK.1 hP 0 rfl rfl 10 (by decide) (hts _ t4_134) (fun _ h9 => h9) rfl dX12_advances_118 ?_
        refine lv_isub hx hb dX12_advances_121 ?_
        refine lv_iconst (v := 3) hx hb dX12_advances_122 (by decide) ?_
        refine lv_icmp_ge (tgt := 130) hx hb dX12_advances_123 (by decide) (fun c_ => ?_) (fun c_ => ?_)
        · have hF := hF.1 c_
          refine lv_iconst (v := 5) hx hb dX12_advances_130 (by decide) ?_
          refine va_put (D := D) (ci := 11) (v := .int 5) (ty := .int) (C := RX12) (T := TX12) (N := 27) hx hb hts inTX12 tyX12 tyX12_ok nmX12 hown hK.1 hP hD hS 0 rfl rfl 11 (by decide) (hts _ t4_135) (fun _ h9 => h9) rfl (tyX12_ok 11 (by decide)) rfl rfl (Nat.le_of_ble_eq_true rfl) dX12_advances_131 (fun H locs hP hD hS => ?_)
          have hP : va_P D CL [(h_this, .inr (11, [x_lane, x_many, x_items, x_spare, .int v_status, .ref h_tape, .int v_taped, .int v_faultKind, .int v_faultPlace, .int w_at, .int w_start, .int 5, .int w_value, x_now, x_draft, x_tried, x_past, .int v_acts, x_images, x_kept, x_trace, .int v_traced, x_comes, x_standing, x_brought, x_habit, .int v_livedMany])), (h_tape, .inl (cy 0, 60, .inl v_tape))] H := hP
          have hD : va_D A [(h_this, .inr (11, [x_lane, x_many, x_items, x_spare, .int v_status, .ref h_tape, .int v_taped, .int v_faultKind, .int v_faultPlace, .int w_at, .int w_start, .int 5, .int w_value, x_now, x_draft, x_tried, x_past, .int v_acts, x_images, x_kept, x_trace, .int v_traced, x_comes, x_standing, x_brought, x_habit, .int v_livedMany])), (h_tape, .inl (cy 0, 60, .inl v_tape))] := hD
          exact rt_v C hQ rfl hP hD hS ⟨w_at, w_start, 5, w_value, rfl, hF⟩ dX12_advances_134
        · have hF := hF.2 c_
          refine lv_iconst (v := 2) hx hb dX12_advances_126 (by decide) ?_
          refine lv_goto (tgt := 131) hx hb dX12_advances_127 (by decide) ?_
          refine va_put (D := D) (ci := 11) (v := .int 2) (ty := .int) (C := RX12) (T := TX12) (N := 27) hx hb hts inTX12 tyX12 tyX12_ok nmX12 hown hK.1 hP hD hS 0 rfl rfl 11 (by decide) (hts _ t4_135) (fun _ h9 => h9) rfl (tyX12_ok 11 (by decide)) rfl rfl (Nat.le_of_ble_eq_true rfl) dX12_advances_131 (fun H locs hP hD hS => ?_)
          have hP : va_P D CL [(h_this, .inr (11, [x_lane, x_many, x_items, x_spare, .int v_status, .ref h_tape, .int v_taped, .int v_faultKind, .int v_faultPlace, .int w_at, .int w_start, .int 2, .int w_value, x_now, x_draft, x_tried, x_past, .int v_acts, x_images, x_kept, x_trace, .int v_traced, x_comes, x_standing, x_brought, x_habit, .int v_livedMany])), (h_tape, .inl (cy 0, 60, .inl v_tape))] H := hP
          have hD : va_D A [(h_this, .inr (11, [x_lane, x_many, x_items, x_spare, .int v_status, .ref h_tape, .int v_taped, .int v_faultKind, .int v_faultPlace, .int w_at, .int w_start, .int 2, .int w_value, x_now, x_draft, x_tried, x_past, .int v_acts, x_images, x_kept, x_trace, .int v_traced, x_comes, x_standing, x_brought, x_habit, .int v_livedMany])), (h_tape, .inl (cy 0, 60, .inl v_tape))] := hD
          exact rt_v C hQ rfl hP hD hS ⟨w_at, w_start, 2, w_value, rfl, hF⟩ dX12_advances_134
      · have hF := hF.2 ((bz_1 _).mp c_)
        refine lv_aload_n hx hb dX12_advances_56 rfl (lv_at hl 0 rfl) ?_
        refine lv_aload_n hx hb dX12_advances_57 rfl (lv_at hl 0 rfl) ?_
        refine va_get (D := D) (ci := 11) (v := .int w_at) (C := RX12) (T := TX12) (N := 27) hx hb hts inTX12 hown hK.1 hP 0 rfl rfl 9 (by decide) (hts _ t4_133) (fun _ h9 => h9) rfl dX12_advances_58 ?_
        refine lv_aload_n hx hb dX12_advances_61 rfl (lv_at hl 0 rfl) ?_
        refine va_get (D := D) (ci := 11) (v := .int w_start) (C := RX12) (T := TX12) (N := 27) hx hb hts inTX12 hown hK.1 hP 0 rfl rfl 10 (by decide) (hts _ t4_134) (fun _ h9 => h9) rfl dX12_advances_62 ?_
        refine lv_isub hx hb dX12_advances_65 ?_
        refine lv_iconst (v := 2) hx hb dX12_advances_66 (by decide) ?_
        refine lv_icmp_ge (tgt := 92) hx hb dX12_advances_67 (by decide) (fun c_ => ?_) (fun c_ => ?_)
        · have hF := hF.1 c_
          refine lv_aload_n hx hb dX12_advances_92 rfl (lv_at hl 0 rfl) ?_
          refine va_get (D := D) (ci := 11) (v := .int w_value) (C := RX12) (T := TX12) (N := 27) hx hb hts inTX12 hown hK.1 hP 0 rfl rfl 12 (by decide) (hts _ t4_136) (fun _ h9 => h9) rfl dX12_advances_93 ?_
          exact J_96 w_value w_at w_start w_token w_value _ _ ls  hP hD hS (lv_sub hl [0] rfl) hF
        · have hF := hF.2 c_
          refine lv_bipush (v := 10) hx hb dX12_advances_70 (by decide) ?_
          refine lv_aload_n hx hb dX12_advances_72 rfl (lv_at hl 0 rfl) ?_
          refine va_get (D := D) (ci := 11) (v := .int w_value) (C := RX12) (T := TX12) (N := 27) hx hb hts inTX12 hown hK.1 hP 0 rfl rfl 12 (by decide) (hts _ t4_136) (fun _ h9 => h9) rfl dX12_advances_73 ?_
          refine lv_imul hx hb dX12_advances_76 ?_
          refine lv_aload_n hx hb dX12_advances_77 rfl (lv_at hl 0 rfl) ?_
          refine lv_aload_n hx hb dX12_advances_78 rfl (lv_at hl 0 rfl) ?_
          refine va_get (D := D) (ci := 11) (v := .int w_at) (C := RX12) (T := TX12) (N := 27) hx hb hts inTX12 hown hK.1 hP 0 rfl rfl 9 (by decide) (hts _ t4_133) (fun _ h9 => h9) rfl dX12_advances_79 ?_
          refine cV_r (As := [.int w_at]) C mfX12_byteAt t5_25 ts_19 t5_23 (ccX12_byteAt l D cy h_this h_tape x_lane x_many x_items x_spare x_now x_draft x_tried x_past x_images x_kept x_trace x_comes x_standing x_brought x_habit v_status v_taped v_faultKind v_faultPlace w_at w_start w_token w_value v_acts v_traced v_livedMany v_tape w_at _ hF) rfl rfl (hP.sub [0, 1] rfl) PR.np hP 0 11 rfl rfl rfl rfl hl.1 rfl (Nat.le_of_ble_eq_true rfl) dX12_advances_82 ⟨Nat.le_of_ble_eq_true rfl, Nat.le_of_ble_eq_true rfl⟩ ⟨Nat.le_of_ble_eq_true rfl, Nat.le_of_ble_eq_true rfl⟩ ?_
          intro r3 hF
          refine W.eq (g2 := F0 m 85 ls [.int r3, .int (10 * w_value), .ref h_this]) rfl ?_
          refine lv_iadd hx hb dX12_advances_85 ?_
          refine lv_bipush (v := 48) hx hb dX12_advances_86 (by decide) ?_
          refine lv_isub hx hb dX12_advances_88 ?_
          refine lv_goto (tgt := 96) hx hb dX12_advances_89 (by decide) ?_
          exact J_96 (((10 * w_value) + r3) - 48) w_at w_start w_token w_value _ _ ls  hP hD hS (lv_sub hl [0] rfl) hF
  unfold wpX12_advances at hF
  refine lv_aload_n hx hb dX12_advances_0 rfl (lv_at hl 0 rfl) ?_
  refine lv_aload_n hx hb dX12_advances_1 rfl (lv_at hl 0 rfl) ?_
  refine va_get (D := D) (ci := 11) (v := .int v_at) (C := RX12) (T := TX12) (N := 27) hx hb hts inTX12 hown hK.1 hP 0 rfl rfl 9 (by decide) (hts _ t4_133) (fun _ h9 => h9) rfl dX12_advances_2 ?_
  refine va_put (D := D) (ci := 11) (v := .int v_at) (ty := .int) (C := RX12) (T := TX12) (N := 27) hx hb hts inTX12 tyX12 tyX12_ok nmX12 hown hK.1 hP hD hS 0 rfl rfl 10 (by decide) (hts _ t4_134) (fun _ h9 => h9) rfl (tyX12_ok 10 (by decide)) rfl rfl (Nat.le_of_ble_eq_true rfl) dX12_advances_5 (fun H locs hP hD hS => ?_)
  have hP : va_P D CL [(h_this, .inr (11, [x_lane, x_many, x_items, x_spare, .int v_status, .ref h_tape, .int v_taped, .int v_faultKind, .int v_faultPlace, .int v_at, .int v_at, .int v_token, .int v_value, x_now, x_draft, x_tried, x_past, .int v_acts, x_images, x_kept, x_trace, .int v_traced, x_comes, x_standing, x_brought, x_habit, .int v_livedMany])), (h_tape, .inl (cy 0, 60, .inl v_tape))] H := hP
  have hD : va_D A [(h_this, .inr (11, [x_lane, x_many, x_items, x_spare, .int v_status, .ref h_tape, .int v_taped, .int v_faultKind, .int v_faultPlace, .int v_at, .int v_at, .int v_token, .int v_value, x_now, x_draft, x_tried, x_past, .int v_acts, x_images, x_kept, x_trace, .int v_traced, x_comes, x_standing, x_brought, x_habit, .int v_livedMany])), (h_tape, .inl (cy 0, 60, .inl v_tape))] := hD
  refine lv_aload_n hx hb dX12_advances_8 rfl (lv_at hl 0 rfl) ?_
  refine lv_aload_n hx hb dX12_advances_9 rfl (lv_at hl 0 rfl) ?_
  refine va_get (D := D) (ci := 11) (v := .int v_at) (C := RX12) (T := TX12) (N := 27) hx hb hts inTX12 hown hK.1 hP 0 rfl rfl 9 (by decide) (hts _ t4_133) (fun _ h9 => h9) rfl dX12_advances_10 ?_
  refine cV_r (As := [.int v_at]) C mfX12_byteAt t5_25 ts_19 t5_23 (ccX12_byteAt l D cy h_this h_tape x_lane x_many x_items x_spare x_now x_draft x_tried x_past x_images x_kept x_trace x_comes x_standing x_brought x_habit v_status v_taped v_faultKind v_faultPlace v_at v_at v_token v_value v_acts v_traced v_livedMany v_tape v_at _ hF) rfl rfl (hP.sub [0, 1] rfl) PR.np hP 0 11 rfl rfl rfl rfl hl.1 rfl (Nat.le_of_ble_eq_true rfl) dX12_advances_13 ⟨Nat.le_of_ble_eq_true rfl, Nat.le_of_ble_eq_true rfl⟩ ⟨Nat.le_of_ble_eq_true rfl, Nat.le_of_ble_eq_true rfl⟩ ?_
  intro r1 hF
  refine W.eq (g2 := F0 m 16 ls [.int r1]) rfl ?_
  refine lv_istore_n (lv' := [(1, .int r1), (0, .ref h_this)]) hx hb dX12_advances_16 rfl hl (by decide) rfl (fun ls hl => ?_)
  refine lv_aload_n hx hb dX12_advances_17 rfl (lv_at hl 1 rfl) ?_
  refine lv_iload_n hx hb dX12_advances_18 rfl (lv_at hl 0 rfl) ?_
  refine va_put (D := D) (ci := 11) (v := .int r1) (ty := .int) (C := RX12) (T := TX12) (N := 27) hx hb hts inTX12 tyX12 tyX12_ok nmX12 hown hK.1 hP hD hS 0 rfl rfl 12 (by decide) (hts _ t4_136) (fun _ h9 => h9) rfl (tyX12_ok 12 (by decide)) rfl rfl (Nat.le_of_ble_eq_true rfl) dX12_advances_19 (fun H locs hP hD hS => ?_)
  have hP : va_P D CL [(h_this, .inr (11, [x_lane, x_many, x_items, x_spare, .int v_status, .ref h_tape, .int v_taped, .int v_faultKind, .int v_faultPlace, .int v_at, .int v_at, .int v_token, .int r1, x_now, x_draft, x_tried, x_past, .int v_acts, x_images, x_kept, x_trace, .int v_traced, x_comes, x_standing, x_brought, x_habit, .int v_livedMany])), (h_tape, .inl (cy 0, 60, .inl v_tape))] H := hP
  have hD : va_D A [(h_this, .inr (11, [x_lane, x_many, x_items, x_spare, .int v_status, .ref h_tape, .int v_taped, .int v_faultKind, .int v_faultPlace, .int v_at, .int v_at, .int v_token, .int r1, x_now, x_draft, x_tried, x_past, .int v_acts, x_images, x_kept, x_trace, .int v_traced, x_comes, x_standing, x_brought, x_habit, .int v_livedMany])), (h_tape, .inl (cy 0, 60, .inl v_tape))] := hD
  refine lv_iload_n hx hb dX12_advances_22 rfl (lv_at hl 0 rfl) ?_
  refine lv_bipush (v := 48) hx hb dX12_advances_23 (by decide) ?_
  refine lv_bipush (v := 57) hx hb dX12_advances_25 (by decide) ?_
  refine cS_r (As := [.int r1, .int 48, .int 57]) C mfX12_in t4_215 t4_214 (ccX12_in l D cy r1 48 57 _ hF) rfl rfl (hP.sub [] rfl) PR.np rfl hl.1 rfl (Nat.le_of_ble_eq_true rfl) dX12_advances_27 ⟨Nat.le_of_ble_eq_true rfl, Nat.le_of_ble_eq_true rfl⟩ ⟨Nat.le_of_ble_eq_true rfl, Nat.le_of_ble_eq_true rfl⟩ ?_
  intro r2 hF
  refine W.eq (g2 := F0 m 30 ls [.int (bz r2)]) rfl ?_
  refine lv_if_eq (tgt := 135) hx hb dX12_advances_30 (by decide) (fun c_ => ?_) (fun c_ => ?_)
  · have hF := hF.1 ((bz_0 _).mp c_)
    refine lv_aload_n hx hb dX12_advances_135 rfl (lv_at hl 1 rfl) ?_
    refine lv_iload_n hx hb dX12_advances_136 rfl (lv_at hl 0 rfl) ?_
    refine lv_if_ge (tgt := 144) hx hb dX12_advances_137 (by decide) (fun c_ => ?_) (fun c_ => ?_)
    · have hF := hF.1 c_
      refine lv_iload_n hx hb dX12_advances_144 rfl (lv_at hl 0 rfl) ?_
      refine lv_bipush (v := 97) hx hb dX12_advances_145 (by decide) ?_
      refine lv_bipush (v := 122) hx hb dX12_advances_147 (by decide) ?_
      refine cS_r (As := [.int r1, .int 97, .int 122]) C mfX12_in t4_215 t4_214 (ccX12_in l D cy r1 97 122 _ hF) rfl rfl (hP.sub [] rfl) PR.np rfl hl.1 rfl (Nat.le_of_ble_eq_true rfl) dX12_advances_149 ⟨Nat.le_of_ble_eq_true rfl, Nat.le_of_ble_eq_true rfl⟩ ⟨Nat.le_of_ble_eq_true rfl, Nat.le_of_ble_eq_true rfl⟩ ?_
      intro r3 hF
      refine W.eq (g2 := F0 m 152 ls [.int (bz r3), .ref h_this]) rfl ?_
      refine lv_if_eq (tgt := 159) hx hb dX12_advances_152 (by decide) (fun c_ => ?_) (fun c_ => ?_)
      · have hF := hF.1 ((bz_0 _).mp c_)
        refine lv_iload_n hx hb dX12_advances_159 rfl (lv_at hl 0 rfl) ?_
        refine lv_bipush (v := 44) hx hb dX12_advances_160 (by decide) ?_
        refine lv_icmp_ne (tgt := 169) hx hb dX12_advances_162 (by decide) (fun c_ => ?_) (fun c_ => ?_)
        · have hF := hF.1 c_
          refine lv_iload_n hx hb dX12_advances_169 rfl (lv_at hl 0 rfl) ?_
          refine lv_bipush (v := 59) hx hb dX12_advances_170 (by decide) ?_
          refine lv_icmp_ne (tgt := 179) hx hb dX12_advances_172 (by decide) (fun c_ => ?_) (fun c_ => ?_)
          · have hF := hF.1 c_
            refine lv_iconst (v := 5) hx hb dX12_advances_179 (by decide) ?_
            exact J_180 5 v_at v_at v_token r1 _ _ ls  hP hD hS (lv_sub hl [1] rfl) hF
          · have hF := hF.2 c_
            refine lv_iconst (v := 4) hx hb dX12_advances_175 (by decide) ?_
            refine lv_goto (tgt := 180) hx hb dX12_advances_176 (by decide) ?_
            exact J_180 4 v_at v_at v_token r1 _ _ ls  hP hD hS (lv_sub hl [1] rfl) hF
        · have hF := hF.2 c_
          refine lv_iconst (v := 3) hx hb dX12_advances_165 (by decide) ?_
          refine lv_goto (tgt := 180) hx hb dX12_advances_166 (by decide) ?_
          exact J_180 3 v_at v_at v_token r1 _ _ ls  hP hD hS (lv_sub hl [1] rfl) hF
      · have hF := hF.2 ((bz_1 _).mp c_)
        refine lv_iconst (v := 1) hx hb dX12_advances_155 (by decide) ?_
        refine lv_goto (tgt := 180) hx hb dX12_advances_156 (by decide) ?_
        exact J_180 1 v_at v_at v_token r1 _ _ ls  hP hD hS (lv_sub hl [1] rfl) hF
    · have hF := hF.2 c_
      refine lv_iconst (v := 0) hx hb dX12_advances_140 (by decide) ?_
      refine lv_goto (tgt := 180) hx hb dX12_advances_141 (by decide) ?_
      exact J_180 0 v_at v_at v_token r1 _ _ ls  hP hD hS (lv_sub hl [1] rfl) hF
  · have hF := hF.2 ((bz_1 _).mp c_)
    refine lv_aload_n hx hb dX12_advances_33 rfl (lv_at hl 1 rfl) ?_
    refine lv_iconst (v := 0) hx hb dX12_advances_34 (by decide) ?_
    refine va_put (D := D) (ci := 11) (v := .int 0) (ty := .int) (C := RX12) (T := TX12) (N := 27) hx hb hts inTX12 tyX12 tyX12_ok nmX12 hown hK.1 hP hD hS 0 rfl rfl 12 (by decide) (hts _ t4_136) (fun _ h9 => h9) rfl (tyX12_ok 12 (by decide)) rfl rfl (Nat.le_of_ble_eq_true rfl) dX12_advances_35 (fun H locs hP hD hS => ?_)
    have hP : va_P D CL [(h_this, .inr (11, [x_lane, x_many, x_items, x_spare, .int v_status, .ref h_tape, .int v_taped, .int v_faultKind, .int v_faultPlace, .int v_at, .int v_at, .int v_token, .int 0, x_now, x_draft, x_tried, x_past, .int v_acts, x_images, x_kept, x_trace, .int v_traced, x_comes, x_standing, x_brought, x_habit, .int v_livedMany])), (h_tape, .inl (cy 0, 60, .inl v_tape))] H := hP
    have hD : va_D A [(h_this, .inr (11, [x_lane, x_many, x_items, x_spare, .int v_status, .ref h_tape, .int v_taped, .int v_faultKind, .int v_faultPlace, .int v_at, .int v_at, .int v_token, .int 0, x_now, x_draft, x_tried, x_past, .int v_acts, x_images, x_kept, x_trace, .int v_traced, x_comes, x_standing, x_brought, x_habit, .int v_livedMany])), (h_tape, .inl (cy 0, 60, .inl v_tape))] := hD
    exact L_38 fu v_at v_at v_token 0 _ _ ls  hP hD hS (lv_sub hl [1] rfl) hF

def wpX12_isWell (v_faultPlace : Int32) (post : Bool → Prop) : Prop := (0 ≤ v_faultPlace → (post false)) ∧ (¬ 0 ≤ v_faultPlace → (post true))
abbrev miX12_isWell : MI := (yX12_isWell, cX12_isWell, 1, (some .boolean))
theorem mfX12_isWell : MF miX12_isWell 0 := ⟨t5_34, t1_8, by decide +kernel⟩
abbrev rmX12_isWell : Room := { frames := 0, cells := 0, slots := 0, locals := 0 }
set_option maxHeartbeats 4000000 in
set_option maxRecDepth 100000 in
theorem ccX12_isWell (l : Launch) (D : va_G) (cy : Nat → ClassId) (h_this : Nat) (x_lane : Value) (x_many : Value) (x_items : Value) (x_spare : Value) (x_tape : Value) (x_now : Value) (x_draft : Value) (x_tried : Value) (x_past : Value) (x_images : Value) (x_kept : Value) (x_trace : Value) (x_comes : Value) (x_standing : Value) (x_brought : Value) (x_habit : Value) (v_status : Int32) (v_taped : Int32) (v_faultKind : Int32) (v_faultPlace : Int32) (v_at : Int32) (v_start : Int32) (v_token : Int32) (v_value : Int32) (v_acts : Int32) (v_traced : Int32) (v_livedMany : Int32) (post : Bool → Prop) (hF : wpX12_isWell v_faultPlace post) : Cr l D cy miX12_isWell rmX12_isWell emB NP [.ref h_this] [(h_this, .inr (11, [x_lane, x_many, x_items, x_spare, .int v_status, x_tape, .int v_taped, .int v_faultKind, .int v_faultPlace, .int v_at, .int v_start, .int v_token, .int v_value, x_now, x_draft, x_tried, x_past, .int v_acts, x_images, x_kept, x_trace, .int v_traced, x_comes, x_standing, x_brought, x_habit, .int v_livedMany]))] post := by
  refine Cr.of (by decide) (Nat.le_of_ble_eq_true rfl) ?_
  intro p e s m args below meth c ls Q C hQ hO hP hl
  obtain ⟨hx, hb, hr, hml, hown, hts, hK, hlk, hnm⟩ := id C
  have hb : c.code = cX12_isWell := hb
  have hml : c.maxLocals = 1 := hml
  have hown : s.vm.findClass RX12 = some m.cls := hown
  have hl : lv_has ls 1 [(0, .ref h_this)] := hl
  unfold wpX12_isWell at hF
  refine lv_aload_n hx hb dX12_isWell_0 rfl (lv_at hl 0 rfl) ?_
  refine va_get (D := D) (ci := 11) (v := .int v_faultPlace) (C := RX12) (T := TX12) (N := 27) hx hb hts inTX12 hown hK.1 hP 0 rfl rfl 8 (by decide) (hts _ t4_132) (fun _ h9 => h9) rfl dX12_isWell_1 ?_
  refine lv_if_ge (tgt := 11) hx hb dX12_isWell_4 (by decide) (fun c_ => ?_) (fun c_ => ?_)
  · have hF := hF.1 c_
    refine lv_iconst (v := 0) hx hb dX12_isWell_11 (by decide) ?_
    refine W.eq (g2 := F0 m 12 ls [.int (bz false)]) rfl ?_
    exact rr_b C hQ rfl hF dX12_isWell_12
  · have hF := hF.2 c_
    refine lv_iconst (v := 1) hx hb dX12_isWell_7 (by decide) ?_
    refine lv_goto (tgt := 12) hx hb dX12_isWell_8 (by decide) ?_
    refine W.eq (g2 := F0 m 12 ls [.int (bz true)]) rfl ?_
    exact rr_b C hQ rfl hF dX12_isWell_12

def wpX12_takes (p0 : Bool) (p1 : Int32) (v_taped : Int32) (v_faultKind : Int32) (v_faultPlace : Int32) (v_at : Int32) (v_start : Int32) (v_token : Int32) (v_value : Int32) (v_tape : Nat → Int32) (post : Int32 → Int32 → Int32 → Int32 → Int32 → Int32 → Int32 → Prop) : Prop := wpX12_isWell v_faultPlace (fun r1 => (r1 = true → ((p0 = true → (wpX12_advances v_taped v_at v_start v_token v_value v_tape (fun _ u3_at u4_start u5_token u6_value => post v_value v_faultKind v_faultPlace u3_at u4_start u5_token u6_value))) ∧ (p0 = false → (post 0 p1 v_start v_at v_start v_token v_value)))) ∧ (r1 = false → (post 0 v_faultKind v_faultPlace v_at v_start v_token v_value)))
abbrev miX12_takes : MI := (yX12_takes, cX12_takes, 4, (some .int))
theorem mfX12_takes : MF miX12_takes 2 := ⟨t5_30, t1_8, by decide +kernel⟩
abbrev rmX12_takes : Room := { frames := 2, cells := 0, slots := 0, locals := 43 }
set_option maxHeartbeats 4000000 in
set_option maxRecDepth 100000 in
theorem ccX12_takes (l : Launch) (D : va_G) (cy : Nat → ClassId) (h_this : Nat) (h_tape : Nat) (x_lane : Value) (x_many : Value) (x_items : Value) (x_spare : Value) (x_now : Value) (x_draft : Value) (x_tried : Value) (x_past : Value) (x_images : Value) (x_kept : Value) (x_trace : Value) (x_comes : Value) (x_standing : Value) (x_brought : Value) (x_habit : Value) (v_status : Int32) (v_taped : Int32) (v_faultKind : Int32) (v_faultPlace : Int32) (v_at : Int32) (v_start : Int32) (v_token : Int32) (v_value : Int32) (v_acts : Int32) (v_traced : Int32) (v_livedMany : Int32) (v_tape : Nat → Int32) (p0 : Bool) (p1 : Int32) (post : Int32 → Int32 → Int32 → Int32 → Int32 → Int32 → Int32 → Prop) (hF : wpX12_takes p0 p1 v_taped v_faultKind v_faultPlace v_at v_start v_token v_value v_tape post) : Ct l D cy miX12_takes rmX12_takes emI NP [.ref h_this, .int (bz p0), .int p1] [(h_this, .inr (11, [x_lane, x_many, x_items, x_spare, .int v_status, .ref h_tape, .int v_taped, .int v_faultKind, .int v_faultPlace, .int v_at, .int v_start, .int v_token, .int v_value, x_now, x_draft, x_tried, x_past, .int v_acts, x_images, x_kept, x_trace, .int v_traced, x_comes, x_standing, x_brought, x_habit, .int v_livedMany])), (h_tape, .inl (cy 0, 60, .inl v_tape))] (fun r w1 => ∃ (w_faultKind : Int32) (w_faultPlace : Int32) (w_at : Int32) (w_start : Int32) (w_token : Int32) (w_value : Int32), w1 = [(h_this, .inr (11, [x_lane, x_many, x_items, x_spare, .int v_status, .ref h_tape, .int v_taped, .int w_faultKind, .int w_faultPlace, .int w_at, .int w_start, .int w_token, .int w_value, x_now, x_draft, x_tried, x_past, .int v_acts, x_images, x_kept, x_trace, .int v_traced, x_comes, x_standing, x_brought, x_habit, .int v_livedMany])), (h_tape, .inl (cy 0, 60, .inl v_tape))] ∧ post r w_faultKind w_faultPlace w_at w_start w_token w_value) := by
  refine Ct.of (by decide) (Nat.le_of_ble_eq_true rfl) ?_
  intro p e s m args below meth c A ls Q C hQ hA hI hP hD hS hl
  obtain ⟨hx, hb, hr, hml, hown, hts, hK, hlk, hnm⟩ := id C
  have hb : c.code = cX12_takes := hb
  have hml : c.maxLocals = 4 := hml
  have hown : s.vm.findClass RX12 = some m.cls := hown
  have hl : lv_has ls 4 [(0, .ref h_this), (1, .int (bz p0)), (2, .int p1)] := hl
  unfold wpX12_takes at hF
  refine lv_aload_n hx hb dX12_takes_0 rfl (lv_at hl 0 rfl) ?_
  refine cV_r (As := []) C mfX12_isWell t5_33 ts_21 t5_31 (ccX12_isWell l D cy h_this x_lane x_many x_items x_spare (.ref h_tape) x_now x_draft x_tried x_past x_images x_kept x_trace x_comes x_standing x_brought x_habit v_status v_taped v_faultKind v_faultPlace v_at v_start v_token v_value v_acts v_traced v_livedMany _ hF) rfl rfl (hP.sub [0] rfl) PR.np hP 0 11 rfl rfl rfl rfl hl.1 rfl (Nat.le_of_ble_eq_true rfl) dX12_takes_1 ⟨Nat.le_of_ble_eq_true rfl, Nat.le_of_ble_eq_true rfl⟩ ⟨Nat.le_of_ble_eq_true rfl, Nat.le_of_ble_eq_true rfl⟩ ?_
  intro r1 hF
  refine W.eq (g2 := F0 m 4 ls [.int (bz r1)]) rfl ?_
  refine lv_if_ne (tgt := 9) hx hb dX12_takes_4 (by decide) (fun c_ => ?_) (fun c_ => ?_)
  · have hF := hF.1 ((bz_1 _).mp c_)
    refine lv_iload_n hx hb dX12_takes_9 rfl (lv_at hl 1 rfl) ?_
    refine lv_if_ne (tgt := 28) hx hb dX12_takes_10 (by decide) (fun c_ => ?_) (fun c_ => ?_)
    · have hF := hF.1 ((bz_1 _).mp c_)
      refine lv_aload_n hx hb dX12_takes_28 rfl (lv_at hl 0 rfl) ?_
      refine va_get (D := D) (ci := 11) (v := .int v_value) (C := RX12) (T := TX12) (N := 27) hx hb hts inTX12 hown hK.1 hP 0 rfl rfl 12 (by decide) (hts _ t4_136) (fun _ h9 => h9) rfl dX12_takes_29 ?_
      refine lv_istore_n (lv' := [(3, .int v_value), (0, .ref h_this), (1, .int (bz p0)), (2, .int p1)]) hx hb dX12_takes_32 rfl hl (by decide) rfl (fun ls hl => ?_)
      refine lv_aload_n hx hb dX12_takes_33 rfl (lv_at hl 1 rfl) ?_
      refine cV_t (As := []) (wr := []) C hA hP hD hS mfX12_advances t5_21 ts_18 t5_19 (ccX12_advances l D cy h_this h_tape x_lane x_many x_items x_spare x_now x_draft x_tried x_past x_images x_kept x_trace x_comes x_standing x_brought x_habit v_status v_taped v_faultKind v_faultPlace v_at v_start v_token v_value v_acts v_traced v_livedMany v_tape _ hF) [0, 1] [] rfl rfl (by decide) (by decide) (by decide) PO.np 0 11 rfl rfl rfl rfl hl.1 rfl (Nat.le_of_ble_eq_true rfl) dX12_takes_34 ⟨Nat.le_of_ble_eq_true rfl, Nat.le_of_ble_eq_true rfl⟩ ⟨Nat.le_of_ble_eq_true rfl, Nat.le_of_ble_eq_true rfl⟩ ?_
      rintro ⟨⟩ w1 H locs ⟨u3_at, u4_start, u5_token, u6_value, rfl, hF⟩ hP hD hS
      have hP : va_P D CL [(h_this, .inr (11, [x_lane, x_many, x_items, x_spare, .int v_status, .ref h_tape, .int v_taped, .int v_faultKind, .int v_faultPlace, .int u3_at, .int u4_start, .int u5_token, .int u6_value, x_now, x_draft, x_tried, x_past, .int v_acts, x_images, x_kept, x_trace, .int v_traced, x_comes, x_standing, x_brought, x_habit, .int v_livedMany])), (h_tape, .inl (cy 0, 60, .inl v_tape))] H := hP
      have hD : va_D A [(h_this, .inr (11, [x_lane, x_many, x_items, x_spare, .int v_status, .ref h_tape, .int v_taped, .int v_faultKind, .int v_faultPlace, .int u3_at, .int u4_start, .int u5_token, .int u6_value, x_now, x_draft, x_tried, x_past, .int v_acts, x_images, x_kept, x_trace, .int v_traced, x_comes, x_standing, x_brought, x_habit, .int v_livedMany])), (h_tape, .inl (cy 0, 60, .inl v_tape))] := hD
      refine W.eq (g2 := F0 m 37 ls []) rfl ?_
      refine lv_iload_n hx hb dX12_takes_37 rfl (lv_at hl 0 rfl) ?_
      exact rt_i C hQ rfl hP hD hS ⟨v_faultKind, v_faultPlace, u3_at, u4_start, u5_token, u6_value, rfl, hF⟩ dX12_takes_38
    · have hF := hF.2 ((bz_0 _).mp c_)
      refine lv_aload_n hx hb dX12_takes_13 rfl (lv_at hl 0 rfl) ?_
      refine lv_aload_n hx hb dX12_takes_14 rfl (lv_at hl 0 rfl) ?_
      refine va_get (D := D) (ci := 11) (v := .int v_start) (C := RX12) (T := TX12) (N := 27) hx hb hts inTX12 hown hK.1 hP 0 rfl rfl 10 (by decide) (hts _ t4_134) (fun _ h9 => h9) rfl dX12_takes_15 ?_
      refine va_put (D := D) (ci := 11) (v := .int v_start) (ty := .int) (C := RX12) (T := TX12) (N := 27) hx hb hts inTX12 tyX12 tyX12_ok nmX12 hown hK.1 hP hD hS 0 rfl rfl 8 (by decide) (hts _ t4_132) (fun _ h9 => h9) rfl (tyX12_ok 8 (by decide)) rfl rfl (Nat.le_of_ble_eq_true rfl) dX12_takes_18 (fun H locs hP hD hS => ?_)
      have hP : va_P D CL [(h_this, .inr (11, [x_lane, x_many, x_items, x_spare, .int v_status, .ref h_tape, .int v_taped, .int v_faultKind, .int v_start, .int v_at, .int v_start, .int v_token, .int v_value, x_now, x_draft, x_tried, x_past, .int v_acts, x_images, x_kept, x_trace, .int v_traced, x_comes, x_standing, x_brought, x_habit, .int v_livedMany])), (h_tape, .inl (cy 0, 60, .inl v_tape))] H := hP
      have hD : va_D A [(h_this, .inr (11, [x_lane, x_many, x_items, x_spare, .int v_status, .ref h_tape, .int v_taped, .int v_faultKind, .int v_start, .int v_at, .int v_start, .int v_token, .int v_value, x_now, x_draft, x_tried, x_past, .int v_acts, x_images, x_kept, x_trace, .int v_traced, x_comes, x_standing, x_brought, x_habit, .int v_livedMany])), (h_tape, .inl (cy 0, 60, .inl v_tape))] := hD
      refine lv_aload_n hx hb dX12_takes_21 rfl (lv_at hl 0 rfl) ?_
      refine lv_iload_n hx hb dX12_takes_22 rfl (lv_at hl 2 rfl) ?_
      refine va_put (D := D) (ci := 11) (v := .int p1) (ty := .int) (C := RX12) (T := TX12) (N := 27) hx hb hts inTX12 tyX12 tyX12_ok nmX12 hown hK.1 hP hD hS 0 rfl rfl 7 (by decide) (hts _ t4_131) (fun _ h9 => h9) rfl (tyX12_ok 7 (by decide)) rfl rfl (Nat.le_of_ble_eq_true rfl) dX12_takes_23 (fun H locs hP hD hS => ?_)
      have hP : va_P D CL [(h_this, .inr (11, [x_lane, x_many, x_items, x_spare, .int v_status, .ref h_tape, .int v_taped, .int p1, .int v_start, .int v_at, .int v_start, .int v_token, .int v_value, x_now, x_draft, x_tried, x_past, .int v_acts, x_images, x_kept, x_trace, .int v_traced, x_comes, x_standing, x_brought, x_habit, .int v_livedMany])), (h_tape, .inl (cy 0, 60, .inl v_tape))] H := hP
      have hD : va_D A [(h_this, .inr (11, [x_lane, x_many, x_items, x_spare, .int v_status, .ref h_tape, .int v_taped, .int p1, .int v_start, .int v_at, .int v_start, .int v_token, .int v_value, x_now, x_draft, x_tried, x_past, .int v_acts, x_images, x_kept, x_trace, .int v_traced, x_comes, x_standing, x_brought, x_habit, .int v_livedMany])), (h_tape, .inl (cy 0, 60, .inl v_tape))] := hD
      refine lv_iconst (v := 0) hx hb dX12_takes_26 (by decide) ?_
      exact rt_i C hQ rfl hP hD hS ⟨p1, v_start, v_at, v_start, v_token, v_value, rfl, hF⟩ dX12_takes_27
  · have hF := hF.2 ((bz_0 _).mp c_)
    refine lv_iconst (v := 0) hx hb dX12_takes_7 (by decide) ?_
    exact rt_i C hQ rfl hP hD hS ⟨v_faultKind, v_faultPlace, v_at, v_start, v_token, v_value, rfl, hF⟩ dX12_takes_8

def wjX12_figure_36 (v_taped : Int32) (v_tape : Nat → Int32) (post : Int32 → Int32 → Int32 → Int32 → Int32 → Int32 → Int32 → Prop) (k0 : Bool) (w_faultKind : Int32) (w_faultPlace : Int32) (w_at : Int32) (w_start : Int32) (w_token : Int32) (w_value : Int32) : Prop := wpX12_takes k0 2 v_taped w_faultKind w_faultPlace w_at w_start w_token w_value v_tape (fun r1 u2_faultKind u3_faultPlace u4_at u5_start u6_token u7_value => post r1 u2_faultKind u3_faultPlace u4_at u5_start u6_token u7_value)
def wjX12_figure_22 (v_taped : Int32) (v_tape : Nat → Int32) (post : Int32 → Int32 → Int32 → Int32 → Int32 → Int32 → Int32 → Prop) (l1 : Int32) (w_faultKind : Int32) (w_faultPlace : Int32) (w_at : Int32) (w_start : Int32) (w_token : Int32) (w_value : Int32) : Prop := (l1 < w_value → (wjX12_figure_36 v_taped v_tape post false w_faultKind w_faultPlace w_at w_start w_token w_value)) ∧ (¬ l1 < w_value → (wjX12_figure_36 v_taped v_tape post true w_faultKind w_faultPlace w_at w_start w_token w_value))
def wpX12_figure (p0 : Int32) (v_taped : Int32) (v_faultKind : Int32) (v_faultPlace : Int32) (v_at : Int32) (v_start : Int32) (v_token : Int32) (v_value : Int32) (v_tape : Nat → Int32) (post : Int32 → Int32 → Int32 → Int32 → Int32 → Int32 → Int32 → Prop) : Prop := wpX12_isWell v_faultPlace (fun r1 => (r1 = false → (wjX12_figure_22 v_taped v_tape post p0 v_faultKind v_faultPlace v_at v_start v_token v_value)) ∧ (r1 = true → ((v_token = 2 → (wjX12_figure_22 v_taped v_tape post p0 v_faultKind v_faultPlace v_at v_start v_token v_value)) ∧ (¬ v_token = 2 → (wpX12_takes false 1 v_taped v_faultKind v_faultPlace v_at v_start v_token v_value v_tape (fun r2 u3_faultKind u4_faultPlace u5_at u6_start u7_token u8_value => post r2 u3_faultKind u4_faultPlace u5_at u6_start u7_token u8_value))))))
abbrev miX12_figure : MI := (yX12_figure, cX12_figure, 2, (some .int))
theorem mfX12_figure : MF miX12_figure 1 := ⟨t5_45, t1_8, by decide +kernel⟩
abbrev rmX12_figure : Room := { frames := 3, cells := 0, slots := 0, locals := 66 }
set_option maxHeartbeats 4000000 in
set_option maxRecDepth 100000 in
theorem ccX12_figure (l : Launch) (D : va_G) (cy : Nat → ClassId) (h_this : Nat) (h_tape : Nat) (x_lane : Value) (x_many : Value) (x_items : Value) (x_spare : Value) (x_now : Value) (x_draft : Value) (x_tried : Value) (x_past : Value) (x_images : Value) (x_kept : Value) (x_trace : Value) (x_comes : Value) (x_standing : Value) (x_brought : Value) (x_habit : Value) (v_status : Int32) (v_taped : Int32) (v_faultKind : Int32) (v_faultPlace : Int32) (v_at : Int32) (v_start : Int32) (v_token : Int32) (v_value : Int32) (v_acts : Int32) (v_traced : Int32) (v_livedMany : Int32) (v_tape : Nat → Int32) (p0 : Int32) (post : Int32 → Int32 → Int32 → Int32 → Int32 → Int32 → Int32 → Prop) (hF : wpX12_figure p0 v_taped v_faultKind v_faultPlace v_at v_start v_token v_value v_tape post) : Ct l D cy miX12_figure rmX12_figure emI NP [.ref h_this, .int p0] [(h_this, .inr (11, [x_lane, x_many, x_items, x_spare, .int v_status, .ref h_tape, .int v_taped, .int v_faultKind, .int v_faultPlace, .int v_at, .int v_start, .int v_token, .int v_value, x_now, x_draft, x_tried, x_past, .int v_acts, x_images, x_kept, x_trace, .int v_traced, x_comes, x_standing, x_brought, x_habit, .int v_livedMany])), (h_tape, .inl (cy 0, 60, .inl v_tape))] (fun r w1 => ∃ (w_faultKind : Int32) (w_faultPlace : Int32) (w_at : Int32) (w_start : Int32) (w_token : Int32) (w_value : Int32), w1 = [(h_this, .inr (11, [x_lane, x_many, x_items, x_spare, .int v_status, .ref h_tape, .int v_taped, .int w_faultKind, .int w_faultPlace, .int w_at, .int w_start, .int w_token, .int w_value, x_now, x_draft, x_tried, x_past, .int v_acts, x_images, x_kept, x_trace, .int v_traced, x_comes, x_standing, x_brought, x_habit, .int v_livedMany])), (h_tape, .inl (cy 0, 60, .inl v_tape))] ∧ post r w_faultKind w_faultPlace w_at w_start w_token w_value) := by
  refine Ct.of (by decide) (Nat.le_of_ble_eq_true rfl) ?_
  intro p e s m args below meth c A ls Q C hQ hA hI hP hD hS hl
  obtain ⟨hx, hb, hr, hml, hown, hts, hK, hlk, hnm⟩ := id C
  have hb : c.code = cX12_figure := hb
  have hml : c.maxLocals = 2 := hml
  have hown : s.vm.findClass RX12 = some m.cls := hown
  have hl : lv_has ls 2 [(0, .ref h_this), (1, .int p0)] := hl
  have J_36 : ∀ (k0 : Bool) (w_faultKind : Int32) (w_faultPlace : Int32) (w_at : Int32) (w_start : Int32) (w_token : Int32) (w_value : Int32) (H : Heap) (locs : List Loc) (ls : Array Slot), va_P D CL [(h_this, .inr (11, [x_lane, x_many, x_items, x_spare, .int v_status, .ref h_tape, .int v_taped, .int w_faultKind, .int w_faultPlace, .int w_at, .int w_start, .int w_token, .int w_value, x_now, x_draft, x_tried, x_past, .int v_acts, x_images, x_kept, x_trace, .int v_traced, x_comes, x_standing, x_brought, x_habit, .int v_livedMany])), (h_tape, .inl (cy 0, 60, .inl v_tape))] H → va_D A [(h_this, .inr (11, [x_lane, x_many, x_items, x_spare, .int v_status, .ref h_tape, .int v_taped, .int w_faultKind, .int w_faultPlace, .int w_at, .int w_start, .int w_token, .int w_value, x_now, x_draft, x_tried, x_past, .int v_acts, x_images, x_kept, x_trace, .int v_traced, x_comes, x_standing, x_brought, x_habit, .int v_livedMany])), (h_tape, .inl (cy 0, 60, .inl v_tape))] → va_S A s.heap H locs → lv_has ls 2 [] → wjX12_figure_36 v_taped v_tape post k0 w_faultKind w_faultPlace w_at w_start w_token w_value → W p l e rmX12_figure s m args below meth c H locs 0 0 Q (F0 m 36 ls [.int (bz k0), .ref h_this]) := by
    intro k0 w_faultKind w_faultPlace w_at w_start w_token w_value H locs ls  hP hD hS hl hF
    unfold wjX12_figure_36 at hF
    refine lv_iconst (v := 2) hx hb dX12_figure_36 (by decide) ?_
    refine cV_t (As := [.int (bz k0), .int 2]) (wr := []) C hA hP hD hS mfX12_takes t5_29 ts_20 t5_27 (ccX12_takes l D cy h_this h_tape x_lane x_many x_items x_spare x_now x_draft x_tried x_past x_images x_kept x_trace x_comes x_standing x_brought x_habit v_status v_taped w_faultKind w_faultPlace w_at w_start w_token w_value v_acts v_traced v_livedMany v_tape k0 2 _ hF) [0, 1] [] rfl rfl (by decide) (by decide) (by decide) PO.np 0 11 rfl rfl rfl rfl hl.1 rfl (Nat.le_of_ble_eq_true rfl) dX12_figure_37 ⟨Nat.le_of_ble_eq_true rfl, Nat.le_of_ble_eq_true rfl⟩ ⟨Nat.le_of_ble_eq_true rfl, Nat.le_of_ble_eq_true rfl⟩ ?_
    rintro r1 w1 H locs ⟨u2_faultKind, u3_faultPlace, u4_at, u5_start, u6_token, u7_value, rfl, hF⟩ hP hD hS
    have hP : va_P D CL [(h_this, .inr (11, [x_lane, x_many, x_items, x_spare, .int v_status, .ref h_tape, .int v_taped, .int u2_faultKind, .int u3_faultPlace, .int u4_at, .int u5_start, .int u6_token, .int u7_value, x_now, x_draft, x_tried, x_past, .int v_acts, x_images, x_kept, x_trace, .int v_traced, x_comes, x_standing, x_brought, x_habit, .int v_livedMany])), (h_tape, .inl (cy 0, 60, .inl v_tape))] H := hP
    have hD : va_D A [(h_this, .inr (11, [x_lane, x_many, x_items, x_spare, .int v_status, .ref h_tape, .int v_taped, .int u2_faultKind, .int u3_faultPlace, .int u4_at, .int u5_start, .int u6_token, .int u7_value, x_now, x_draft, x_tried, x_past, .int v_acts, x_images, x_kept, x_trace, .int v_traced, x_comes, x_standing, x_brought, x_habit, .int v_livedMany])), (h_tape, .inl (cy 0, 60, .inl v_tape))] := hD
    refine W.eq (g2 := F0 m 40 ls [.int r1]) rfl ?_
    exact rt_i C hQ rfl hP hD hS ⟨u2_faultKind, u3_faultPlace, u4_at, u5_start, u6_token, u7_value, rfl, hF⟩ dX12_figure_40
  have J_22 : ∀ (l1 : Int32) (w_faultKind : Int32) (w_faultPlace : Int32) (w_at : Int32) (w_start : Int32) (w_token : Int32) (w_value : Int32) (H : Heap) (locs : List Loc) (ls : Array Slot), va_P D CL [(h_this, .inr (11, [x_lane, x_many, x_items, x_spare, .int v_status, .ref h_tape, .int v_taped, .int w_faultKind, .int w_faultPlace, .int w_at, .int w_start, .int w_token, .int w_value, x_now, x_draft, x_tried, x_past, .int v_acts, x_images, x_kept, x_trace, .int v_traced, x_comes, x_standing, x_brought, x_habit, .int v_livedMany])), (h_tape, .inl (cy 0, 60, .inl v_tape))] H → va_D A [(h_this, .inr (11, [x_lane, x_many, x_items, x_spare, .int v_status, .ref h_tape, .int v_taped, .int w_faultKind, .int w_faultPlace, .int w_at, .int w_start, .int w_token, .int w_value, x_now, x_draft, x_tried, x_past, .int v_acts, x_images, x_kept, x_trace, .int v_traced, x_comes, x_standing, x_brought, x_habit, .int v_livedMany])), (h_tape, .inl (cy 0, 60, .inl v_tape))] → va_S A s.heap H locs → lv_has ls 2 [(0, .ref h_this), (1, .int l1)] → wjX12_figure_22 v_taped v_tape post l1 w_faultKind w_faultPlace w_at w_start w_token w_value → W p l e rmX12_figure s m args below meth c H locs 0 0 Q (F0 m 22 ls []) := by
    intro l1 w_faultKind w_faultPlace w_at w_start w_token w_value H locs ls  hP hD hS hl hF
    unfold wjX12_figure_22 at hF
    refine lv_aload_n hx hb dX12_figure_22 rfl (lv_at hl 0 rfl) ?_
    refine lv_aload_n hx hb dX12_figure_23 rfl (lv_at hl 0 rfl) ?_
    refine va_get (D := D) (ci := 11) (v := .int w_value) (C := RX12) (T := TX12) (N := 27) hx hb hts inTX12 hown hK.1 hP 0 rfl rfl 12 (by decide) (hts _ t4_136) (fun _ h9 => h9) rfl dX12_figure_24 ?_
    refine lv_iload_n hx hb dX12_figure_27 rfl (lv_at hl 1 rfl) ?_
    refine lv_icmp_gt (tgt := 35) hx hb dX12_figure_28 (by decide) (fun c_ => ?_) (fun c_ => ?_)
    · have hF := hF.1 c_
      refine lv_iconst (v := 0) hx hb dX12_figure_35 (by decide) ?_
      exact J_36 false w_faultKind w_faultPlace w_at w_start w_token w_value _ _ ls  hP hD hS (lv_sub hl [] rfl) hF
    · have hF := hF.2 c_
      refine lv_iconst (v := 1) hx hb dX12_figure_31 (by decide) ?_
      refine lv_goto (tgt := 36) hx hb dX12_figure_32 (by decide) ?_
      exact J_36 true w_faultKind w_faultPlace w_at w_start w_token w_value _ _ ls  hP hD hS (lv_sub hl [] rfl) hF
  unfold wpX12_figure at hF
  refine lv_aload_n hx hb dX12_figure_0 rfl (lv_at hl 0 rfl) ?_
  refine cV_r (As := []) C mfX12_isWell t5_33 ts_21 t5_31 (ccX12_isWell l D cy h_this x_lane x_many x_items x_spare (.ref h_tape) x_now x_draft x_tried x_past x_images x_kept x_trace x_comes x_standing x_brought x_habit v_status v_taped v_faultKind v_faultPlace v_at v_start v_token v_value v_acts v_traced v_livedMany _ hF) rfl rfl (hP.sub [0] rfl) PR.np hP 0 11 rfl rfl rfl rfl hl.1 rfl (Nat.le_of_ble_eq_true rfl) dX12_figure_1 ⟨Nat.le_of_ble_eq_true rfl, Nat.le_of_ble_eq_true rfl⟩ ⟨Nat.le_of_ble_eq_true rfl, Nat.le_of_ble_eq_true rfl⟩ ?_
  intro r1 hF
  refine W.eq (g2 := F0 m 4 ls [.int (bz r1)]) rfl ?_
  refine lv_if_eq (tgt := 22) hx hb dX12_figure_4 (by decide) (fun c_ => ?_) (fun c_ => ?_)
  · have hF := hF.1 ((bz_0 _).mp c_)
    exact J_22 p0 v_faultKind v_faultPlace v_at v_start v_token v_value _ _ ls  hP hD hS (lv_sub hl [0, 1] rfl) hF
  · have hF := hF.2 ((bz_1 _).mp c_)
    refine lv_aload_n hx hb dX12_figure_7 rfl (lv_at hl 0 rfl) ?_
    refine va_get (D := D) (ci := 11) (v := .int v_token) (C := RX12) (T := TX12) (N := 27) hx hb hts inTX12 hown hK.1 hP 0 rfl rfl 11 (by decide) (hts _ t4_135) (fun _ h9 => h9) rfl dX12_figure_8 ?_
    refine lv_iconst (v := 2) hx hb dX12_figure_11 (by decide) ?_
    refine lv_icmp_eq (tgt := 22) hx hb dX12_figure_12 (by decide) (fun c_ => ?_) (fun c_ => ?_)
    · have hF := hF.1 c_
      exact J_22 p0 v_faultKind v_faultPlace v_at v_start v_token v_value _ _ ls  hP hD hS (lv_sub hl [0, 1] rfl) hF
    · have hF := hF.2 c_
      refine lv_aload_n hx hb dX12_figure_15 rfl (lv_at hl 0 rfl) ?_
      refine lv_iconst (v := 0) hx hb dX12_figure_16 (by decide) ?_
      refine lv_iconst (v := 1) hx hb dX12_figure_17 (by decide) ?_
      refine cV_t (As := [.int (bz false), .int 1]) (wr := []) C hA hP hD hS mfX12_takes t5_29 ts_20 t5_27 (ccX12_takes l D cy h_this h_tape x_lane x_many x_items x_spare x_now x_draft x_tried x_past x_images x_kept x_trace x_comes x_standing x_brought x_habit v_status v_taped v_faultKind v_faultPlace v_at v_start v_token v_value v_acts v_traced v_livedMany v_tape false 1 _ hF) [0, 1] [] rfl rfl (by decide) (by decide) (by decide) PO.np 0 11 rfl rfl rfl rfl hl.1 rfl (Nat.le_of_ble_eq_true rfl) dX12_figure_18 ⟨Nat.le_of_ble_eq_true rfl, Nat.le_of_ble_eq_true rfl⟩ ⟨Nat.le_of_ble_eq_true rfl, Nat.le_of_ble_eq_true rfl⟩ ?_
      rintro r2 w1 H locs ⟨u3_faultKind, u4_faultPlace, u5_at, u6_start, u7_token, u8_value, rfl, hF⟩ hP hD hS
      have hP : va_P D CL [(h_this, .inr (11, [x_lane, x_many, x_items, x_spare, .int v_status, .ref h_tape, .int v_taped, .int u3_faultKind, .int u4_faultPlace, .int u5_at, .int u6_start, .int u7_token, .int u8_value, x_now, x_draft, x_tried, x_past, .int v_acts, x_images, x_kept, x_trace, .int v_traced, x_comes, x_standing, x_brought, x_habit, .int v_livedMany])), (h_tape, .inl (cy 0, 60, .inl v_tape))] H := hP
      have hD : va_D A [(h_this, .inr (11, [x_lane, x_many, x_items, x_spare, .int v_status, .ref h_tape, .int v_taped, .int u3_faultKind, .int u4_faultPlace, .int u5_at, .int u6_start, .int u7_token, .int u8_value, x_now, x_draft, x_tried, x_past, .int v_acts, x_images, x_kept, x_trace, .int v_traced, x_comes, x_standing, x_brought, x_habit, .int v_livedMany])), (h_tape, .inl (cy 0, 60, .inl v_tape))] := hD
      refine W.eq (g2 := F0 m 21 ls [.int r2]) rfl ?_
      exact rt_i C hQ rfl hP hD hS ⟨u3_faultKind, u4_faultPlace, u5_at, u6_start, u7_token, u8_value, rfl, hF⟩ dX12_figure_21

def wpX12_kindOf (p0 : Int32) (post : Int32 → Prop) : Prop := (¬ p0 = 102 → ((¬ p0 = 103 → ((¬ p0 = 115 → ((¬ p0 = 119 → ((¬ p0 = 120 → (post 0)) ∧ (p0 = 120 → (post 5)))) ∧ (p0 = 119 → (post 4)))) ∧ (p0 = 115 → (post 3)))) ∧ (p0 = 103 → (post 2)))) ∧ (p0 = 102 → (post 1))
abbrev miX12_kindOf : MI := (yX12_kindOf, cX12_kindOf, 1, (some .int))
theorem mfX12_kindOf : MF miX12_kindOf 1 := ⟨t5_37, t1_8, by decide +kernel⟩
abbrev rmX12_kindOf : Room := { frames := 0, cells := 0, slots := 0, locals := 0 }
set_option maxHeartbeats 4000000 in
set_option maxRecDepth 100000 in
theorem ccX12_kindOf (l : Launch) (D : va_G) (cy : Nat → ClassId) (p0 : Int32) (post : Int32 → Prop) (hF : wpX12_kindOf p0 post) : Cr l D cy miX12_kindOf rmX12_kindOf emI NP [.int p0] [] post := by
  refine Cr.of (by decide) (Nat.le_of_ble_eq_true rfl) ?_
  intro p e s m args below meth c ls Q C hQ hO hP hl
  obtain ⟨hx, hb, hr, hml, hown, hts, hK, hlk, hnm⟩ := id C
  have hb : c.code = cX12_kindOf := hb
  have hml : c.maxLocals = 1 := hml
  have hown : s.vm.findClass RX12 = some m.cls := hown
  have hl : lv_has ls 1 [(0, .int p0)] := hl
  unfold wpX12_kindOf at hF
  refine lv_iload_n hx hb dX12_kindOf_0 rfl (lv_at hl 0 rfl) ?_
  refine lv_bipush (v := 102) hx hb dX12_kindOf_1 (by decide) ?_
  refine lv_icmp_ne (tgt := 10) hx hb dX12_kindOf_3 (by decide) (fun c_ => ?_) (fun c_ => ?_)
  · have hF := hF.1 c_
    refine lv_iload_n hx hb dX12_kindOf_10 rfl (lv_at hl 0 rfl) ?_
    refine lv_bipush (v := 103) hx hb dX12_kindOf_11 (by decide) ?_
    refine lv_icmp_ne (tgt := 20) hx hb dX12_kindOf_13 (by decide) (fun c_ => ?_) (fun c_ => ?_)
    · have hF := hF.1 c_
      refine lv_iload_n hx hb dX12_kindOf_20 rfl (lv_at hl 0 rfl) ?_
      refine lv_bipush (v := 115) hx hb dX12_kindOf_21 (by decide) ?_
      refine lv_icmp_ne (tgt := 30) hx hb dX12_kindOf_23 (by decide) (fun c_ => ?_) (fun c_ => ?_)
      · have hF := hF.1 c_
        refine lv_iload_n hx hb dX12_kindOf_30 rfl (lv_at hl 0 rfl) ?_
        refine lv_bipush (v := 119) hx hb dX12_kindOf_31 (by decide) ?_
        refine lv_icmp_ne (tgt := 40) hx hb dX12_kindOf_33 (by decide) (fun c_ => ?_) (fun c_ => ?_)
        · have hF := hF.1 c_
          refine lv_iload_n hx hb dX12_kindOf_40 rfl (lv_at hl 0 rfl) ?_
          refine lv_bipush (v := 120) hx hb dX12_kindOf_41 (by decide) ?_
          refine lv_icmp_ne (tgt := 50) hx hb dX12_kindOf_43 (by decide) (fun c_ => ?_) (fun c_ => ?_)
          · have hF := hF.1 c_
            refine lv_iconst (v := 0) hx hb dX12_kindOf_50 (by decide) ?_
            exact rr_i C hQ rfl hF dX12_kindOf_51
          · have hF := hF.2 c_
            refine lv_iconst (v := 5) hx hb dX12_kindOf_46 (by decide) ?_
            refine lv_goto (tgt := 51) hx hb dX12_kindOf_47 (by decide) ?_
            exact rr_i C hQ rfl hF dX12_kindOf_51
        · have hF := hF.2 c_
          refine lv_iconst (v := 4) hx hb dX12_kindOf_36 (by decide) ?_
          refine lv_goto (tgt := 51) hx hb dX12_kindOf_37 (by decide) ?_
          exact rr_i C hQ rfl hF dX12_kindOf_51
      · have hF := hF.2 c_
        refine lv_iconst (v := 3) hx hb dX12_kindOf_26 (by decide) ?_
        refine lv_goto (tgt := 51) hx hb dX12_kindOf_27 (by decide) ?_
        exact rr_i C hQ rfl hF dX12_kindOf_51
    · have hF := hF.2 c_
      refine lv_iconst (v := 2) hx hb dX12_kindOf_16 (by decide) ?_
      refine lv_goto (tgt := 51) hx hb dX12_kindOf_17 (by decide) ?_
      exact rr_i C hQ rfl hF dX12_kindOf_51
  · have hF := hF.2 c_
    refine lv_iconst (v := 1) hx hb dX12_kindOf_6 (by decide) ?_
    refine lv_goto (tgt := 51) hx hb dX12_kindOf_7 (by decide) ?_
    exact rr_i C hQ rfl hF dX12_kindOf_51

def wjX12_readsPerson_203 (v_taped : Int32) (v_tape : Nat → Int32) (post : Unit → Int32 → Int32 → Int32 → Int32 → Int32 → Int32 → (Nat → Int32) → Prop) (k0 : Int32) (k1 : Int32) (k2 : Int32) (w_faultKind : Int32) (w_faultPlace : Int32) (w_at : Int32) (w_start : Int32) (w_token : Int32) (w_value : Int32) (w_draft : Nat → Int32) : Prop := vp_in k2 124 ∧ (post () w_faultKind w_faultPlace w_at w_start w_token w_value (upd (upd w_draft ((k2).toNatClampNeg) (k1 ||| k0)) 1 (((upd w_draft ((k2).toNatClampNeg) (k1 ||| k0)) 1) + 1)))
def wjX12_readsPerson_131 (v_taped : Int32) (v_tape : Nat → Int32) (post : Unit → Int32 → Int32 → Int32 → Int32 → Int32 → Int32 → (Nat → Int32) → Prop) (l1 : Int32) (l2 : Int32) (l3 : Int32) (l4 : Int32) (l5 : Int32) (k0 : Bool) (w_faultKind : Int32) (w_faultPlace : Int32) (w_at : Int32) (w_start : Int32) (w_token : Int32) (w_value : Int32) (w_draft : Nat → Int32) : Prop := wpX12_takes k0 1 v_taped w_faultKind w_faultPlace w_at w_start w_token w_value v_tape (fun r1 u2_faultKind u3_faultPlace u4_at u5_start u6_token u7_value => wpX12_isWell u3_faultPlace (fun r8 => (r8 = false → (post () u2_faultKind u3_faultPlace u4_at u5_start u6_token u7_value w_draft)) ∧ (r8 = true → (vp_in l2 124 ∧ (vp_in (l2 + 1) 124 ∧ (vp_in (l2 + 2) 124 ∧ (vp_in (l2 + 3) 124 ∧ ((¬ l1 = 5 → (wjX12_readsPerson_203 v_taped v_tape post ((1 : Int32) <<< (((upd (upd (upd (upd w_draft ((l2).toNatClampNeg) l1) (((l2 + 1)).toNatClampNeg) l3) (((l2 + 2)).toNatClampNeg) l4) (((l2 + 3)).toNatClampNeg) l5) 1) &&& 31)) ((upd (upd (upd (upd w_draft ((l2).toNatClampNeg) l1) (((l2 + 1)).toNatClampNeg) l3) (((l2 + 2)).toNatClampNeg) l4) (((l2 + 3)).toNatClampNeg) l5) 2) 2 u2_faultKind u3_faultPlace u4_at u5_start u6_token u7_value (upd (upd (upd (upd w_draft ((l2).toNatClampNeg) l1) (((l2 + 1)).toNatClampNeg) l3) (((l2 + 2)).toNatClampNeg) l4) (((l2 + 3)).toNatClampNeg) l5))) ∧ (l1 = 5 → (wjX12_readsPerson_203 v_taped v_tape post 0 ((upd (upd (upd (upd w_draft ((l2).toNatClampNeg) l1) (((l2 + 1)).toNatClampNeg) l3) (((l2 + 2)).toNatClampNeg) l4) (((l2 + 3)).toNatClampNeg) l5) 2) 2 u2_faultKind u3_faultPlace u4_at u5_start u6_token u7_value (upd (upd (upd (upd w_draft ((l2).toNatClampNeg) l1) (((l2 + 1)).toNatClampNeg) l3) (((l2 + 2)).toNatClampNeg) l4) (((l2 + 3)).toNatClampNeg) l5)))))))))))
def wjX12_readsPerson_104 (v_taped : Int32) (v_tape : Nat → Int32) (post : Unit → Int32 → Int32 → Int32 → Int32 → Int32 → Int32 → (Nat → Int32) → Prop) (l1 : Int32) (l2 : Int32) (l3 : Int32) (l4 : Int32) (k0 : Bool) (w_faultKind : Int32) (w_faultPlace : Int32) (w_at : Int32) (w_start : Int32) (w_token : Int32) (w_value : Int32) (w_draft : Nat → Int32) : Prop := wpX12_takes k0 1 v_taped w_faultKind w_faultPlace w_at w_start w_token w_value v_tape (fun r1 u2_faultKind u3_faultPlace u4_at u5_start u6_token u7_value => wpX12_figure 99 v_taped u2_faultKind u3_faultPlace u4_at u5_start u6_token u7_value v_tape (fun r8 u9_faultKind u10_faultPlace u11_at u12_start u13_token u14_value => (¬ u13_token = 4 → (wjX12_readsPerson_131 v_taped v_tape post l1 l2 l3 l4 r8 false u9_faultKind u10_faultPlace u11_at u12_start u13_token u14_value w_draft)) ∧ (u13_token = 4 → (wjX12_readsPerson_131 v_taped v_tape post l1 l2 l3 l4 r8 true u9_faultKind u10_faultPlace u11_at u12_start u13_token u14_value w_draft))))
def wjX12_readsPerson_77 (v_taped : Int32) (v_tape : Nat → Int32) (post : Unit → Int32 → Int32 → Int32 → Int32 → Int32 → Int32 → (Nat → Int32) → Prop) (l1 : Int32) (l2 : Int32) (l3 : Int32) (k0 : Bool) (w_faultKind : Int32) (w_faultPlace : Int32) (w_at : Int32) (w_start : Int32) (w_token : Int32) (w_value : Int32) (w_draft : Nat → Int32) : Prop := wpX12_takes k0 1 v_taped w_faultKind w_faultPlace w_at w_start w_token w_value v_tape (fun r1 u2_faultKind u3_faultPlace u4_at u5_start u6_token u7_value => wpX12_figure 99 v_taped u2_faultKind u3_faultPlace u4_at u5_start u6_token u7_value v_tape (fun r8 u9_faultKind u10_faultPlace u11_at u12_start u13_token u14_value => (¬ u13_token = 3 → (wjX12_readsPerson_104 v_taped v_tape post l1 l2 l3 r8 false u9_faultKind u10_faultPlace u11_at u12_start u13_token u14_value w_draft)) ∧ (u13_token = 3 → (wjX12_readsPerson_104 v_taped v_tape post l1 l2 l3 r8 true u9_faultKind u10_faultPlace u11_at u12_start u13_token u14_value w_draft))))
def wjX12_readsPerson_53 (v_taped : Int32) (v_tape : Nat → Int32) (post : Unit → Int32 → Int32 → Int32 → Int32 → Int32 → Int32 → (Nat → Int32) → Prop) (l1 : Int32) (k0 : Int32) (k1 : Int32) (k2 : Int32) (w_faultKind : Int32) (w_faultPlace : Int32) (w_at : Int32) (w_start : Int32) (w_token : Int32) (w_value : Int32) (w_draft : Nat → Int32) : Prop := wpX12_figure 10 v_taped w_faultKind w_faultPlace w_at w_start w_token w_value v_tape (fun r1 u2_faultKind u3_faultPlace u4_at u5_start u6_token u7_value => (¬ u6_token = 3 → (wjX12_readsPerson_77 v_taped v_tape post l1 (k2 + (k1 * k0)) r1 false u2_faultKind u3_faultPlace u4_at u5_start u6_token u7_value w_draft)) ∧ (u6_token = 3 → (wjX12_readsPerson_77 v_taped v_tape post l1 (k2 + (k1 * k0)) r1 true u2_faultKind u3_faultPlace u4_at u5_start u6_token u7_value w_draft)))
def wjX12_readsPerson_24 (v_taped : Int32) (v_tape : Nat → Int32) (post : Unit → Int32 → Int32 → Int32 → Int32 → Int32 → Int32 → (Nat → Int32) → Prop) (l1 : Int32) (k0 : Bool) (w_faultKind : Int32) (w_faultPlace : Int32) (w_at : Int32) (w_start : Int32) (w_token : Int32) (w_value : Int32) (w_draft : Nat → Int32) : Prop := wpX12_takes k0 3 v_taped w_faultKind w_faultPlace w_at w_start w_token w_value v_tape (fun r1 u2_faultKind u3_faultPlace u4_at u5_start u6_token u7_value => (3 ≤ (w_draft 1) → (wjX12_readsPerson_53 v_taped v_tape post l1 0 6 6 u2_faultKind u3_faultPlace u4_at u5_start u6_token u7_value w_draft)) ∧ (¬ 3 ≤ (w_draft 1) → (wjX12_readsPerson_53 v_taped v_tape post l1 (w_draft 1) 6 6 u2_faultKind u3_faultPlace u4_at u5_start u6_token u7_value w_draft)))
def wpX12_readsPerson (v_taped : Int32) (v_faultKind : Int32) (v_faultPlace : Int32) (v_at : Int32) (v_start : Int32) (v_token : Int32) (v_value : Int32) (v_draft : Nat → Int32) (v_tape : Nat → Int32) (post : Unit → Int32 → Int32 → Int32 → Int32 → Int32 → Int32 → (Nat → Int32) → Prop) : Prop := wpX12_kindOf v_value (fun r1 => (3 ≤ (v_draft 1) → (wjX12_readsPerson_24 v_taped v_tape post r1 false v_faultKind v_faultPlace v_at v_start v_token v_value v_draft)) ∧ (¬ 3 ≤ (v_draft 1) → (wjX12_readsPerson_24 v_taped v_tape post r1 true v_faultKind v_faultPlace v_at v_start v_token v_value v_draft)))
abbrev miX12_readsPerson : MI := (yX12_readsPerson, cX12_readsPerson, 6, none)
theorem mfX12_readsPerson : MF miX12_readsPerson 0 := ⟨t5_41, t1_8, by decide +kernel⟩
abbrev rmX12_readsPerson : Room := { frames := 4, cells := 0, slots := 0, locals := 87 }
set_option maxHeartbeats 4000000 in
set_option maxRecDepth 100000 in
theorem ccX12_readsPerson (l : Launch) (D : va_G) (cy : Nat → ClassId) (h_this : Nat) (h_draft : Nat) (h_tape : Nat) (x_lane : Value) (x_many : Value) (x_items : Value) (x_spare : Value) (x_now : Value) (x_tried : Value) (x_past : Value) (x_images : Value) (x_kept : Value) (x_trace : Value) (x_comes : Value) (x_standing : Value) (x_brought : Value) (x_habit : Value) (v_status : Int32) (v_taped : Int32) (v_faultKind : Int32) (v_faultPlace : Int32) (v_at : Int32) (v_start : Int32) (v_token : Int32) (v_value : Int32) (v_acts : Int32) (v_traced : Int32) (v_livedMany : Int32) (v_draft : Nat → Int32) (v_tape : Nat → Int32) (post : Unit → Int32 → Int32 → Int32 → Int32 → Int32 → Int32 → (Nat → Int32) → Prop) (hF : wpX12_readsPerson v_taped v_faultKind v_faultPlace v_at v_start v_token v_value v_draft v_tape post) : Ct l D cy miX12_readsPerson rmX12_readsPerson emV NP [.ref h_this] [(h_this, .inr (11, [x_lane, x_many, x_items, x_spare, .int v_status, .ref h_tape, .int v_taped, .int v_faultKind, .int v_faultPlace, .int v_at, .int v_start, .int v_token, .int v_value, x_now, .ref h_draft, x_tried, x_past, .int v_acts, x_images, x_kept, x_trace, .int v_traced, x_comes, x_standing, x_brought, x_habit, .int v_livedMany])), (h_draft, .inl (cy 0, 124, .inl v_draft)), (h_tape, .inl (cy 0, 60, .inl v_tape))] (fun r w1 => ∃ (w_faultKind : Int32) (w_faultPlace : Int32) (w_at : Int32) (w_start : Int32) (w_token : Int32) (w_value : Int32) (w_draft : Nat → Int32), w1 = [(h_this, .inr (11, [x_lane, x_many, x_items, x_spare, .int v_status, .ref h_tape, .int v_taped, .int w_faultKind, .int w_faultPlace, .int w_at, .int w_start, .int w_token, .int w_value, x_now, .ref h_draft, x_tried, x_past, .int v_acts, x_images, x_kept, x_trace, .int v_traced, x_comes, x_standing, x_brought, x_habit, .int v_livedMany])), (h_draft, .inl (cy 0, 124, .inl w_draft)), (h_tape, .inl (cy 0, 60, .inl v_tape))] ∧ post r w_faultKind w_faultPlace w_at w_start w_token w_value w_draft) := by
  refine Ct.of (by decide) (Nat.le_of_ble_eq_true rfl) ?_
  intro p e s m args below meth c A ls Q C hQ hA hI hP hD hS hl
  obtain ⟨hx, hb, hr, hml, hown, hts, hK, hlk, hnm⟩ := id C
  have hb : c.code = cX12_readsPerson := hb
  have hml : c.maxLocals = 6 := hml
  have hown : s.vm.findClass RX12 = some m.cls := hown
  have hl : lv_has ls 6 [(0, .ref h_this)] := hl
  have J_203 : ∀ (k0 : Int32) (k1 : Int32) (k2 : Int32) (w_faultKind : Int32) (w_faultPlace : Int32) (w_at : Int32) (w_start : Int32) (w_token : Int32) (w_value : Int32) (w_draft : Nat → Int32) (H : Heap) (locs : List Loc) (ls : Array Slot), va_P D CL [(h_this, .inr (11, [x_lane, x_many, x_items, x_spare, .int v_status, .ref h_tape, .int v_taped, .int w_faultKind, .int w_faultPlace, .int w_at, .int w_start, .int w_token, .int w_value, x_now, .ref h_draft, x_tried, x_past, .int v_acts, x_images, x_kept, x_trace, .int v_traced, x_comes, x_standing, x_brought, x_habit, .int v_livedMany])), (h_draft, .inl (cy 0, 124, .inl w_draft)), (h_tape, .inl (cy 0, 60, .inl v_tape))] H → va_D A [(h_this, .inr (11, [x_lane, x_many, x_items, x_spare, .int v_status, .ref h_tape, .int v_taped, .int w_faultKind, .int w_faultPlace, .int w_at, .int w_start, .int w_token, .int w_value, x_now, .ref h_draft, x_tried, x_past, .int v_acts, x_images, x_kept, x_trace, .int v_traced, x_comes, x_standing, x_brought, x_habit, .int v_livedMany])), (h_draft, .inl (cy 0, 124, .inl w_draft)), (h_tape, .inl (cy 0, 60, .inl v_tape))] → va_S A s.heap H locs → lv_has ls 6 [(0, .ref h_this)] → wjX12_readsPerson_203 v_taped v_tape post k0 k1 k2 w_faultKind w_faultPlace w_at w_start w_token w_value w_draft → W p l e rmX12_readsPerson s m args below meth c H locs 0 0 Q (F0 m 203 ls [.int k0, .int k1, .int k2, .ref h_draft]) := by
    intro k0 k1 k2 w_faultKind w_faultPlace w_at w_start w_token w_value w_draft H locs ls  hP hD hS hl hF
    unfold wjX12_readsPerson_203 at hF
    refine lv_ior hx hb dX12_readsPerson_203 ?_
    obtain ⟨hi1, hF⟩ := hF
    refine s_iast (j := (k2).toNatClampNeg) hx hb hK.1 hP hD hS 1 0 rfl rfl hi1 rfl dX12_readsPerson_204 (fun H locs hP hD hS => ?_)
    have hP : va_P D CL [(h_this, .inr (11, [x_lane, x_many, x_items, x_spare, .int v_status, .ref h_tape, .int v_taped, .int w_faultKind, .int w_faultPlace, .int w_at, .int w_start, .int w_token, .int w_value, x_now, .ref h_draft, x_tried, x_past, .int v_acts, x_images, x_kept, x_trace, .int v_traced, x_comes, x_standing, x_brought, x_habit, .int v_livedMany])), (h_draft, .inl (cy 0, 124, .inl (upd w_draft ((k2).toNatClampNeg) (k1 ||| k0)))), (h_tape, .inl (cy 0, 60, .inl v_tape))] H := hP
    have hD : va_D A [(h_this, .inr (11, [x_lane, x_many, x_items, x_spare, .int v_status, .ref h_tape, .int v_taped, .int w_faultKind, .int w_faultPlace, .int w_at, .int w_start, .int w_token, .int w_value, x_now, .ref h_draft, x_tried, x_past, .int v_acts, x_images, x_kept, x_trace, .int v_traced, x_comes, x_standing, x_brought, x_habit, .int v_livedMany])), (h_draft, .inl (cy 0, 124, .inl (upd w_draft ((k2).toNatClampNeg) (k1 ||| k0)))), (h_tape, .inl (cy 0, 60, .inl v_tape))] := hD
    refine lv_aload_n hx hb dX12_readsPerson_205 rfl (lv_at hl 0 rfl) ?_
    refine va_get (D := D) (ci := 11) (v := .ref h_draft) (C := RX12) (T := TX12) (N := 27) hx hb hts inTX12 hown hK.1 hP 0 rfl rfl 14 (by decide) (hts _ t4_138) (fun _ h9 => h9) rfl dX12_readsPerson_206 ?_
    refine lv_iconst (v := 1) hx hb dX12_readsPerson_209 (by decide) ?_
    refine lv_dup2_11 hx hb dX12_readsPerson_210 rfl rfl ?_
    refine s_iald (j := 1) hx hb hK.1 hP 1 0 rfl rfl (vi (by decide)) (by decide) dX12_readsPerson_211 ?_
    refine lv_iconst (v := 1) hx hb dX12_readsPerson_212 (by decide) ?_
    refine lv_iadd hx hb dX12_readsPerson_213 ?_
    refine s_iast (j := 1) hx hb hK.1 hP hD hS 1 0 rfl rfl (vi (by decide)) (by decide) dX12_readsPerson_214 (fun H locs hP hD hS => ?_)
    have hP : va_P D CL [(h_this, .inr (11, [x_lane, x_many, x_items, x_spare, .int v_status, .ref h_tape, .int v_taped, .int w_faultKind, .int w_faultPlace, .int w_at, .int w_start, .int w_token, .int w_value, x_now, .ref h_draft, x_tried, x_past, .int v_acts, x_images, x_kept, x_trace, .int v_traced, x_comes, x_standing, x_brought, x_habit, .int v_livedMany])), (h_draft, .inl (cy 0, 124, .inl (upd (upd w_draft ((k2).toNatClampNeg) (k1 ||| k0)) 1 (((upd w_draft ((k2).toNatClampNeg) (k1 ||| k0)) 1) + 1)))), (h_tape, .inl (cy 0, 60, .inl v_tape))] H := hP
    have hD : va_D A [(h_this, .inr (11, [x_lane, x_many, x_items, x_spare, .int v_status, .ref h_tape, .int v_taped, .int w_faultKind, .int w_faultPlace, .int w_at, .int w_start, .int w_token, .int w_value, x_now, .ref h_draft, x_tried, x_past, .int v_acts, x_images, x_kept, x_trace, .int v_traced, x_comes, x_standing, x_brought, x_habit, .int v_livedMany])), (h_draft, .inl (cy 0, 124, .inl (upd (upd w_draft ((k2).toNatClampNeg) (k1 ||| k0)) 1 (((upd w_draft ((k2).toNatClampNeg) (k1 ||| k0)) 1) + 1)))), (h_tape, .inl (cy 0, 60, .inl v_tape))] := hD
    exact rt_v C hQ rfl hP hD hS ⟨w_faultKind, w_faultPlace, w_at, w_start, w_token, w_value, (upd (upd w_draft ((k2).toNatClampNeg) (k1 ||| k0)) 1 (((upd w_draft ((k2).toNatClampNeg) (k1 ||| k0)) 1) + 1)), rfl, hF⟩ dX12_readsPerson_215
  have J_131 : ∀ (l1 : Int32) (l2 : Int32) (l3 : Int32) (l4 : Int32) (l5 : Int32) (k0 : Bool) (w_faultKind : Int32) (w_faultPlace : Int32) (w_at : Int32) (w_start : Int32) (w_token : Int32) (w_value : Int32) (w_draft : Nat → Int32) (H : Heap) (locs : List Loc) (ls : Array Slot), va_P D CL [(h_this, .inr (11, [x_lane, x_many, x_items, x_spare, .int v_status, .ref h_tape, .int v_taped, .int w_faultKind, .int w_faultPlace, .int w_at, .int w_start, .int w_token, .int w_value, x_now, .ref h_draft, x_tried, x_past, .int v_acts, x_images, x_kept, x_trace, .int v_traced, x_comes, x_standing, x_brought, x_habit, .int v_livedMany])), (h_draft, .inl (cy 0, 124, .inl w_draft)), (h_tape, .inl (cy 0, 60, .inl v_tape))] H → va_D A [(h_this, .inr (11, [x_lane, x_many, x_items, x_spare, .int v_status, .ref h_tape, .int v_taped, .int w_faultKind, .int w_faultPlace, .int w_at, .int w_start, .int w_token, .int w_value, x_now, .ref h_draft, x_tried, x_past, .int v_acts, x_images, x_kept, x_trace, .int v_traced, x_comes, x_standing, x_brought, x_habit, .int v_livedMany])), (h_draft, .inl (cy 0, 124, .inl w_draft)), (h_tape, .inl (cy 0, 60, .inl v_tape))] → va_S A s.heap H locs → lv_has ls 6 [(0, .ref h_this), (1, .int l1), (2, .int l2), (3, .int l3), (4, .int l4), (5, .int l5)] → wjX12_readsPerson_131 v_taped v_tape post l1 l2 l3 l4 l5 k0 w_faultKind w_faultPlace w_at w_start w_token w_value w_draft → W p l e rmX12_readsPerson s m args below meth c H locs 0 0 Q (F0 m 131 ls [.int (bz k0), .ref h_this]) := by
    intro l1 l2 l3 l4 l5 k0 w_faultKind w_faultPlace w_at w_start w_token w_value w_draft H locs ls  hP hD hS hl hF
    unfold wjX12_readsPerson_131 at hF
    refine lv_iconst (v := 1) hx hb dX12_readsPerson_131 (by decide) ?_
    refine cV_t (As := [.int (bz k0), .int 1]) (wr := [(h_draft, .inl (cy 0, 124, .inl w_draft))]) C hA hP hD hS mfX12_takes t5_29 ts_20 t5_27 (ccX12_takes l D cy h_this h_tape x_lane x_many x_items x_spare x_now (.ref h_draft) x_tried x_past x_images x_kept x_trace x_comes x_standing x_brought x_habit v_status v_taped w_faultKind w_faultPlace w_at w_start w_token w_value v_acts v_traced v_livedMany v_tape k0 1 _ hF) [0, 2] [1] rfl rfl (by decide) (by decide) (by decide) PO.np 0 11 rfl rfl rfl rfl hl.1 rfl (Nat.le_of_ble_eq_true rfl) dX12_readsPerson_132 ⟨Nat.le_of_ble_eq_true rfl, Nat.le_of_ble_eq_true rfl⟩ ⟨Nat.le_of_ble_eq_true rfl, Nat.le_of_ble_eq_true rfl⟩ ?_
    rintro r1 w1 H locs ⟨u2_faultKind, u3_faultPlace, u4_at, u5_start, u6_token, u7_value, rfl, hF⟩ hP hD hS
    have hP : va_P D CL [(h_draft, .inl (cy 0, 124, .inl w_draft)), (h_this, .inr (11, [x_lane, x_many, x_items, x_spare, .int v_status, .ref h_tape, .int v_taped, .int u2_faultKind, .int u3_faultPlace, .int u4_at, .int u5_start, .int u6_token, .int u7_value, x_now, .ref h_draft, x_tried, x_past, .int v_acts, x_images, x_kept, x_trace, .int v_traced, x_comes, x_standing, x_brought, x_habit, .int v_livedMany])), (h_tape, .inl (cy 0, 60, .inl v_tape))] H := hP
    have hD : va_D A [(h_draft, .inl (cy 0, 124, .inl w_draft)), (h_this, .inr (11, [x_lane, x_many, x_items, x_spare, .int v_status, .ref h_tape, .int v_taped, .int u2_faultKind, .int u3_faultPlace, .int u4_at, .int u5_start, .int u6_token, .int u7_value, x_now, .ref h_draft, x_tried, x_past, .int v_acts, x_images, x_kept, x_trace, .int v_traced, x_comes, x_standing, x_brought, x_habit, .int v_livedMany])), (h_tape, .inl (cy 0, 60, .inl v_tape))] := hD
    refine W.eq (g2 := F0 m 135 ls [.int r1]) rfl ?_
    refine lv_pop hx hb dX12_readsPerson_135 rfl ?_
    refine lv_aload_n hx hb dX12_readsPerson_136 rfl (lv_at hl 0 rfl) ?_
    refine cV_r (As := []) C mfX12_isWell t5_33 ts_21 t5_31 (ccX12_isWell l D cy h_this x_lane x_many x_items x_spare (.ref h_tape) x_now (.ref h_draft) x_tried x_past x_images x_kept x_trace x_comes x_standing x_brought x_habit v_status v_taped u2_faultKind u3_faultPlace u4_at u5_start u6_token u7_value v_acts v_traced v_livedMany _ hF) rfl rfl (hP.sub [1] rfl) PR.np hP 1 11 rfl rfl rfl rfl hl.1 rfl (Nat.le_of_ble_eq_true rfl) dX12_readsPerson_137 ⟨Nat.le_of_ble_eq_true rfl, Nat.le_of_ble_eq_true rfl⟩ ⟨Nat.le_of_ble_eq_true rfl, Nat.le_of_ble_eq_true rfl⟩ ?_
    intro r8 hF
    refine W.eq (g2 := F0 m 140 ls [.int (bz r8)]) rfl ?_
    refine lv_if_eq (tgt := 215) hx hb dX12_readsPerson_140 (by decide) (fun c_ => ?_) (fun c_ => ?_)
    · have hF := hF.1 ((bz_0 _).mp c_)
      have hP : va_P D CL [(h_this, .inr (11, [x_lane, x_many, x_items, x_spare, .int v_status, .ref h_tape, .int v_taped, .int u2_faultKind, .int u3_faultPlace, .int u4_at, .int u5_start, .int u6_token, .int u7_value, x_now, .ref h_draft, x_tried, x_past, .int v_acts, x_images, x_kept, x_trace, .int v_traced, x_comes, x_standing, x_brought, x_habit, .int v_livedMany])), (h_draft, .inl (cy 0, 124, .inl w_draft)), (h_tape, .inl (cy 0, 60, .inl v_tape))] H := (hP.sub [1, 0, 2] rfl)
      have hD : va_D A [(h_this, .inr (11, [x_lane, x_many, x_items, x_spare, .int v_status, .ref h_tape, .int v_taped, .int u2_faultKind, .int u3_faultPlace, .int u4_at, .int u5_start, .int u6_token, .int u7_value, x_now, .ref h_draft, x_tried, x_past, .int v_acts, x_images, x_kept, x_trace, .int v_traced, x_comes, x_standing, x_brought, x_habit, .int v_livedMany])), (h_draft, .inl (cy 0, 124, .inl w_draft)), (h_tape, .inl (cy 0, 60, .inl v_tape))] := (hD.sub [1, 0, 2] (by decide) rfl)
      exact rt_v C hQ rfl hP hD hS ⟨u2_faultKind, u3_faultPlace, u4_at, u5_start, u6_token, u7_value, w_draft, rfl, hF⟩ dX12_readsPerson_215
    · have hF := hF.2 ((bz_1 _).mp c_)
      refine lv_aload_n hx hb dX12_readsPerson_143 rfl (lv_at hl 0 rfl) ?_
      refine va_get (D := D) (ci := 11) (v := .ref h_draft) (C := RX12) (T := TX12) (N := 27) hx hb hts inTX12 hown hK.1 hP 1 rfl rfl 14 (by decide) (hts _ t4_138) (fun _ h9 => h9) rfl dX12_readsPerson_144 ?_
      refine lv_iload_n hx hb dX12_readsPerson_147 rfl (lv_at hl 2 rfl) ?_
      refine lv_iload_n hx hb dX12_readsPerson_148 rfl (lv_at hl 1 rfl) ?_
      obtain ⟨hi9, hF⟩ := hF
      refine s_iast (j := (l2).toNatClampNeg) hx hb hK.1 hP hD hS 0 0 rfl rfl hi9 rfl dX12_readsPerson_149 (fun H locs hP hD hS => ?_)
      have hP : va_P D CL [(h_draft, .inl (cy 0, 124, .inl (upd w_draft ((l2).toNatClampNeg) l1))), (h_this, .inr (11, [x_lane, x_many, x_items, x_spare, .int v_status, .ref h_tape, .int v_taped, .int u2_faultKind, .int u3_faultPlace, .int u4_at, .int u5_start, .int u6_token, .int u7_value, x_now, .ref h_draft, x_tried, x_past, .int v_acts, x_images, x_kept, x_trace, .int v_traced, x_comes, x_standing, x_brought, x_habit, .int v_livedMany])), (h_tape, .inl (cy 0, 60, .inl v_tape))] H := hP
      have hD : va_D A [(h_draft, .inl (cy 0, 124, .inl (upd w_draft ((l2).toNatClampNeg) l1))), (h_this, .inr (11, [x_lane, x_many, x_items, x_spare, .int v_status, .ref h_tape, .int v_taped, .int u2_faultKind, .int u3_faultPlace, .int u4_at, .int u5_start, .int u6_token, .int u7_value, x_now, .ref h_draft, x_tried, x_past, .int v_acts, x_images, x_kept, x_trace, .int v_traced, x_comes, x_standing, x_brought, x_habit, .int v_livedMany])), (h_tape, .inl (cy 0, 60, .inl v_tape))] := hD
      refine lv_aload_n hx hb dX12_readsPerson_150 rfl (lv_at hl 0 rfl) ?_
      refine va_get (D := D) (ci := 11) (v := .ref h_draft) (C := RX12) (T := TX12) (N := 27) hx hb hts inTX12 hown hK.1 hP 1 rfl rfl 14 (by decide) (hts _ t4_138) (fun _ h9 => h9) rfl dX12_readsPerson_151 ?_
      refine lv_iload_n hx hb dX12_readsPerson_154 rfl (lv_at hl 2 rfl) ?_
      refine lv_iconst (v := 1) hx hb dX12_readsPerson_155 (by decide) ?_
      refine lv_iadd hx hb dX12_readsPerson_156 ?_
      refine lv_iload_n hx hb dX12_readsPerson_157 rfl (lv_at hl 3 rfl) ?_
      obtain ⟨hi10, hF⟩ := hF
      refine s_iast (j := ((l2 + 1)).toNatClampNeg) hx hb hK.1 hP hD hS 0 0 rfl rfl hi10 rfl dX12_readsPerson_158 (fun H locs hP hD hS => ?_)
      have hP : va_P D CL [(h_draft, .inl (cy 0, 124, .inl (upd (upd w_draft ((l2).toNatClampNeg) l1) (((l2 + 1)).toNatClampNeg) l3))), (h_this, .inr (11, [x_lane, x_many, x_items, x_spare, .int v_status, .ref h_tape, .int v_taped, .int u2_faultKind, .int u3_faultPlace, .int u4_at, .int u5_start, .int u6_token, .int u7_value, x_now, .ref h_draft, x_tried, x_past, .int v_acts, x_images, x_kept, x_trace, .int v_traced, x_comes, x_standing, x_brought, x_habit, .int v_livedMany])), (h_tape, .inl (cy 0, 60, .inl v_tape))] H := hP
      have hD : va_D A [(h_draft, .inl (cy 0, 124, .inl (upd (upd w_draft ((l2).toNatClampNeg) l1) (((l2 + 1)).toNatClampNeg) l3))), (h_this, .inr (11, [x_lane, x_many, x_items, x_spare, .int v_status, .ref h_tape, .int v_taped, .int u2_faultKind, .int u3_faultPlace, .int u4_at, .int u5_start, .int u6_token, .int u7_value, x_now, .ref h_draft, x_tried, x_past, .int v_acts, x_images, x_kept, x_trace, .int v_traced, x_comes, x_standing, x_brought, x_habit, .int v_livedMany])), (h_tape, .inl (cy 0, 60, .inl v_tape))] := hD
      refine lv_aload_n hx hb dX12_readsPerson_159 rfl (lv_at hl 0 rfl) ?_
      refine va_get (D := D) (ci := 11) (v := .ref h_draft) (C := RX12) (T := TX12) (N := 27) hx hb hts inTX12 hown hK.1 hP 1 rfl rfl 14 (by decide) (hts _ t4_138) (fun _ h9 => h9) rfl dX12_readsPerson_160 ?_
      refine lv_iload_n hx hb dX12_readsPerson_163 rfl (lv_at hl 2 rfl) ?_
      refine lv_iconst (v := 2) hx hb dX12_readsPerson_164 (by decide) ?_
      refine lv_iadd hx hb dX12_readsPerson_165 ?_
      refine lv_iload hx hb dX12_readsPerson_166 (lv_at hl 4 rfl) ?_
      obtain ⟨hi11, hF⟩ := hF
      refine s_iast (j := ((l2 + 2)).toNatClampNeg) hx hb hK.1 hP hD hS 0 0 rfl rfl hi11 rfl dX12_readsPerson_168 (fun H locs hP hD hS => ?_)
      have hP : va_P D CL [(h_draft, .inl (cy 0, 124, .inl (upd (upd (upd w_draft ((l2).toNatClampNeg) l1) (((l2 + 1)).toNatClampNeg) l3) (((l2 + 2)).toNatClampNeg) l4))), (h_this, .inr (11, [x_lane, x_many, x_items, x_spare, .int v_status, .ref h_tape, .int v_taped, .int u2_faultKind, .int u3_faultPlace, .int u4_at, .int u5_start, .int u6_token, .int u7_value, x_now, .ref h_draft, x_tried, x_past, .int v_acts, x_images, x_kept, x_trace, .int v_traced, x_comes, x_standing, x_brought, x_habit, .int v_livedMany])), (h_tape, .inl (cy 0, 60, .inl v_tape))] H := hP
      have hD : va_D A [(h_draft, .inl (cy 0, 124, .inl (upd (upd (upd w_draft ((l2).toNatClampNeg) l1) (((l2 + 1)).toNatClampNeg) l3) (((l2 + 2)).toNatClampNeg) l4))), (h_this, .inr (11, [x_lane, x_many, x_items, x_spare, .int v_status, .ref h_tape, .int v_taped, .int u2_faultKind, .int u3_faultPlace, .int u4_at, .int u5_start, .int u6_token, .int u7_value, x_now, .ref h_draft, x_tried, x_past, .int v_acts, x_images, x_kept, x_trace, .int v_traced, x_comes, x_standing, x_brought, x_habit, .int v_livedMany])), (h_tape, .inl (cy 0, 60, .inl v_tape))] := hD
      refine lv_aload_n hx hb dX12_readsPerson_169 rfl (lv_at hl 0 rfl) ?_
      refine va_get (D := D) (ci := 11) (v := .ref h_draft) (C := RX12) (T := TX12) (N := 27) hx hb hts inTX12 hown hK.1 hP 1 rfl rfl 14 (by decide) (hts _ t4_138) (fun _ h9 => h9) rfl dX12_readsPerson_170 ?_
      refine lv_iload_n hx hb dX12_readsPerson_173 rfl (lv_at hl 2 rfl) ?_
      refine lv_iconst (v := 3) hx hb dX12_readsPerson_174 (by decide) ?_
      refine lv_iadd hx hb dX12_readsPerson_175 ?_
      refine lv_iload hx hb dX12_readsPerson_176 (lv_at hl 5 rfl) ?_
      obtain ⟨hi12, hF⟩ := hF
      refine s_iast (j := ((l2 + 3)).toNatClampNeg) hx hb hK.1 hP hD hS 0 0 rfl rfl hi12 rfl dX12_readsPerson_178 (fun H locs hP hD hS => ?_)
      have hP : va_P D CL [(h_draft, .inl (cy 0, 124, .inl (upd (upd (upd (upd w_draft ((l2).toNatClampNeg) l1) (((l2 + 1)).toNatClampNeg) l3) (((l2 + 2)).toNatClampNeg) l4) (((l2 + 3)).toNatClampNeg) l5))), (h_this, .inr (11, [x_lane, x_many, x_items, x_spare, .int v_status, .ref h_tape, .int v_taped, .int u2_faultKind, .int u3_faultPlace, .int u4_at, .int u5_start, .int u6_token, .int u7_value, x_now, .ref h_draft, x_tried, x_past, .int v_acts, x_images, x_kept, x_trace, .int v_traced, x_comes, x_standing, x_brought, x_habit, .int v_livedMany])), (h_tape, .inl (cy 0, 60, .inl v_tape))] H := hP
      have hD : va_D A [(h_draft, .inl (cy 0, 124, .inl (upd (upd (upd (upd w_draft ((l2).toNatClampNeg) l1) (((l2 + 1)).toNatClampNeg) l3) (((l2 + 2)).toNatClampNeg) l4) (((l2 + 3)).toNatClampNeg) l5))), (h_this, .inr (11, [x_lane, x_many, x_items, x_spare, .int v_status, .ref h_tape, .int v_taped, .int u2_faultKind, .int u3_faultPlace, .int u4_at, .int u5_start, .int u6_token, .int u7_value, x_now, .ref h_draft, x_tried, x_past, .int v_acts, x_images, x_kept, x_trace, .int v_traced, x_comes, x_standing, x_brought, x_habit, .int v_livedMany])), (h_tape, .inl (cy 0, 60, .inl v_tape))] := hD
      refine lv_aload_n hx hb dX12_readsPerson_179 rfl (lv_at hl 0 rfl) ?_
      refine va_get (D := D) (ci := 11) (v := .ref h_draft) (C := RX12) (T := TX12) (N := 27) hx hb hts inTX12 hown hK.1 hP 1 rfl rfl 14 (by decide) (hts _ t4_138) (fun _ h9 => h9) rfl dX12_readsPerson_180 ?_
      refine lv_iconst (v := 2) hx hb dX12_readsPerson_183 (by decide) ?_
      refine lv_dup2_11 hx hb dX12_readsPerson_184 rfl rfl ?_
      refine s_iald (j := 2) hx hb hK.1 hP 0 0 rfl rfl (vi (by decide)) (by decide) dX12_readsPerson_185 ?_
      refine lv_iload_n hx hb dX12_readsPerson_186 rfl (lv_at hl 1 rfl) ?_
      refine lv_iconst (v := 5) hx hb dX12_readsPerson_187 (by decide) ?_
      refine lv_icmp_ne (tgt := 195) hx hb dX12_readsPerson_188 (by decide) (fun c_ => ?_) (fun c_ => ?_)
      · have hF := hF.1 c_
        refine lv_iconst (v := 1) hx hb dX12_readsPerson_195 (by decide) ?_
        refine lv_aload_n hx hb dX12_readsPerson_196 rfl (lv_at hl 0 rfl) ?_
        refine va_get (D := D) (ci := 11) (v := .ref h_draft) (C := RX12) (T := TX12) (N := 27) hx hb hts inTX12 hown hK.1 hP 1 rfl rfl 14 (by decide) (hts _ t4_138) (fun _ h9 => h9) rfl dX12_readsPerson_197 ?_
        refine lv_iconst (v := 1) hx hb dX12_readsPerson_200 (by decide) ?_
        refine s_iald (j := 1) hx hb hK.1 hP 0 0 rfl rfl (vi (by decide)) (by decide) dX12_readsPerson_201 ?_
        refine lv_ishl hx hb dX12_readsPerson_202 ?_
        exact J_203 ((1 : Int32) <<< (((upd (upd (upd (upd w_draft ((l2).toNatClampNeg) l1) (((l2 + 1)).toNatClampNeg) l3) (((l2 + 2)).toNatClampNeg) l4) (((l2 + 3)).toNatClampNeg) l5) 1) &&& 31)) ((upd (upd (upd (upd w_draft ((l2).toNatClampNeg) l1) (((l2 + 1)).toNatClampNeg) l3) (((l2 + 2)).toNatClampNeg) l4) (((l2 + 3)).toNatClampNeg) l5) 2) 2 u2_faultKind u3_faultPlace u4_at u5_start u6_token u7_value (upd (upd (upd (upd w_draft ((l2).toNatClampNeg) l1) (((l2 + 1)).toNatClampNeg) l3) (((l2 + 2)).toNatClampNeg) l4) (((l2 + 3)).toNatClampNeg) l5) _ _ ls  (hP.sub [1, 0, 2] rfl) (hD.sub [1, 0, 2] (by decide) rfl) hS (lv_sub hl [0] rfl) hF
      · have hF := hF.2 c_
        refine lv_iconst (v := 0) hx hb dX12_readsPerson_191 (by decide) ?_
        refine lv_goto (tgt := 203) hx hb dX12_readsPerson_192 (by decide) ?_
        exact J_203 0 ((upd (upd (upd (upd w_draft ((l2).toNatClampNeg) l1) (((l2 + 1)).toNatClampNeg) l3) (((l2 + 2)).toNatClampNeg) l4) (((l2 + 3)).toNatClampNeg) l5) 2) 2 u2_faultKind u3_faultPlace u4_at u5_start u6_token u7_value (upd (upd (upd (upd w_draft ((l2).toNatClampNeg) l1) (((l2 + 1)).toNatClampNeg) l3) (((l2 + 2)).toNatClampNeg) l4) (((l2 + 3)).toNatClampNeg) l5) _ _ ls  (hP.sub [1, 0, 2] rfl) (hD.sub [1, 0, 2] (by decide) rfl) hS (lv_sub hl [0] rfl) hF
  have J_104 : ∀ (l1 : Int32) (l2 : Int32) (l3 : Int32) (l4 : Int32) (k0 : Bool) (w_faultKind : Int32) (w_faultPlace : Int32) (w_at : Int32) (w_start : Int32) (w_token : Int32) (w_value : Int32) (w_draft : Nat → Int32) (H : Heap) (locs : List Loc) (ls : Array Slot), va_P D CL [(h_this, .inr (11, [x_lane, x_many, x_items, x_spare, .int v_status, .ref h_tape, .int v_taped, .int w_faultKind, .int w_faultPlace, .int w_at, .int w_start, .int w_token, .int w_value, x_now, .ref h_draft, x_tried, x_past, .int v_acts, x_images, x_kept, x_trace, .int v_traced, x_comes, x_standing, x_brought, x_habit, .int v_livedMany])), (h_draft, .inl (cy 0, 124, .inl w_draft)), (h_tape, .inl (cy 0, 60, .inl v_tape))] H → va_D A [(h_this, .inr (11, [x_lane, x_many, x_items, x_spare, .int v_status, .ref h_tape, .int v_taped, .int w_faultKind, .int w_faultPlace, .int w_at, .int w_start, .int w_token, .int w_value, x_now, .ref h_draft, x_tried, x_past, .int v_acts, x_images, x_kept, x_trace, .int v_traced, x_comes, x_standing, x_brought, x_habit, .int v_livedMany])), (h_draft, .inl (cy 0, 124, .inl w_draft)), (h_tape, .inl (cy 0, 60, .inl v_tape))] → va_S A s.heap H locs → lv_has ls 6 [(0, .ref h_this), (1, .int l1), (2, .int l2), (3, .int l3), (4, .int l4)] → wjX12_readsPerson_104 v_taped v_tape post l1 l2 l3 l4 k0 w_faultKind w_faultPlace w_at w_start w_token w_value w_draft → W p l e rmX12_readsPerson s m args below meth c H locs 0 0 Q (F0 m 104 ls [.int (bz k0), .ref h_this]) := by
    intro l1 l2 l3 l4 k0 w_faultKind w_faultPlace w_at w_start w_token w_value w_draft H locs ls  hP hD hS hl hF
    unfold wjX12_readsPerson_104 at hF
    refine lv_iconst (v := 1) hx hb dX12_readsPerson_104 (by decide) ?_
    refine cV_t (As := [.int (bz k0), .int 1]) (wr := [(h_draft, .inl (cy 0, 124, .inl w_draft))]) C hA hP hD hS mfX12_takes t5_29 ts_20 t5_27 (ccX12_takes l D cy h_this h_tape x_lane x_many x_items x_spare x_now (.ref h_draft) x_tried x_past x_images x_kept x_trace x_comes x_standing x_brought x_habit v_status v_taped w_faultKind w_faultPlace w_at w_start w_token w_value v_acts v_traced v_livedMany v_tape k0 1 _ hF) [0, 2] [1] rfl rfl (by decide) (by decide) (by decide) PO.np 0 11 rfl rfl rfl rfl hl.1 rfl (Nat.le_of_ble_eq_true rfl) dX12_readsPerson_105 ⟨Nat.le_of_ble_eq_true rfl, Nat.le_of_ble_eq_true rfl⟩ ⟨Nat.le_of_ble_eq_true rfl, Nat.le_of_ble_eq_true rfl⟩ ?_
    rintro r1 w1 H locs ⟨u2_faultKind, u3_faultPlace, u4_at, u5_start, u6_token, u7_value, rfl, hF⟩ hP hD hS
    have hP : va_P D CL [(h_draft, .inl (cy 0, 124, .inl w_draft)), (h_this, .inr (11, [x_lane, x_many, x_items, x_spare, .int v_status, .ref h_tape, .int v_taped, .int u2_faultKind, .int u3_faultPlace, .int u4_at, .int u5_start, .int u6_token, .int u7_value, x_now, .ref h_draft, x_tried, x_past, .int v_acts, x_images, x_kept, x_trace, .int v_traced, x_comes, x_standing, x_brought, x_habit, .int v_livedMany])), (h_tape, .inl (cy 0, 60, .inl v_tape))] H := hP
    have hD : va_D A [(h_draft, .inl (cy 0, 124, .inl w_draft)), (h_this, .inr (11, [x_lane, x_many, x_items, x_spare, .int v_status, .ref h_tape, .int v_taped, .int u2_faultKind, .int u3_faultPlace, .int u4_at, .int u5_start, .int u6_token, .int u7_value, x_now, .ref h_draft, x_tried, x_past, .int v_acts, x_images, x_kept, x_trace, .int v_traced, x_comes, x_standing, x_brought, x_habit, .int v_livedMany])), (h_tape, .inl (cy 0, 60, .inl v_tape))] := hD
    refine W.eq (g2 := F0 m 108 ls [.int r1]) rfl ?_
    refine lv_pop hx hb dX12_readsPerson_108 rfl ?_
    refine lv_aload_n hx hb dX12_readsPerson_109 rfl (lv_at hl 0 rfl) ?_
    refine lv_bipush (v := 99) hx hb dX12_readsPerson_110 (by decide) ?_
    refine cV_t (As := [.int 99]) (wr := [(h_draft, .inl (cy 0, 124, .inl w_draft))]) C hA hP hD hS mfX12_figure t5_44 ts_23 t5_42 (ccX12_figure l D cy h_this h_tape x_lane x_many x_items x_spare x_now (.ref h_draft) x_tried x_past x_images x_kept x_trace x_comes x_standing x_brought x_habit v_status v_taped u2_faultKind u3_faultPlace u4_at u5_start u6_token u7_value v_acts v_traced v_livedMany v_tape 99 _ hF) [1, 2] [0] rfl rfl (by decide) (by decide) (by decide) PO.np 1 11 rfl rfl rfl rfl hl.1 rfl (Nat.le_of_ble_eq_true rfl) dX12_readsPerson_112 ⟨Nat.le_of_ble_eq_true rfl, Nat.le_of_ble_eq_true rfl⟩ ⟨Nat.le_of_ble_eq_true rfl, Nat.le_of_ble_eq_true rfl⟩ ?_
    rintro r8 w1 H locs ⟨u9_faultKind, u10_faultPlace, u11_at, u12_start, u13_token, u14_value, rfl, hF⟩ hP hD hS
    have hP : va_P D CL [(h_draft, .inl (cy 0, 124, .inl w_draft)), (h_this, .inr (11, [x_lane, x_many, x_items, x_spare, .int v_status, .ref h_tape, .int v_taped, .int u9_faultKind, .int u10_faultPlace, .int u11_at, .int u12_start, .int u13_token, .int u14_value, x_now, .ref h_draft, x_tried, x_past, .int v_acts, x_images, x_kept, x_trace, .int v_traced, x_comes, x_standing, x_brought, x_habit, .int v_livedMany])), (h_tape, .inl (cy 0, 60, .inl v_tape))] H := hP
    have hD : va_D A [(h_draft, .inl (cy 0, 124, .inl w_draft)), (h_this, .inr (11, [x_lane, x_many, x_items, x_spare, .int v_status, .ref h_tape, .int v_taped, .int u9_faultKind, .int u10_faultPlace, .int u11_at, .int u12_start, .int u13_token, .int u14_value, x_now, .ref h_draft, x_tried, x_past, .int v_acts, x_images, x_kept, x_trace, .int v_traced, x_comes, x_standing, x_brought, x_habit, .int v_livedMany])), (h_tape, .inl (cy 0, 60, .inl v_tape))] := hD
    refine W.eq (g2 := F0 m 115 ls [.int r8]) rfl ?_
    refine lv_istore (lv' := [(5, .int r8), (0, .ref h_this), (1, .int l1), (2, .int l2), (3, .int l3), (4, .int l4)]) hx hb dX12_readsPerson_115 hl (by decide) rfl (fun ls hl => ?_)
    refine lv_aload_n hx hb dX12_readsPerson_117 rfl (lv_at hl 1 rfl) ?_
    refine lv_aload_n hx hb dX12_readsPerson_118 rfl (lv_at hl 1 rfl) ?_
    refine va_get (D := D) (ci := 11) (v := .int u13_token) (C := RX12) (T := TX12) (N := 27) hx hb hts inTX12 hown hK.1 hP 1 rfl rfl 11 (by decide) (hts _ t4_135) (fun _ h9 => h9) rfl dX12_readsPerson_119 ?_
    refine lv_iconst (v := 4) hx hb dX12_readsPerson_122 (by decide) ?_
    refine lv_icmp_ne (tgt := 130) hx hb dX12_readsPerson_123 (by decide) (fun c_ => ?_) (fun c_ => ?_)
    · have hF := hF.1 c_
      refine lv_iconst (v := 0) hx hb dX12_readsPerson_130 (by decide) ?_
      exact J_131 l1 l2 l3 l4 r8 false u9_faultKind u10_faultPlace u11_at u12_start u13_token u14_value w_draft _ _ ls  (hP.sub [1, 0, 2] rfl) (hD.sub [1, 0, 2] (by decide) rfl) hS (lv_sub hl [1, 2, 3, 4, 5, 0] rfl) hF
    · have hF := hF.2 c_
      refine lv_iconst (v := 1) hx hb dX12_readsPerson_126 (by decide) ?_
      refine lv_goto (tgt := 131) hx hb dX12_readsPerson_127 (by decide) ?_
      exact J_131 l1 l2 l3 l4 r8 true u9_faultKind u10_faultPlace u11_at u12_start u13_token u14_value w_draft _ _ ls  (hP.sub [1, 0, 2] rfl) (hD.sub [1, 0, 2] (by decide) rfl) hS (lv_sub hl [1, 2, 3, 4, 5, 0] rfl) hF
  have J_77 : ∀ (l1 : Int32) (l2 : Int32) (l3 : Int32) (k0 : Bool) (w_faultKind : Int32) (w_faultPlace : Int32) (w_at : Int32) (w_start : Int32) (w_token : Int32) (w_value : Int32) (w_draft : Nat → Int32) (H : Heap) (locs : List Loc) (ls : Array Slot), va_P D CL [(h_this, .inr (11, [x_lane, x_many, x_items, x_spare, .int v_status, .ref h_tape, .int v_taped, .int w_faultKind, .int w_faultPlace, .int w_at, .int w_start, .int w_token, .int w_value, x_now, .ref h_draft, x_tried, x_past, .int v_acts, x_images, x_kept, x_trace, .int v_traced, x_comes, x_standing, x_brought, x_habit, .int v_livedMany])), (h_draft, .inl (cy 0, 124, .inl w_draft)), (h_tape, .inl (cy 0, 60, .inl v_tape))] H → va_D A [(h_this, .inr (11, [x_lane, x_many, x_items, x_spare, .int v_status, .ref h_tape, .int v_taped, .int w_faultKind, .int w_faultPlace, .int w_at, .int w_start, .int w_token, .int w_value, x_now, .ref h_draft, x_tried, x_past, .int v_acts, x_images, x_kept, x_trace, .int v_traced, x_comes, x_standing, x_brought, x_habit, .int v_livedMany])), (h_draft, .inl (cy 0, 124, .inl w_draft)), (h_tape, .inl (cy 0, 60, .inl v_tape))] → va_S A s.heap H locs → lv_has ls 6 [(0, .ref h_this), (1, .int l1), (2, .int l2), (3, .int l3)] → wjX12_readsPerson_77 v_taped v_tape post l1 l2 l3 k0 w_faultKind w_faultPlace w_at w_start w_token w_value w_draft → W p l e rmX12_readsPerson s m args below meth c H locs 0 0 Q (F0 m 77 ls [.int (bz k0), .ref h_this]) := by
    intro l1 l2 l3 k0 w_faultKind w_faultPlace w_at w_start w_token w_value w_draft H locs ls  hP hD hS hl hF
    unfold wjX12_readsPerson_77 at hF
    refine lv_iconst (v := 1) hx hb dX12_readsPerson_77 (by decide) ?_
    refine cV_t (As := [.int (bz k0), .int 1]) (wr := [(h_draft, .inl (cy 0, 124, .inl w_draft))]) C hA hP hD hS mfX12_takes t5_29 ts_20 t5_27 (ccX12_takes l D cy h_this h_tape x_lane x_many x_items x_spare x_now (.ref h_draft) x_tried x_past x_images x_kept x_trace x_comes x_standing x_brought x_habit v_status v_taped w_faultKind w_faultPlace w_at w_start w_token w_value v_acts v_traced v_livedMany v_tape k0 1 _ hF) [0, 2] [1] rfl rfl (by decide) (by decide) (by decide) PO.np 0 11 rfl rfl rfl rfl hl.1 rfl (Nat.le_of_ble_eq_true rfl) dX12_readsPerson_78 ⟨Nat.le_of_ble_eq_true rfl, Nat.le_of_ble_eq_true rfl⟩ ⟨Nat.le_of_ble_eq_true rfl, Nat.le_of_ble_eq_true rfl⟩ ?_
    rintro r1 w1 H locs ⟨u2_faultKind, u3_faultPlace, u4_at, u5_start, u6_token, u7_value, rfl, hF⟩ hP hD hS
    have hP : va_P D CL [(h_draft, .inl (cy 0, 124, .inl w_draft)), (h_this, .inr (11, [x_lane, x_many, x_items, x_spare, .int v_status, .ref h_tape, .int v_taped, .int u2_faultKind, .int u3_faultPlace, .int u4_at, .int u5_start, .int u6_token, .int u7_value, x_now, .ref h_draft, x_tried, x_past, .int v_acts, x_images, x_kept, x_trace, .int v_traced, x_comes, x_standing, x_brought, x_habit, .int v_livedMany])), (h_tape, .inl (cy 0, 60, .inl v_tape))] H := hP
    have hD : va_D A [(h_draft, .inl (cy 0, 124, .inl w_draft)), (h_this, .inr (11, [x_lane, x_many, x_items, x_spare, .int v_status, .ref h_tape, .int v_taped, .int u2_faultKind, .int u3_faultPlace, .int u4_at, .int u5_start, .int u6_token, .int u7_value, x_now, .ref h_draft, x_tried, x_past, .int v_acts, x_images, x_kept, x_trace, .int v_traced, x_comes, x_standing, x_brought, x_habit, .int v_livedMany])), (h_tape, .inl (cy 0, 60, .inl v_tape))] := hD
    refine W.eq (g2 := F0 m 81 ls [.int r1]) rfl ?_
    refine lv_pop hx hb dX12_readsPerson_81 rfl ?_
    refine lv_aload_n hx hb dX12_readsPerson_82 rfl (lv_at hl 0 rfl) ?_
    refine lv_bipush (v := 99) hx hb dX12_readsPerson_83 (by decide) ?_
    refine cV_t (As := [.int 99]) (wr := [(h_draft, .inl (cy 0, 124, .inl w_draft))]) C hA hP hD hS mfX12_figure t5_44 ts_23 t5_42 (ccX12_figure l D cy h_this h_tape x_lane x_many x_items x_spare x_now (.ref h_draft) x_tried x_past x_images x_kept x_trace x_comes x_standing x_brought x_habit v_status v_taped u2_faultKind u3_faultPlace u4_at u5_start u6_token u7_value v_acts v_traced v_livedMany v_tape 99 _ hF) [1, 2] [0] rfl rfl (by decide) (by decide) (by decide) PO.np 1 11 rfl rfl rfl rfl hl.1 rfl (Nat.le_of_ble_eq_true rfl) dX12_readsPerson_85 ⟨Nat.le_of_ble_eq_true rfl, Nat.le_of_ble_eq_true rfl⟩ ⟨Nat.le_of_ble_eq_true rfl, Nat.le_of_ble_eq_true rfl⟩ ?_
    rintro r8 w1 H locs ⟨u9_faultKind, u10_faultPlace, u11_at, u12_start, u13_token, u14_value, rfl, hF⟩ hP hD hS
    have hP : va_P D CL [(h_draft, .inl (cy 0, 124, .inl w_draft)), (h_this, .inr (11, [x_lane, x_many, x_items, x_spare, .int v_status, .ref h_tape, .int v_taped, .int u9_faultKind, .int u10_faultPlace, .int u11_at, .int u12_start, .int u13_token, .int u14_value, x_now, .ref h_draft, x_tried, x_past, .int v_acts, x_images, x_kept, x_trace, .int v_traced, x_comes, x_standing, x_brought, x_habit, .int v_livedMany])), (h_tape, .inl (cy 0, 60, .inl v_tape))] H := hP
    have hD : va_D A [(h_draft, .inl (cy 0, 124, .inl w_draft)), (h_this, .inr (11, [x_lane, x_many, x_items, x_spare, .int v_status, .ref h_tape, .int v_taped, .int u9_faultKind, .int u10_faultPlace, .int u11_at, .int u12_start, .int u13_token, .int u14_value, x_now, .ref h_draft, x_tried, x_past, .int v_acts, x_images, x_kept, x_trace, .int v_traced, x_comes, x_standing, x_brought, x_habit, .int v_livedMany])), (h_tape, .inl (cy 0, 60, .inl v_tape))] := hD
    refine W.eq (g2 := F0 m 88 ls [.int r8]) rfl ?_
    refine lv_istore (lv' := [(4, .int r8), (0, .ref h_this), (1, .int l1), (2, .int l2), (3, .int l3)]) hx hb dX12_readsPerson_88 hl (by decide) rfl (fun ls hl => ?_)
    refine lv_aload_n hx hb dX12_readsPerson_90 rfl (lv_at hl 1 rfl) ?_
    refine lv_aload_n hx hb dX12_readsPerson_91 rfl (lv_at hl 1 rfl) ?_
    refine va_get (D := D) (ci := 11) (v := .int u13_token) (C := RX12) (T := TX12) (N := 27) hx hb hts inTX12 hown hK.1 hP 1 rfl rfl 11 (by decide) (hts _ t4_135) (fun _ h9 => h9) rfl dX12_readsPerson_92 ?_
    refine lv_iconst (v := 3) hx hb dX12_readsPerson_95 (by decide) ?_
    refine lv_icmp_ne (tgt := 103) hx hb dX12_readsPerson_96 (by decide) (fun c_ => ?_) (fun c_ => ?_)
    · have hF := hF.1 c_
      refine lv_iconst (v := 0) hx hb dX12_readsPerson_103 (by decide) ?_
      exact J_104 l1 l2 l3 r8 false u9_faultKind u10_faultPlace u11_at u12_start u13_token u14_value w_draft _ _ ls  (hP.sub [1, 0, 2] rfl) (hD.sub [1, 0, 2] (by decide) rfl) hS (lv_sub hl [1, 2, 3, 4, 0] rfl) hF
    · have hF := hF.2 c_
      refine lv_iconst (v := 1) hx hb dX12_readsPerson_99 (by decide) ?_
      refine lv_goto (tgt := 104) hx hb dX12_readsPerson_100 (by decide) ?_
      exact J_104 l1 l2 l3 r8 true u9_faultKind u10_faultPlace u11_at u12_start u13_token u14_value w_draft _ _ ls  (hP.sub [1, 0, 2] rfl) (hD.sub [1, 0, 2] (by decide) rfl) hS (lv_sub hl [1, 2, 3, 4, 0] rfl) hF
  have J_53 : ∀ (l1 : Int32) (k0 : Int32) (k1 : Int32) (k2 : Int32) (w_faultKind : Int32) (w_faultPlace : Int32) (w_at : Int32) (w_start : Int32) (w_token : Int32) (w_value : Int32) (w_draft : Nat → Int32) (H : Heap) (locs : List Loc) (ls : Array Slot), va_P D CL [(h_this, .inr (11, [x_lane, x_many, x_items, x_spare, .int v_status, .ref h_tape, .int v_taped, .int w_faultKind, .int w_faultPlace, .int w_at, .int w_start, .int w_token, .int w_value, x_now, .ref h_draft, x_tried, x_past, .int v_acts, x_images, x_kept, x_trace, .int v_traced, x_comes, x_standing, x_brought, x_habit, .int v_livedMany])), (h_draft, .inl (cy 0, 124, .inl w_draft)), (h_tape, .inl (cy 0, 60, .inl v_tape))] H → va_D A [(h_this, .inr (11, [x_lane, x_many, x_items, x_spare, .int v_status, .ref h_tape, .int v_taped, .int w_faultKind, .int w_faultPlace, .int w_at, .int w_start, .int w_token, .int w_value, x_now, .ref h_draft, x_tried, x_past, .int v_acts, x_images, x_kept, x_trace, .int v_traced, x_comes, x_standing, x_brought, x_habit, .int v_livedMany])), (h_draft, .inl (cy 0, 124, .inl w_draft)), (h_tape, .inl (cy 0, 60, .inl v_tape))] → va_S A s.heap H locs → lv_has ls 6 [(0, .ref h_this), (1, .int l1)] → wjX12_readsPerson_53 v_taped v_tape post l1 k0 k1 k2 w_faultKind w_faultPlace w_at w_start w_token w_value w_draft → W p l e rmX12_readsPerson s m args below meth c H locs 0 0 Q (F0 m 53 ls [.int k0, .int k1, .int k2]) := by
    intro l1 k0 k1 k2 w_faultKind w_faultPlace w_at w_start w_token w_value w_draft H locs ls  hP hD hS hl hF
    unfold wjX12_readsPerson_53 at hF
    refine lv_imul hx hb dX12_readsPerson_53 ?_
    refine lv_iadd hx hb dX12_readsPerson_54 ?_
    refine lv_istore_n (lv' := [(2, .int (k2 + (k1 * k0))), (0, .ref h_this), (1, .int l1)]) hx hb dX12_readsPerson_55 rfl hl (by decide) rfl (fun ls hl => ?_)
    refine lv_aload_n hx hb dX12_readsPerson_56 rfl (lv_at hl 1 rfl) ?_
    refine lv_bipush (v := 10) hx hb dX12_readsPerson_57 (by decide) ?_
    refine cV_t (As := [.int 10]) (wr := [(h_draft, .inl (cy 0, 124, .inl w_draft))]) C hA hP hD hS mfX12_figure t5_44 ts_23 t5_42 (ccX12_figure l D cy h_this h_tape x_lane x_many x_items x_spare x_now (.ref h_draft) x_tried x_past x_images x_kept x_trace x_comes x_standing x_brought x_habit v_status v_taped w_faultKind w_faultPlace w_at w_start w_token w_value v_acts v_traced v_livedMany v_tape 10 _ hF) [0, 2] [1] rfl rfl (by decide) (by decide) (by decide) PO.np 0 11 rfl rfl rfl rfl hl.1 rfl (Nat.le_of_ble_eq_true rfl) dX12_readsPerson_59 ⟨Nat.le_of_ble_eq_true rfl, Nat.le_of_ble_eq_true rfl⟩ ⟨Nat.le_of_ble_eq_true rfl, Nat.le_of_ble_eq_true rfl⟩ ?_
    rintro r1 w1 H locs ⟨u2_faultKind, u3_faultPlace, u4_at, u5_start, u6_token, u7_value, rfl, hF⟩ hP hD hS
    have hP : va_P D CL [(h_draft, .inl (cy 0, 124, .inl w_draft)), (h_this, .inr (11, [x_lane, x_many, x_items, x_spare, .int v_status, .ref h_tape, .int v_taped, .int u2_faultKind, .int u3_faultPlace, .int u4_at, .int u5_start, .int u6_token, .int u7_value, x_now, .ref h_draft, x_tried, x_past, .int v_acts, x_images, x_kept, x_trace, .int v_traced, x_comes, x_standing, x_brought, x_habit, .int v_livedMany])), (h_tape, .inl (cy 0, 60, .inl v_tape))] H := hP
    have hD : va_D A [(h_draft, .inl (cy 0, 124, .inl w_draft)), (h_this, .inr (11, [x_lane, x_many, x_items, x_spare, .int v_status, .ref h_tape, .int v_taped, .int u2_faultKind, .int u3_faultPlace, .int u4_at, .int u5_start, .int u6_token, .int u7_value, x_now, .ref h_draft, x_tried, x_past, .int v_acts, x_images, x_kept, x_trace, .int v_traced, x_comes, x_standing, x_brought, x_habit, .int v_livedMany])), (h_tape, .inl (cy 0, 60, .inl v_tape))] := hD
    refine W.eq (g2 := F0 m 62 ls [.int r1]) rfl ?_
    refine lv_istore_n (lv' := [(3, .int r1), (2, .int (k2 + (k1 * k0))), (0, .ref h_this), (1, .int l1)]) hx hb dX12_readsPerson_62 rfl hl (by decide) rfl (fun ls hl => ?_)
    refine lv_aload_n hx hb dX12_readsPerson_63 rfl (lv_at hl 2 rfl) ?_
    refine lv_aload_n hx hb dX12_readsPerson_64 rfl (lv_at hl 2 rfl) ?_
    refine va_get (D := D) (ci := 11) (v := .int u6_token) (C := RX12) (T := TX12) (N := 27) hx hb hts inTX12 hown hK.1 hP 1 rfl rfl 11 (by decide) (hts _ t4_135) (fun _ h9 => h9) rfl dX12_readsPerson_65 ?_
    refine lv_iconst (v := 3) hx hb dX12_readsPerson_68 (by decide) ?_
    refine lv_icmp_ne (tgt := 76) hx hb dX12_readsPerson_69 (by decide) (fun c_ => ?_) (fun c_ => ?_)
    · have hF := hF.1 c_
      refine lv_iconst (v := 0) hx hb dX12_readsPerson_76 (by decide) ?_
      exact J_77 l1 (k2 + (k1 * k0)) r1 false u2_faultKind u3_faultPlace u4_at u5_start u6_token u7_value w_draft _ _ ls  (hP.sub [1, 0, 2] rfl) (hD.sub [1, 0, 2] (by decide) rfl) hS (lv_sub hl [2, 3, 1, 0] rfl) hF
    · have hF := hF.2 c_
      refine lv_iconst (v := 1) hx hb dX12_readsPerson_72 (by decide) ?_
      refine lv_goto (tgt := 77) hx hb dX12_readsPerson_73 (by decide) ?_
      exact J_77 l1 (k2 + (k1 * k0)) r1 true u2_faultKind u3_faultPlace u4_at u5_start u6_token u7_value w_draft _ _ ls  (hP.sub [1, 0, 2] rfl) (hD.sub [1, 0, 2] (by decide) rfl) hS (lv_sub hl [2, 3, 1, 0] rfl) hF
  have J_24 : ∀ (l1 : Int32) (k0 : Bool) (w_faultKind : Int32) (w_faultPlace : Int32) (w_at : Int32) (w_start : Int32) (w_token : Int32) (w_value : Int32) (w_draft : Nat → Int32) (H : Heap) (locs : List Loc) (ls : Array Slot), va_P D CL [(h_this, .inr (11, [x_lane, x_many, x_items, x_spare, .int v_status, .ref h_tape, .int v_taped, .int w_faultKind, .int w_faultPlace, .int w_at, .int w_start, .int w_token, .int w_value, x_now, .ref h_draft, x_tried, x_past, .int v_acts, x_images, x_kept, x_trace, .int v_traced, x_comes, x_standing, x_brought, x_habit, .int v_livedMany])), (h_draft, .inl (cy 0, 124, .inl w_draft)), (h_tape, .inl (cy 0, 60, .inl v_tape))] H → va_D A [(h_this, .inr (11, [x_lane, x_many, x_items, x_spare, .int v_status, .ref h_tape, .int v_taped, .int w_faultKind, .int w_faultPlace, .int w_at, .int w_start, .int w_token, .int w_value, x_now, .ref h_draft, x_tried, x_past, .int v_acts, x_images, x_kept, x_trace, .int v_traced, x_comes, x_standing, x_brought, x_habit, .int v_livedMany])), (h_draft, .inl (cy 0, 124, .inl w_draft)), (h_tape, .inl (cy 0, 60, .inl v_tape))] → va_S A s.heap H locs → lv_has ls 6 [(0, .ref h_this), (1, .int l1)] → wjX12_readsPerson_24 v_taped v_tape post l1 k0 w_faultKind w_faultPlace w_at w_start w_token w_value w_draft → W p l e rmX12_readsPerson s m args below meth c H locs 0 0 Q (F0 m 24 ls [.int (bz k0), .ref h_this]) := by
    intro l1 k0 w_faultKind w_faultPlace w_at w_start w_token w_value w_draft H locs ls  hP hD hS hl hF
    unfold wjX12_readsPerson_24 at hF
    refine lv_iconst (v := 3) hx hb dX12_readsPerson_24 (by decide) ?_
    refine cV_t (As := [.int (bz k0), .int 3]) (wr := [(h_draft, .inl (cy 0, 124, .inl w_draft))]) C hA hP hD hS mfX12_takes t5_29 ts_20 t5_27 (ccX12_takes l D cy h_this h_tape x_lane x_many x_items x_spare x_now (.ref h_draft) x_tried x_past x_images x_kept x_trace x_comes x_standing x_brought x_habit v_status v_taped w_faultKind w_faultPlace w_at w_start w_token w_value v_acts v_traced v_livedMany v_tape k0 3 _ hF) [0, 2] [1] rfl rfl (by decide) (by decide) (by decide) PO.np 0 11 rfl rfl rfl rfl hl.1 rfl (Nat.le_of_ble_eq_true rfl) dX12_readsPerson_25 ⟨Nat.le_of_ble_eq_true rfl, Nat.le_of_ble_eq_true rfl⟩ ⟨Nat.le_of_ble_eq_true rfl, Nat.le_of_ble_eq_true rfl⟩ ?_
    rintro r1 w1 H locs ⟨u2_faultKind, u3_faultPlace, u4_at, u5_start, u6_token, u7_value, rfl, hF⟩ hP hD hS
    have hP : va_P D CL [(h_draft, .inl (cy 0, 124, .inl w_draft)), (h_this, .inr (11, [x_lane, x_many, x_items, x_spare, .int v_status, .ref h_tape, .int v_taped, .int u2_faultKind, .int u3_faultPlace, .int u4_at, .int u5_start, .int u6_token, .int u7_value, x_now, .ref h_draft, x_tried, x_past, .int v_acts, x_images, x_kept, x_trace, .int v_traced, x_comes, x_standing, x_brought, x_habit, .int v_livedMany])), (h_tape, .inl (cy 0, 60, .inl v_tape))] H := hP
    have hD : va_D A [(h_draft, .inl (cy 0, 124, .inl w_draft)), (h_this, .inr (11, [x_lane, x_many, x_items, x_spare, .int v_status, .ref h_tape, .int v_taped, .int u2_faultKind, .int u3_faultPlace, .int u4_at, .int u5_start, .int u6_token, .int u7_value, x_now, .ref h_draft, x_tried, x_past, .int v_acts, x_images, x_kept, x_trace, .int v_traced, x_comes, x_standing, x_brought, x_habit, .int v_livedMany])), (h_tape, .inl (cy 0, 60, .inl v_tape))] := hD
    refine W.eq (g2 := F0 m 28 ls [.int r1]) rfl ?_
    refine lv_pop hx hb dX12_readsPerson_28 rfl ?_
    refine lv_bipush (v := 6) hx hb dX12_readsPerson_29 (by decide) ?_
    refine lv_bipush (v := 6) hx hb dX12_readsPerson_31 (by decide) ?_
    refine lv_aload_n hx hb dX12_readsPerson_33 rfl (lv_at hl 0 rfl) ?_
    refine va_get (D := D) (ci := 11) (v := .ref h_draft) (C := RX12) (T := TX12) (N := 27) hx hb hts inTX12 hown hK.1 hP 1 rfl rfl 14 (by decide) (hts _ t4_138) (fun _ h9 => h9) rfl dX12_readsPerson_34 ?_
    refine lv_iconst (v := 1) hx hb dX12_readsPerson_37 (by decide) ?_
    refine s_iald (j := 1) hx hb hK.1 hP 0 0 rfl rfl (vi (by decide)) (by decide) dX12_readsPerson_38 ?_
    refine lv_iconst (v := 3) hx hb dX12_readsPerson_39 (by decide) ?_
    refine lv_icmp_ge (tgt := 52) hx hb dX12_readsPerson_40 (by decide) (fun c_ => ?_) (fun c_ => ?_)
    · have hF := hF.1 c_
      refine lv_iconst (v := 0) hx hb dX12_readsPerson_52 (by decide) ?_
      exact J_53 l1 0 6 6 u2_faultKind u3_faultPlace u4_at u5_start u6_token u7_value w_draft _ _ ls  (hP.sub [1, 0, 2] rfl) (hD.sub [1, 0, 2] (by decide) rfl) hS (lv_sub hl [0, 1] rfl) hF
    · have hF := hF.2 c_
      refine lv_aload_n hx hb dX12_readsPerson_43 rfl (lv_at hl 0 rfl) ?_
      refine va_get (D := D) (ci := 11) (v := .ref h_draft) (C := RX12) (T := TX12) (N := 27) hx hb hts inTX12 hown hK.1 hP 1 rfl rfl 14 (by decide) (hts _ t4_138) (fun _ h9 => h9) rfl dX12_readsPerson_44 ?_
      refine lv_iconst (v := 1) hx hb dX12_readsPerson_47 (by decide) ?_
      refine s_iald (j := 1) hx hb hK.1 hP 0 0 rfl rfl (vi (by decide)) (by decide) dX12_readsPerson_48 ?_
      refine lv_goto (tgt := 53) hx hb dX12_readsPerson_49 (by decide) ?_
      exact J_53 l1 (w_draft 1) 6 6 u2_faultKind u3_faultPlace u4_at u5_start u6_token u7_value w_draft _ _ ls  (hP.sub [1, 0, 2] rfl) (hD.sub [1, 0, 2] (by decide) rfl) hS (lv_sub hl [0, 1] rfl) hF
  unfold wpX12_readsPerson at hF
  refine lv_aload_n hx hb dX12_readsPerson_0 rfl (lv_at hl 0 rfl) ?_
  refine va_get (D := D) (ci := 11) (v := .int v_value) (C := RX12) (T := TX12) (N := 27) hx hb hts inTX12 hown hK.1 hP 0 rfl rfl 12 (by decide) (hts _ t4_136) (fun _ h9 => h9) rfl dX12_readsPerson_1 ?_
  refine cS_r (As := [.int v_value]) C mfX12_kindOf t5_36 t5_35 (ccX12_kindOf l D cy v_value _ hF) rfl rfl (hP.sub [] rfl) PR.np rfl hl.1 rfl (Nat.le_of_ble_eq_true rfl) dX12_readsPerson_4 ⟨Nat.le_of_ble_eq_true rfl, Nat.le_of_ble_eq_true rfl⟩ ⟨Nat.le_of_ble_eq_true rfl, Nat.le_of_ble_eq_true rfl⟩ ?_
  intro r1 hF
  refine W.eq (g2 := F0 m 7 ls [.int r1]) rfl ?_
  refine lv_istore_n (lv' := [(1, .int r1), (0, .ref h_this)]) hx hb dX12_readsPerson_7 rfl hl (by decide) rfl (fun ls hl => ?_)
  refine lv_aload_n hx hb dX12_readsPerson_8 rfl (lv_at hl 1 rfl) ?_
  refine lv_aload_n hx hb dX12_readsPerson_9 rfl (lv_at hl 1 rfl) ?_
  refine va_get (D := D) (ci := 11) (v := .ref h_draft) (C := RX12) (T := TX12) (N := 27) hx hb hts inTX12 hown hK.1 hP 0 rfl rfl 14 (by decide) (hts _ t4_138) (fun _ h9 => h9) rfl dX12_readsPerson_10 ?_
  refine lv_iconst (v := 1) hx hb dX12_readsPerson_13 (by decide) ?_
  refine s_iald (j := 1) hx hb hK.1 hP 1 0 rfl rfl (vi (by decide)) (by decide) dX12_readsPerson_14 ?_
  refine lv_iconst (v := 3) hx hb dX12_readsPerson_15 (by decide) ?_
  refine lv_icmp_ge (tgt := 23) hx hb dX12_readsPerson_16 (by decide) (fun c_ => ?_) (fun c_ => ?_)
  · have hF := hF.1 c_
    refine lv_iconst (v := 0) hx hb dX12_readsPerson_23 (by decide) ?_
    exact J_24 r1 false v_faultKind v_faultPlace v_at v_start v_token v_value v_draft _ _ ls  hP hD hS (lv_sub hl [1, 0] rfl) hF
  · have hF := hF.2 c_
    refine lv_iconst (v := 1) hx hb dX12_readsPerson_19 (by decide) ?_
    refine lv_goto (tgt := 24) hx hb dX12_readsPerson_20 (by decide) ?_
    exact J_24 r1 true v_faultKind v_faultPlace v_at v_start v_token v_value v_draft _ _ ls  hP hD hS (lv_sub hl [1, 0] rfl) hF

def wlX12_village_164 (v_tape : Nat → Int32) (post : Int32 → Int32 → Int32 → Int32 → Int32 → Int32 → Int32 → Int32 → Int32 → (Nat → Int32) → (Nat → Int32) → Prop) : Nat → Int32 → Int32 → Int32 → Int32 → Int32 → Int32 → Int32 → Int32 → Int32 → (Nat → Int32) → (Nat → Int32) → Prop
  | 0, _, _, _, _, _, _, _, _, _, _, _ => False
  | n + 1, l1, w_taped, w_faultKind, w_faultPlace, w_at, w_start, w_token, w_value, w_acts, w_draft, w_now => (124 ≤ l1 → (post (w_now 1) w_taped w_faultKind w_faultPlace w_at w_start w_token w_value 0 w_draft w_now)) ∧ (¬ 124 ≤ l1 → (vp_in l1 124 ∧ (vp_in l1 124 ∧ ((wlX12_village_164 v_tape post n) (l1 + 1) w_taped w_faultKind w_faultPlace w_at w_start w_token w_value w_acts w_draft (upd w_now ((l1).toNatClampNeg) (w_draft ((l1).toNatClampNeg)))))))
def wjX12_village_142 (v_tape : Nat → Int32) (post : Int32 → Int32 → Int32 → Int32 → Int32 → Int32 → Int32 → Int32 → Int32 → (Nat → Int32) → (Nat → Int32) → Prop) (w_taped : Int32) (w_faultKind : Int32) (w_faultPlace : Int32) (w_at : Int32) (w_start : Int32) (w_token : Int32) (w_value : Int32) (w_acts : Int32) (w_draft : Nat → Int32) (w_now : Nat → Int32) : Prop := wpX12_isWell w_faultPlace (fun r1 => (r1 = true → (wlX12_village_164 v_tape post fu 0 0 w_faultKind w_faultPlace w_at w_start w_token w_value w_acts w_draft w_now)) ∧ (r1 = false → (post ((-1000100) - w_faultPlace) 0 w_faultKind w_faultPlace w_at w_start w_token w_value w_acts w_draft w_now)))
def wjX12_village_121 (v_tape : Nat → Int32) (post : Int32 → Int32 → Int32 → Int32 → Int32 → Int32 → Int32 → Int32 → Int32 → (Nat → Int32) → (Nat → Int32) → Prop) (w_taped : Int32) (w_faultKind : Int32) (w_faultPlace : Int32) (w_at : Int32) (w_start : Int32) (w_token : Int32) (w_value : Int32) (w_acts : Int32) (w_draft : Nat → Int32) (w_now : Nat → Int32) : Prop := wpX12_isWell w_faultPlace (fun r1 => (r1 = false → (wjX12_village_142 v_tape post w_taped w_faultKind w_faultPlace w_at w_start w_token w_value w_acts w_draft w_now)) ∧ (r1 = true → ((w_token = 0 → (wjX12_village_142 v_tape post w_taped w_faultKind w_faultPlace w_at w_start w_token w_value w_acts w_draft w_now)) ∧ (¬ w_token = 0 → (wpX12_takes false 1 w_taped w_faultKind w_faultPlace w_at w_start w_token w_value v_tape (fun r2 u3_faultKind u4_faultPlace u5_at u6_start u7_token u8_value => wjX12_village_142 v_tape post w_taped u3_faultKind u4_faultPlace u5_at u6_start u7_token u8_value w_acts w_draft w_now))))))
def wlX12_village_89 (v_tape : Nat → Int32) (post : Int32 → Int32 → Int32 → Int32 → Int32 → Int32 → Int32 → Int32 → Int32 → (Nat → Int32) → (Nat → Int32) → Prop) : Nat → Int32 → Int32 → Int32 → Int32 → Int32 → Int32 → Int32 → Int32 → (Nat → Int32) → (Nat → Int32) → Prop
  | 0, _, _, _, _, _, _, _, _, _, _ => False
  | n + 1, w_taped, w_faultKind, w_faultPlace, w_at, w_start, w_token, w_value, w_acts, w_draft, w_now => wpX12_isWell w_faultPlace (fun r1 => (r1 = false → (wjX12_village_121 v_tape post w_taped w_faultKind w_faultPlace w_at w_start w_token w_value w_acts w_draft w_now)) ∧ (r1 = true → ((¬ w_token = 1 → (wjX12_village_121 v_tape post w_taped w_faultKind w_faultPlace w_at w_start w_token w_value w_acts w_draft w_now)) ∧ (w_token = 1 → (wpX12_kindOf w_value (fun r2 => (r2 ≤ 0 → (wjX12_village_121 v_tape post w_taped w_faultKind w_faultPlace w_at w_start w_token w_value w_acts w_draft w_now)) ∧ (¬ r2 ≤ 0 → (wpX12_readsPerson w_taped w_faultKind w_faultPlace w_at w_start w_token w_value w_draft v_tape (fun _ u4_faultKind u5_faultPlace u6_at u7_start u8_token u9_value u10_draft => (wlX12_village_89 v_tape post n) w_taped u4_faultKind u5_faultPlace u6_at u7_start u8_token u9_value w_acts u10_draft w_now)))))))))
def wjX12_village_84 (v_tape : Nat → Int32) (post : Int32 → Int32 → Int32 → Int32 → Int32 → Int32 → Int32 → Int32 → Int32 → (Nat → Int32) → (Nat → Int32) → Prop) (k0 : Bool) (w_taped : Int32) (w_faultKind : Int32) (w_faultPlace : Int32) (w_at : Int32) (w_start : Int32) (w_token : Int32) (w_value : Int32) (w_acts : Int32) (w_draft : Nat → Int32) (w_now : Nat → Int32) : Prop := wpX12_takes k0 1 w_taped w_faultKind w_faultPlace w_at w_start w_token w_value v_tape (fun r1 u2_faultKind u3_faultPlace u4_at u5_start u6_token u7_value => wlX12_village_89 v_tape post fu w_taped u2_faultKind u3_faultPlace u4_at u5_start u6_token u7_value w_acts w_draft w_now)
def wjX12_village_65 (v_tape : Nat → Int32) (post : Int32 → Int32 → Int32 → Int32 → Int32 → Int32 → Int32 → Int32 → Int32 → (Nat → Int32) → (Nat → Int32) → Prop) (k0 : Bool) (w_taped : Int32) (w_faultKind : Int32) (w_faultPlace : Int32) (w_at : Int32) (w_start : Int32) (w_token : Int32) (w_value : Int32) (w_acts : Int32) (w_draft : Nat → Int32) (w_now : Nat → Int32) : Prop := wpX12_takes k0 1 w_taped w_faultKind w_faultPlace w_at w_start w_token w_value v_tape (fun r1 u2_faultKind u3_faultPlace u4_at u5_start u6_token u7_value => (¬ u6_token = 4 → (wjX12_village_84 v_tape post false w_taped u2_faultKind u3_faultPlace u4_at u5_start u6_token u7_value w_acts w_draft w_now)) ∧ (u6_token = 4 → (wjX12_village_84 v_tape post true w_taped u2_faultKind u3_faultPlace u4_at u5_start u6_token u7_value w_acts w_draft w_now)))
def wjX12_village_64 (v_tape : Nat → Int32) (post : Int32 → Int32 → Int32 → Int32 → Int32 → Int32 → Int32 → Int32 → Int32 → (Nat → Int32) → (Nat → Int32) → Prop) (w_taped : Int32) (w_faultKind : Int32) (w_faultPlace : Int32) (w_at : Int32) (w_start : Int32) (w_token : Int32) (w_value : Int32) (w_acts : Int32) (w_draft : Nat → Int32) (w_now : Nat → Int32) : Prop := wjX12_village_65 v_tape post false w_taped w_faultKind w_faultPlace w_at w_start w_token w_value w_acts w_draft w_now
def wlX12_village_2 (v_tape : Nat → Int32) (post : Int32 → Int32 → Int32 → Int32 → Int32 → Int32 → Int32 → Int32 → Int32 → (Nat → Int32) → (Nat → Int32) → Prop) : Nat → Int32 → Int32 → Int32 → Int32 → Int32 → Int32 → Int32 → Int32 → Int32 → (Nat → Int32) → (Nat → Int32) → Prop
  | 0, _, _, _, _, _, _, _, _, _, _, _ => False
  | n + 1, l1, w_taped, w_faultKind, w_faultPlace, w_at, w_start, w_token, w_value, w_acts, w_draft, w_now => (124 ≤ l1 → (wpX12_advances w_taped 0 w_start w_token w_value v_tape (fun _ u2_at u3_start u4_token u5_value => (¬ u4_token = 1 → (wjX12_village_64 v_tape post w_taped w_faultKind (-1) u2_at u3_start u4_token u5_value w_acts (upd w_draft 0 1) w_now)) ∧ (u4_token = 1 → ((¬ u5_value = 118 → (wjX12_village_64 v_tape post w_taped w_faultKind (-1) u2_at u3_start u4_token u5_value w_acts (upd w_draft 0 1) w_now)) ∧ (u5_value = 118 → (wjX12_village_65 v_tape post true w_taped w_faultKind (-1) u2_at u3_start u4_token u5_value w_acts (upd w_draft 0 1) w_now))))))) ∧ (¬ 124 ≤ l1 → (vp_in l1 124 ∧ ((wlX12_village_2 v_tape post n) (l1 + 1) w_taped w_faultKind w_faultPlace w_at w_start w_token w_value w_acts (upd w_draft ((l1).toNatClampNeg) 0) w_now)))
def wpX12_village (v_taped : Int32) (v_faultKind : Int32) (v_faultPlace : Int32) (v_at : Int32) (v_start : Int32) (v_token : Int32) (v_value : Int32) (v_acts : Int32) (v_draft : Nat → Int32) (v_tape : Nat → Int32) (v_now : Nat → Int32) (post : Int32 → Int32 → Int32 → Int32 → Int32 → Int32 → Int32 → Int32 → Int32 → (Nat → Int32) → (Nat → Int32) → Prop) : Prop := wlX12_village_2 v_tape post fu 0 v_taped v_faultKind v_faultPlace v_at v_start v_token v_value v_acts v_draft v_now
abbrev miX12_village : MI := (yX12_village, cX12_village, 2, (some .int))
theorem mfX12_village : MF miX12_village 0 := ⟨t5_18, t1_8, by decide +kernel⟩
abbrev rmX12_village : Room := { frames := 5, cells := 0, slots := 0, locals := 112 }
set_option maxHeartbeats 4000000 in
set_option maxRecDepth 100000 in
theorem ccX12_village (l : Launch) (D : va_G) (cy : Nat → ClassId) (h_this : Nat) (h_draft : Nat) (h_tape : Nat) (h_now : Nat) (x_lane : Value) (x_many : Value) (x_items : Value) (x_spare : Value) (x_tried : Value) (x_past : Value) (x_images : Value) (x_kept : Value) (x_trace : Value) (x_comes : Value) (x_standing : Value) (x_brought : Value) (x_habit : Value) (v_status : Int32) (v_taped : Int32) (v_faultKind : Int32) (v_faultPlace : Int32) (v_at : Int32) (v_start : Int32) (v_token : Int32) (v_value : Int32) (v_acts : Int32) (v_traced : Int32) (v_livedMany : Int32) (v_draft : Nat → Int32) (v_tape : Nat → Int32) (v_now : Nat → Int32) (post : Int32 → Int32 → Int32 → Int32 → Int32 → Int32 → Int32 → Int32 → Int32 → (Nat → Int32) → (Nat → Int32) → Prop) (hF : wpX12_village v_taped v_faultKind v_faultPlace v_at v_start v_token v_value v_acts v_draft v_tape v_now post) : Ct l D cy miX12_village rmX12_village emI NP [.ref h_this] [(h_this, .inr (11, [x_lane, x_many, x_items, x_spare, .int v_status, .ref h_tape, .int v_taped, .int v_faultKind, .int v_faultPlace, .int v_at, .int v_start, .int v_token, .int v_value, .ref h_now, .ref h_draft, x_tried, x_past, .int v_acts, x_images, x_kept, x_trace, .int v_traced, x_comes, x_standing, x_brought, x_habit, .int v_livedMany])), (h_draft, .inl (cy 0, 124, .inl v_draft)), (h_tape, .inl (cy 0, 60, .inl v_tape)), (h_now, .inl (cy 0, 124, .inl v_now))] (fun r w1 => ∃ (w_taped : Int32) (w_faultKind : Int32) (w_faultPlace : Int32) (w_at : Int32) (w_start : Int32) (w_token : Int32) (w_value : Int32) (w_acts : Int32) (w_draft : Nat → Int32) (w_now : Nat → Int32), w1 = [(h_this, .inr (11, [x_lane, x_many, x_items, x_spare, .int v_status, .ref h_tape, .int w_taped, .int w_faultKind, .int w_faultPlace, .int w_at, .int w_start, .int w_token, .int w_value, .ref h_now, .ref h_draft, x_tried, x_past, .int w_acts, x_images, x_kept, x_trace, .int v_traced, x_comes, x_standing, x_brought, x_habit, .int v_livedMany])), (h_draft, .inl (cy 0, 124, .inl w_draft)), (h_tape, .inl (cy 0, 60, .inl v_tape)), (h_now, .inl (cy 0, 124, .inl w_now))] ∧ post r w_taped w_faultKind w_faultPlace w_at w_start w_token w_value w_acts w_draft w_now) := by
  refine Ct.of (by decide) (Nat.le_of_ble_eq_true rfl) ?_
  intro p e s m args below meth c A ls Q C hQ hA hI hP hD hS hl
  obtain ⟨hx, hb, hr, hml, hown, hts, hK, hlk, hnm⟩ := id C
  have hb : c.code = cX12_village := hb
  have hml : c.maxLocals = 2 := hml
  have hown : s.vm.findClass RX12 = some m.cls := hown
  have hl : lv_has ls 2 [(0, .ref h_this)] := hl
  have L_164 : ∀ (n_164 : Nat) (l1 : Int32) (w_taped : Int32) (w_faultKind : Int32) (w_faultPlace : Int32) (w_at : Int32) (w_start : Int32) (w_token : Int32) (w_value : Int32) (w_acts : Int32) (w_draft : Nat → Int32) (w_now : Nat → Int32) (H : Heap) (locs : List Loc) (ls : Array Slot), va_P D CL [(h_this, .inr (11, [x_lane, x_many, x_items, x_spare, .int v_status, .ref h_tape, .int w_taped, .int w_faultKind, .int w_faultPlace, .int w_at, .int w_start, .int w_token, .int w_value, .ref h_now, .ref h_draft, x_tried, x_past, .int w_acts, x_images, x_kept, x_trace, .int v_traced, x_comes, x_standing, x_brought, x_habit, .int v_livedMany])), (h_draft, .inl (cy 0, 124, .inl w_draft)), (h_tape, .inl (cy 0, 60, .inl v_tape)), (h_now, .inl (cy 0, 124, .inl w_now))] H → va_D A [(h_this, .inr (11, [x_lane, x_many, x_items, x_spare, .int v_status, .ref h_tape, .int w_taped, .int w_faultKind, .int w_faultPlace, .int w_at, .int w_start, .int w_token, .int w_value, .ref h_now, .ref h_draft, x_tried, x_past, .int w_acts, x_images, x_kept, x_trace, .int v_traced, x_comes, x_standing, x_brought, x_habit, .int v_livedMany])), (h_draft, .inl (cy 0, 124, .inl w_draft)), (h_tape, .inl (cy 0, 60, .inl v_tape)), (h_now, .inl (cy 0, 124, .inl w_now))] → va_S A s.heap H locs → lv_has ls 2 [(0, .ref h_this), (1, .int l1)] → wlX12_village_164 v_tape post n_164 l1 w_taped w_faultKind w_faultPlace w_at w_start w_token w_value w_acts w_draft w_now → W p l e rmX12_village s m args below meth c H locs 0 0 Q (F0 m 164 ls []) := by
    intro n_164
    induction n_164 with
    | zero =>
      intro l1 w_taped w_faultKind w_faultPlace w_at w_start w_token w_value w_acts w_draft w_now H locs ls  hP hD hS hl hF
      simp only [wlX12_village_164] at hF
    | succ n_164 ih_164 =>
      intro l1 w_taped w_faultKind w_faultPlace w_at w_start w_token w_value w_acts w_draft w_now H locs ls  hP hD hS hl hF
      unfold wlX12_village_164 at hF
      refine lv_iload_n hx hb dX12_village_164 rfl (lv_at hl 1 rfl) ?_
      refine lv_bipush (v := 124) hx hb dX12_village_165 (by decide) ?_
      refine lv_icmp_ge (tgt := 188) hx hb dX12_village_167 (by decide) (fun c_ => ?_) (fun c_ => ?_)
      · have hF := hF.1 c_
        refine lv_aload_n hx hb dX12_village_188 rfl (lv_at hl 0 rfl) ?_
        refine lv_iconst (v := 0) hx hb dX12_village_189 (by decide) ?_
        refine va_put (D := D) (ci := 11) (v := .int 0) (ty := .int) (C := RX12) (T := TX12) (N := 27) hx hb hts inTX12 tyX12 tyX12_ok nmX12 hown hK.1 hP hD hS 0 rfl rfl 17 (by decide) (hts _ t4_141) (fun _ h9 => h9) rfl (tyX12_ok 17 (by decide)) rfl rfl (Nat.le_of_ble_eq_true rfl) dX12_village_190 (fun H locs hP hD hS => ?_)
        have hP : va_P D CL [(h_this, .inr (11, [x_lane, x_many, x_items, x_spare, .int v_status, .ref h_tape, .int w_taped, .int w_faultKind, .int w_faultPlace, .int w_at, .int w_start, .int w_token, .int w_value, .ref h_now, .ref h_draft, x_tried, x_past, .int 0, x_images, x_kept, x_trace, .int v_traced, x_comes, x_standing, x_brought, x_habit, .int v_livedMany])), (h_draft, .inl (cy 0, 124, .inl w_draft)), (h_tape, .inl (cy 0, 60, .inl v_tape)), (h_now, .inl (cy 0, 124, .inl w_now))] H := hP
        have hD : va_D A [(h_this, .inr (11, [x_lane, x_many, x_items, x_spare, .int v_status, .ref h_tape, .int w_taped, .int w_faultKind, .int w_faultPlace, .int w_at, .int w_start, .int w_token, .int w_value, .ref h_now, .ref h_draft, x_tried, x_past, .int 0, x_images, x_kept, x_trace, .int v_traced, x_comes, x_standing, x_brought, x_habit, .int v_livedMany])), (h_draft, .inl (cy 0, 124, .inl w_draft)), (h_tape, .inl (cy 0, 60, .inl v_tape)), (h_now, .inl (cy 0, 124, .inl w_now))] := hD
        refine lv_aload_n hx hb dX12_village_193 rfl (lv_at hl 0 rfl) ?_
        refine va_get (D := D) (ci := 11) (v := .ref h_now) (C := RX12) (T := TX12) (N := 27) hx hb hts inTX12 hown hK.1 hP 0 rfl rfl 13 (by decide) (hts _ t4_137) (fun _ h9 => h9) rfl dX12_village_194 ?_
        refine lv_iconst (v := 1) hx hb dX12_village_197 (by decide) ?_
        refine s_iald (j := 1) hx hb hK.1 hP 3 0 rfl rfl (vi (by decide)) (by decide) dX12_village_198 ?_
        exact rt_i C hQ rfl hP hD hS ⟨w_taped, w_faultKind, w_faultPlace, w_at, w_start, w_token, w_value, 0, w_draft, w_now, rfl, hF⟩ dX12_village_199
      · have hF := hF.2 c_
        refine lv_aload_n hx hb dX12_village_170 rfl (lv_at hl 0 rfl) ?_
        refine va_get (D := D) (ci := 11) (v := .ref h_now) (C := RX12) (T := TX12) (N := 27) hx hb hts inTX12 hown hK.1 hP 0 rfl rfl 13 (by decide) (hts _ t4_137) (fun _ h9 => h9) rfl dX12_village_171 ?_
        refine lv_iload_n hx hb dX12_village_174 rfl (lv_at hl 1 rfl) ?_
        refine lv_aload_n hx hb dX12_village_175 rfl (lv_at hl 0 rfl) ?_
        refine va_get (D := D) (ci := 11) (v := .ref h_draft) (C := RX12) (T := TX12) (N := 27) hx hb hts inTX12 hown hK.1 hP 0 rfl rfl 14 (by decide) (hts _ t4_138) (fun _ h9 => h9) rfl dX12_village_176 ?_
        refine lv_iload_n hx hb dX12_village_179 rfl (lv_at hl 1 rfl) ?_
        obtain ⟨hi1, hF⟩ := hF
        refine s_iald (j := (l1).toNatClampNeg) hx hb hK.1 hP 1 0 rfl rfl hi1 rfl dX12_village_180 ?_
        obtain ⟨hi2, hF⟩ := hF
        refine s_iast (j := (l1).toNatClampNeg) hx hb hK.1 hP hD hS 3 0 rfl rfl hi2 rfl dX12_village_181 (fun H locs hP hD hS => ?_)
        have hP : va_P D CL [(h_this, .inr (11, [x_lane, x_many, x_items, x_spare, .int v_status, .ref h_tape, .int w_taped, .int w_faultKind, .int w_faultPlace, .int w_at, .int w_start, .int w_token, .int w_value, .ref h_now, .ref h_draft, x_tried, x_past, .int w_acts, x_images, x_kept, x_trace, .int v_traced, x_comes, x_standing, x_brought, x_habit, .int v_livedMany])), (h_draft, .inl (cy 0, 124, .inl w_draft)), (h_tape, .inl (cy 0, 60, .inl v_tape)), (h_now, .inl (cy 0, 124, .inl (upd w_now ((l1).toNatClampNeg) (w_draft ((l1).toNatClampNeg)))))] H := hP
        have hD : va_D A [(h_this, .inr (11, [x_lane, x_many, x_items, x_spare, .int v_status, .ref h_tape, .int w_taped, .int w_faultKind, .int w_faultPlace, .int w_at, .int w_start, .int w_token, .int w_value, .ref h_now, .ref h_draft, x_tried, x_past, .int w_acts, x_images, x_kept, x_trace, .int v_traced, x_comes, x_standing, x_brought, x_habit, .int v_livedMany])), (h_draft, .inl (cy 0, 124, .inl w_draft)), (h_tape, .inl (cy 0, 60, .inl v_tape)), (h_now, .inl (cy 0, 124, .inl (upd w_now ((l1).toNatClampNeg) (w_draft ((l1).toNatClampNeg)))))] := hD
        refine lv_iinc (v := (l1 + 1)) (lv' := [(1, .int (l1 + 1)), (0, .ref h_this)]) hx hb dX12_village_182 hl (k := 1) rfl rfl (by decide) rfl (fun ls hl => ?_)
        refine lv_goto (tgt := 164) hx hb dX12_village_185 (by decide) ?_
        exact ih_164 (l1 + 1) w_taped w_faultKind w_faultPlace w_at w_start w_token w_value w_acts w_draft (upd w_now ((l1).toNatClampNeg) (w_draft ((l1).toNatClampNeg))) _ _ ls  hP hD hS (lv_sub hl [1, 0] rfl) hF
  have J_142 : ∀ (w_taped : Int32) (w_faultKind : Int32) (w_faultPlace : Int32) (w_at : Int32) (w_start : Int32) (w_token : Int32) (w_value : Int32) (w_acts : Int32) (w_draft : Nat → Int32) (w_now : Nat → Int32) (H : Heap) (locs : List Loc) (ls : Array Slot), va_P D CL [(h_this, .inr (11, [x_lane, x_many, x_items, x_spare, .int v_status, .ref h_tape, .int w_taped, .int w_faultKind, .int w_faultPlace, .int w_at, .int w_start, .int w_token, .int w_value, .ref h_now, .ref h_draft, x_tried, x_past, .int w_acts, x_images, x_kept, x_trace, .int v_traced, x_comes, x_standing, x_brought, x_habit, .int v_livedMany])), (h_draft, .inl (cy 0, 124, .inl w_draft)), (h_tape, .inl (cy 0, 60, .inl v_tape)), (h_now, .inl (cy 0, 124, .inl w_now))] H → va_D A [(h_this, .inr (11, [x_lane, x_many, x_items, x_spare, .int v_status, .ref h_tape, .int w_taped, .int w_faultKind, .int w_faultPlace, .int w_at, .int w_start, .int w_token, .int w_value, .ref h_now, .ref h_draft, x_tried, x_past, .int w_acts, x_images, x_kept, x_trace, .int v_traced, x_comes, x_standing, x_brought, x_habit, .int v_livedMany])), (h_draft, .inl (cy 0, 124, .inl w_draft)), (h_tape, .inl (cy 0, 60, .inl v_tape)), (h_now, .inl (cy 0, 124, .inl w_now))] → va_S A s.heap H locs → lv_has ls 2 [(0, .ref h_this)] → wjX12_village_142 v_tape post w_taped w_faultKind w_faultPlace w_at w_start w_token w_value w_acts w_draft w_now → W p l e rmX12_village s m args below meth c H locs 0 0 Q (F0 m 142 ls []) := by
    intro w_taped w_faultKind w_faultPlace w_at w_start w_token w_value w_acts w_draft w_now H locs ls  hP hD hS hl hF
    unfold wjX12_village_142 at hF
    refine lv_aload_n hx hb dX12_village_142 rfl (lv_at hl 0 rfl) ?_
    refine lv_iconst (v := 0) hx hb dX12_village_143 (by decide) ?_
    refine va_put (D := D) (ci := 11) (v := .int 0) (ty := .int) (C := RX12) (T := TX12) (N := 27) hx hb hts inTX12 tyX12 tyX12_ok nmX12 hown hK.1 hP hD hS 0 rfl rfl 6 (by decide) (hts _ t4_130) (fun _ h9 => h9) rfl (tyX12_ok 6 (by decide)) rfl rfl (Nat.le_of_ble_eq_true rfl) dX12_village_144 (fun H locs hP hD hS => ?_)
    have hP : va_P D CL [(h_this, .inr (11, [x_lane, x_many, x_items, x_spare, .int v_status, .ref h_tape, .int 0, .int w_faultKind, .int w_faultPlace, .int w_at, .int w_start, .int w_token, .int w_value, .ref h_now, .ref h_draft, x_tried, x_past, .int w_acts, x_images, x_kept, x_trace, .int v_traced, x_comes, x_standing, x_brought, x_habit, .int v_livedMany])), (h_draft, .inl (cy 0, 124, .inl w_draft)), (h_tape, .inl (cy 0, 60, .inl v_tape)), (h_now, .inl (cy 0, 124, .inl w_now))] H := hP
    have hD : va_D A [(h_this, .inr (11, [x_lane, x_many, x_items, x_spare, .int v_status, .ref h_tape, .int 0, .int w_faultKind, .int w_faultPlace, .int w_at, .int w_start, .int w_token, .int w_value, .ref h_now, .ref h_draft, x_tried, x_past, .int w_acts, x_images, x_kept, x_trace, .int v_traced, x_comes, x_standing, x_brought, x_habit, .int v_livedMany])), (h_draft, .inl (cy 0, 124, .inl w_draft)), (h_tape, .inl (cy 0, 60, .inl v_tape)), (h_now, .inl (cy 0, 124, .inl w_now))] := hD
    refine lv_aload_n hx hb dX12_village_147 rfl (lv_at hl 0 rfl) ?_
    refine cV_r (As := []) C mfX12_isWell t5_33 ts_21 t5_31 (ccX12_isWell l D cy h_this x_lane x_many x_items x_spare (.ref h_tape) (.ref h_now) (.ref h_draft) x_tried x_past x_images x_kept x_trace x_comes x_standing x_brought x_habit v_status 0 w_faultKind w_faultPlace w_at w_start w_token w_value w_acts v_traced v_livedMany _ hF) rfl rfl (hP.sub [0] rfl) PR.np hP 0 11 rfl rfl rfl rfl hl.1 rfl (Nat.le_of_ble_eq_true rfl) dX12_village_148 ⟨Nat.le_of_ble_eq_true rfl, Nat.le_of_ble_eq_true rfl⟩ ⟨Nat.le_of_ble_eq_true rfl, Nat.le_of_ble_eq_true rfl⟩ ?_
    intro r1 hF
    refine W.eq (g2 := F0 m 151 ls [.int (bz r1)]) rfl ?_
    refine lv_if_ne (tgt := 162) hx hb dX12_village_151 (by decide) (fun c_ => ?_) (fun c_ => ?_)
    · have hF := hF.1 ((bz_1 _).mp c_)
      refine lv_iconst (v := 0) hx hb dX12_village_162 (by decide) ?_
      refine lv_istore_n (lv' := [(1, .int 0), (0, .ref h_this)]) hx hb dX12_village_163 rfl hl (by decide) rfl (fun ls hl => ?_)
      exact L_164 fu 0 0 w_faultKind w_faultPlace w_at w_start w_token w_value w_acts w_draft w_now _ _ ls  hP hD hS (lv_sub hl [1, 0] rfl) hF
    · have hF := hF.2 ((bz_0 _).mp c_)
      refine lv_ldc hx hb hown (hts _ t5_46) dX12_village_154 ?_
      refine lv_aload_n hx hb dX12_village_156 rfl (lv_at hl 0 rfl) ?_
      refine va_get (D := D) (ci := 11) (v := .int w_faultPlace) (C := RX12) (T := TX12) (N := 27) hx hb hts inTX12 hown hK.1 hP 0 rfl rfl 8 (by decide) (hts _ t4_132) (fun _ h9 => h9) rfl dX12_village_157 ?_
      refine lv_isub hx hb dX12_village_160 ?_
      exact rt_i C hQ rfl hP hD hS ⟨0, w_faultKind, w_faultPlace, w_at, w_start, w_token, w_value, w_acts, w_draft, w_now, rfl, hF⟩ dX12_village_161
  have J_121 : ∀ (w_taped : Int32) (w_faultKind : Int32) (w_faultPlace : Int32) (w_at : Int32) (w_start : Int32) (w_token : Int32) (w_value : Int32) (w_acts : Int32) (w_draft : Nat → Int32) (w_now : Nat → Int32) (H : Heap) (locs : List Loc) (ls : Array Slot), va_P D CL [(h_this, .inr (11, [x_lane, x_many, x_items, x_spare, .int v_status, .ref h_tape, .int w_taped, .int w_faultKind, .int w_faultPlace, .int w_at, .int w_start, .int w_token, .int w_value, .ref h_now, .ref h_draft, x_tried, x_past, .int w_acts, x_images, x_kept, x_trace, .int v_traced, x_comes, x_standing, x_brought, x_habit, .int v_livedMany])), (h_draft, .inl (cy 0, 124, .inl w_draft)), (h_tape, .inl (cy 0, 60, .inl v_tape)), (h_now, .inl (cy 0, 124, .inl w_now))] H → va_D A [(h_this, .inr (11, [x_lane, x_many, x_items, x_spare, .int v_status, .ref h_tape, .int w_taped, .int w_faultKind, .int w_faultPlace, .int w_at, .int w_start, .int w_token, .int w_value, .ref h_now, .ref h_draft, x_tried, x_past, .int w_acts, x_images, x_kept, x_trace, .int v_traced, x_comes, x_standing, x_brought, x_habit, .int v_livedMany])), (h_draft, .inl (cy 0, 124, .inl w_draft)), (h_tape, .inl (cy 0, 60, .inl v_tape)), (h_now, .inl (cy 0, 124, .inl w_now))] → va_S A s.heap H locs → lv_has ls 2 [(0, .ref h_this)] → wjX12_village_121 v_tape post w_taped w_faultKind w_faultPlace w_at w_start w_token w_value w_acts w_draft w_now → W p l e rmX12_village s m args below meth c H locs 0 0 Q (F0 m 121 ls []) := by
    intro w_taped w_faultKind w_faultPlace w_at w_start w_token w_value w_acts w_draft w_now H locs ls  hP hD hS hl hF
    unfold wjX12_village_121 at hF
    refine lv_aload_n hx hb dX12_village_121 rfl (lv_at hl 0 rfl) ?_
    refine cV_r (As := []) C mfX12_isWell t5_33 ts_21 t5_31 (ccX12_isWell l D cy h_this x_lane x_many x_items x_spare (.ref h_tape) (.ref h_now) (.ref h_draft) x_tried x_past x_images x_kept x_trace x_comes x_standing x_brought x_habit v_status w_taped w_faultKind w_faultPlace w_at w_start w_token w_value w_acts v_traced v_livedMany _ hF) rfl rfl (hP.sub [0] rfl) PR.np hP 0 11 rfl rfl rfl rfl hl.1 rfl (Nat.le_of_ble_eq_true rfl) dX12_village_122 ⟨Nat.le_of_ble_eq_true rfl, Nat.le_of_ble_eq_true rfl⟩ ⟨Nat.le_of_ble_eq_true rfl, Nat.le_of_ble_eq_true rfl⟩ ?_
    intro r1 hF
    refine W.eq (g2 := F0 m 125 ls [.int (bz r1)]) rfl ?_
    refine lv_if_eq (tgt := 142) hx hb dX12_village_125 (by decide) (fun c_ => ?_) (fun c_ => ?_)
    · have hF := hF.1 ((bz_0 _).mp c_)
      exact J_142 w_taped w_faultKind w_faultPlace w_at w_start w_token w_value w_acts w_draft w_now _ _ ls  hP hD hS (lv_sub hl [0] rfl) hF
    · have hF := hF.2 ((bz_1 _).mp c_)
      refine lv_aload_n hx hb dX12_village_128 rfl (lv_at hl 0 rfl) ?_
      refine va_get (D := D) (ci := 11) (v := .int w_token) (C := RX12) (T := TX12) (N := 27) hx hb hts inTX12 hown hK.1 hP 0 rfl rfl 11 (by decide) (hts _ t4_135) (fun _ h9 => h9) rfl dX12_village_129 ?_
      refine lv_if_eq (tgt := 142) hx hb dX12_village_132 (by decide) (fun c_ => ?_) (fun c_ => ?_)
      · have hF := hF.1 c_
        exact J_142 w_taped w_faultKind w_faultPlace w_at w_start w_token w_value w_acts w_draft w_now _ _ ls  hP hD hS (lv_sub hl [0] rfl) hF
      · have hF := hF.2 c_
        refine lv_aload_n hx hb dX12_village_135 rfl (lv_at hl 0 rfl) ?_
        refine lv_iconst (v := 0) hx hb dX12_village_136 (by decide) ?_
        refine lv_iconst (v := 1) hx hb dX12_village_137 (by decide) ?_
        refine cV_t (As := [.int (bz false), .int 1]) (wr := [(h_draft, .inl (cy 0, 124, .inl w_draft)), (h_now, .inl (cy 0, 124, .inl w_now))]) C hA hP hD hS mfX12_takes t5_29 ts_20 t5_27 (ccX12_takes l D cy h_this h_tape x_lane x_many x_items x_spare (.ref h_now) (.ref h_draft) x_tried x_past x_images x_kept x_trace x_comes x_standing x_brought x_habit v_status w_taped w_faultKind w_faultPlace w_at w_start w_token w_value w_acts v_traced v_livedMany v_tape false 1 _ hF) [0, 2] [1, 3] rfl rfl (by decide) (by decide) (by decide) PO.np 0 11 rfl rfl rfl rfl hl.1 rfl (Nat.le_of_ble_eq_true rfl) dX12_village_138 ⟨Nat.le_of_ble_eq_true rfl, Nat.le_of_ble_eq_true rfl⟩ ⟨Nat.le_of_ble_eq_true rfl, Nat.le_of_ble_eq_true rfl⟩ ?_
        rintro r2 w1 H locs ⟨u3_faultKind, u4_faultPlace, u5_at, u6_start, u7_token, u8_value, rfl, hF⟩ hP hD hS
        have hP : va_P D CL [(h_draft, .inl (cy 0, 124, .inl w_draft)), (h_now, .inl (cy 0, 124, .inl w_now)), (h_this, .inr (11, [x_lane, x_many, x_items, x_spare, .int v_status, .ref h_tape, .int w_taped, .int u3_faultKind, .int u4_faultPlace, .int u5_at, .int u6_start, .int u7_token, .int u8_value, .ref h_now, .ref h_draft, x_tried, x_past, .int w_acts, x_images, x_kept, x_trace, .int v_traced, x_comes, x_standing, x_brought, x_habit, .int v_livedMany])), (h_tape, .inl (cy 0, 60, .inl v_tape))] H := hP
        have hD : va_D A [(h_draft, .inl (cy 0, 124, .inl w_draft)), (h_now, .inl (cy 0, 124, .inl w_now)), (h_this, .inr (11, [x_lane, x_many, x_items, x_spare, .int v_status, .ref h_tape, .int w_taped, .int u3_faultKind, .int u4_faultPlace, .int u5_at, .int u6_start, .int u7_token, .int u8_value, .ref h_now, .ref h_draft, x_tried, x_past, .int w_acts, x_images, x_kept, x_trace, .int v_traced, x_comes, x_standing, x_brought, x_habit, .int v_livedMany])), (h_tape, .inl (cy 0, 60, .inl v_tape))] := hD
        refine W.eq (g2 := F0 m 141 ls [.int r2]) rfl ?_
        refine lv_pop hx hb dX12_village_141 rfl ?_
        exact J_142 w_taped u3_faultKind u4_faultPlace u5_at u6_start u7_token u8_value w_acts w_draft w_now _ _ ls  (hP.sub [2, 0, 3, 1] rfl) (hD.sub [2, 0, 3, 1] (by decide) rfl) hS (lv_sub hl [0] rfl) hF
  have L_89 : ∀ (n_89 : Nat) (w_taped : Int32) (w_faultKind : Int32) (w_faultPlace : Int32) (w_at : Int32) (w_start : Int32) (w_token : Int32) (w_value : Int32) (w_acts : Int32) (w_draft : Nat → Int32) (w_now : Nat → Int32) (H : Heap) (locs : List Loc) (ls : Array Slot), va_P D CL [(h_this, .inr (11, [x_lane, x_many, x_items, x_spare, .int v_status, .ref h_tape, .int w_taped, .int w_faultKind, .int w_faultPlace, .int w_at, .int w_start, .int w_token, .int w_value, .ref h_now, .ref h_draft, x_tried, x_past, .int w_acts, x_images, x_kept, x_trace, .int v_traced, x_comes, x_standing, x_brought, x_habit, .int v_livedMany])), (h_draft, .inl (cy 0, 124, .inl w_draft)), (h_tape, .inl (cy 0, 60, .inl v_tape)), (h_now, .inl (cy 0, 124, .inl w_now))] H → va_D A [(h_this, .inr (11, [x_lane, x_many, x_items, x_spare, .int v_status, .ref h_tape, .int w_taped, .int w_faultKind, .int w_faultPlace, .int w_at, .int w_start, .int w_token, .int w_value, .ref h_now, .ref h_draft, x_tried, x_past, .int w_acts, x_images, x_kept, x_trace, .int v_traced, x_comes, x_standing, x_brought, x_habit, .int v_livedMany])), (h_draft, .inl (cy 0, 124, .inl w_draft)), (h_tape, .inl (cy 0, 60, .inl v_tape)), (h_now, .inl (cy 0, 124, .inl w_now))] → va_S A s.heap H locs → lv_has ls 2 [(0, .ref h_this)] → wlX12_village_89 v_tape post n_89 w_taped w_faultKind w_faultPlace w_at w_start w_token w_value w_acts w_draft w_now → W p l e rmX12_village s m args below meth c H locs 0 0 Q (F0 m 89 ls []) := by
    intro n_89
    induction n_89 with
    | zero =>
      intro w_taped w_faultKind w_faultPlace w_at w_start w_token w_value w_acts w_draft w_now H locs ls  hP hD hS hl hF
      simp only [wlX12_village_89] at hF
    | succ n_89 ih_89 =>
      intro w_taped w_faultKind w_faultPlace w_at w_start w_token w_value w_acts w_draft w_now H locs ls  hP hD hS hl hF
      unfold wlX12_village_89 at hF
      refine lv_aload_n hx hb dX12_village_89 rfl (lv_at hl 0 rfl) ?_
      refine cV_r (As := []) C mfX12_isWell t5_33 ts_21 t5_31 (ccX12_isWell l D cy h_this x_lane x_many x_items x_spare (.ref h_tape) (.ref h_now) (.ref h_draft) x_tried x_past x_images x_kept x_trace x_comes x_standing x_brought x_habit v_status w_taped w_faultKind w_faultPlace w_at w_start w_token w_value w_acts v_traced v_livedMany _ hF) rfl rfl (hP.sub [0] rfl) PR.np hP 0 11 rfl rfl rfl rfl hl.1 rfl (Nat.le_of_ble_eq_true rfl) dX12_village_90 ⟨Nat.le_of_ble_eq_true rfl, Nat.le_of_ble_eq_true rfl⟩ ⟨Nat.le_of_ble_eq_true rfl, Nat.le_of_ble_eq_true rfl⟩ ?_
      intro r1 hF
      refine W.eq (g2 := F0 m 93 ls [.int (bz r1)]) rfl ?_
      refine lv_if_eq (tgt := 121) hx hb dX12_village_93 (by decide) (fun c_ => ?_) (fun c_ => ?_)
      · have hF := hF.1 ((bz_0 _).mp c_)
        exact J_121 w_taped w_faultKind w_faultPlace w_at w_start w_token w_value w_acts w_draft w_now _ _ ls  hP hD hS (lv_sub hl [0] rfl) hF
      · have hF := hF.2 ((bz_1 _).mp c_)
        refine lv_aload_n hx hb dX12_village_96 rfl (lv_at hl 0 rfl) ?_
        refine va_get (D := D) (ci := 11) (v := .int w_token) (C := RX12) (T := TX12) (N := 27) hx hb hts inTX12 hown hK.1 hP 0 rfl rfl 11 (by decide) (hts _ t4_135) (fun _ h9 => h9) rfl dX12_village_97 ?_
        refine lv_iconst (v := 1) hx hb dX12_village_100 (by decide) ?_
        refine lv_icmp_ne (tgt := 121) hx hb dX12_village_101 (by decide) (fun c_ => ?_) (fun c_ => ?_)
        · have hF := hF.1 c_
          exact J_121 w_taped w_faultKind w_faultPlace w_at w_start w_token w_value w_acts w_draft w_now _ _ ls  hP hD hS (lv_sub hl [0] rfl) hF
        · have hF := hF.2 c_
          refine lv_aload_n hx hb dX12_village_104 rfl (lv_at hl 0 rfl) ?_
          refine va_get (D := D) (ci := 11) (v := .int w_value) (C := RX12) (T := TX12) (N := 27) hx hb hts inTX12 hown hK.1 hP 0 rfl rfl 12 (by decide) (hts _ t4_136) (fun _ h9 => h9) rfl dX12_village_105 ?_
          refine cS_r (As := [.int w_value]) C mfX12_kindOf t5_36 t5_35 (ccX12_kindOf l D cy w_value _ hF) rfl rfl (hP.sub [] rfl) PR.np rfl hl.1 rfl (Nat.le_of_ble_eq_true rfl) dX12_village_108 ⟨Nat.le_of_ble_eq_true rfl, Nat.le_of_ble_eq_true rfl⟩ ⟨Nat.le_of_ble_eq_true rfl, Nat.le_of_ble_eq_true rfl⟩ ?_
          intro r2 hF
          refine W.eq (g2 := F0 m 111 ls [.int r2]) rfl ?_
          refine lv_if_le (tgt := 121) hx hb dX12_village_111 (by decide) (fun c_ => ?_) (fun c_ => ?_)
          · have hF := hF.1 c_
            exact J_121 w_taped w_faultKind w_faultPlace w_at w_start w_token w_value w_acts w_draft w_now _ _ ls  hP hD hS (lv_sub hl [0] rfl) hF
          · have hF := hF.2 c_
            refine lv_aload_n hx hb dX12_village_114 rfl (lv_at hl 0 rfl) ?_
            refine cV_t (As := []) (wr := [(h_now, .inl (cy 0, 124, .inl w_now))]) C hA hP hD hS mfX12_readsPerson t5_40 ts_22 t5_38 (ccX12_readsPerson l D cy h_this h_draft h_tape x_lane x_many x_items x_spare (.ref h_now) x_tried x_past x_images x_kept x_trace x_comes x_standing x_brought x_habit v_status w_taped w_faultKind w_faultPlace w_at w_start w_token w_value w_acts v_traced v_livedMany w_draft v_tape _ hF) [0, 1, 2] [3] rfl rfl (by decide) (by decide) (by decide) PO.np 0 11 rfl rfl rfl rfl hl.1 rfl (Nat.le_of_ble_eq_true rfl) dX12_village_115 ⟨Nat.le_of_ble_eq_true rfl, Nat.le_of_ble_eq_true rfl⟩ ⟨Nat.le_of_ble_eq_true rfl, Nat.le_of_ble_eq_true rfl⟩ ?_
            rintro ⟨⟩ w1 H locs ⟨u4_faultKind, u5_faultPlace, u6_at, u7_start, u8_token, u9_value, u10_draft, rfl, hF⟩ hP hD hS
            have hP : va_P D CL [(h_now, .inl (cy 0, 124, .inl w_now)), (h_this, .inr (11, [x_lane, x_many, x_items, x_spare, .int v_status, .ref h_tape, .int w_taped, .int u4_faultKind, .int u5_faultPlace, .int u6_at, .int u7_start, .int u8_token, .int u9_value, .ref h_now, .ref h_draft, x_tried, x_past, .int w_acts, x_images, x_kept, x_trace, .int v_traced, x_comes, x_standing, x_brought, x_habit, .int v_livedMany])), (h_draft, .inl (cy 0, 124, .inl u10_draft)), (h_tape, .inl (cy 0, 60, .inl v_tape))] H := hP
            have hD : va_D A [(h_now, .inl (cy 0, 124, .inl w_now)), (h_this, .inr (11, [x_lane, x_many, x_items, x_spare, .int v_status, .ref h_tape, .int w_taped, .int u4_faultKind, .int u5_faultPlace, .int u6_at, .int u7_start, .int u8_token, .int u9_value, .ref h_now, .ref h_draft, x_tried, x_past, .int w_acts, x_images, x_kept, x_trace, .int v_traced, x_comes, x_standing, x_brought, x_habit, .int v_livedMany])), (h_draft, .inl (cy 0, 124, .inl u10_draft)), (h_tape, .inl (cy 0, 60, .inl v_tape))] := hD
            refine W.eq (g2 := F0 m 118 ls []) rfl ?_
            refine lv_goto (tgt := 89) hx hb dX12_village_118 (by decide) ?_
            exact ih_89 w_taped u4_faultKind u5_faultPlace u6_at u7_start u8_token u9_value w_acts u10_draft w_now _ _ ls  (hP.sub [1, 2, 3, 0] rfl) (hD.sub [1, 2, 3, 0] (by decide) rfl) hS (lv_sub hl [0] rfl) hF
  have J_84 : ∀ (k0 : Bool) (w_taped : Int32) (w_faultKind : Int32) (w_faultPlace : Int32) (w_at : Int32) (w_start : Int32) (w_token : Int32) (w_value : Int32) (w_acts : Int32) (w_draft : Nat → Int32) (w_now : Nat → Int32) (H : Heap) (locs : List Loc) (ls : Array Slot), va_P D CL [(h_this, .inr (11, [x_lane, x_many, x_items, x_spare, .int v_status, .ref h_tape, .int w_taped, .int w_faultKind, .int w_faultPlace, .int w_at, .int w_start, .int w_token, .int w_value, .ref h_now, .ref h_draft, x_tried, x_past, .int w_acts, x_images, x_kept, x_trace, .int v_traced, x_comes, x_standing, x_brought, x_habit, .int v_livedMany])), (h_draft, .inl (cy 0, 124, .inl w_draft)), (h_tape, .inl (cy 0, 60, .inl v_tape)), (h_now, .inl (cy 0, 124, .inl w_now))] H → va_D A [(h_this, .inr (11, [x_lane, x_many, x_items, x_spare, .int v_status, .ref h_tape, .int w_taped, .int w_faultKind, .int w_faultPlace, .int w_at, .int w_start, .int w_token, .int w_value, .ref h_now, .ref h_draft, x_tried, x_past, .int w_acts, x_images, x_kept, x_trace, .int v_traced, x_comes, x_standing, x_brought, x_habit, .int v_livedMany])), (h_draft, .inl (cy 0, 124, .inl w_draft)), (h_tape, .inl (cy 0, 60, .inl v_tape)), (h_now, .inl (cy 0, 124, .inl w_now))] → va_S A s.heap H locs → lv_has ls 2 [(0, .ref h_this)] → wjX12_village_84 v_tape post k0 w_taped w_faultKind w_faultPlace w_at w_start w_token w_value w_acts w_draft w_now → W p l e rmX12_village s m args below meth c H locs 0 0 Q (F0 m 84 ls [.int (bz k0), .ref h_this]) := by
    intro k0 w_taped w_faultKind w_faultPlace w_at w_start w_token w_value w_acts w_draft w_now H locs ls  hP hD hS hl hF
    unfold wjX12_village_84 at hF
    refine lv_iconst (v := 1) hx hb dX12_village_84 (by decide) ?_
    refine cV_t (As := [.int (bz k0), .int 1]) (wr := [(h_draft, .inl (cy 0, 124, .inl w_draft)), (h_now, .inl (cy 0, 124, .inl w_now))]) C hA hP hD hS mfX12_takes t5_29 ts_20 t5_27 (ccX12_takes l D cy h_this h_tape x_lane x_many x_items x_spare (.ref h_now) (.ref h_draft) x_tried x_past x_images x_kept x_trace x_comes x_standing x_brought x_habit v_status w_taped w_faultKind w_faultPlace w_at w_start w_token w_value w_acts v_traced v_livedMany v_tape k0 1 _ hF) [0, 2] [1, 3] rfl rfl (by decide) (by decide) (by decide) PO.np 0 11 rfl rfl rfl rfl hl.1 rfl (Nat.le_of_ble_eq_true rfl) dX12_village_85 ⟨Nat.le_of_ble_eq_true rfl, Nat.le_of_ble_eq_true rfl⟩ ⟨Nat.le_of_ble_eq_true rfl, Nat.le_of_ble_eq_true rfl⟩ ?_
    rintro r1 w1 H locs ⟨u2_faultKind, u3_faultPlace, u4_at, u5_start, u6_token, u7_value, rfl, hF⟩ hP hD hS
    have hP : va_P D CL [(h_draft, .inl (cy 0, 124, .inl w_draft)), (h_now, .inl (cy 0, 124, .inl w_now)), (h_this, .inr (11, [x_lane, x_many, x_items, x_spare, .int v_status, .ref h_tape, .int w_taped, .int u2_faultKind, .int u3_faultPlace, .int u4_at, .int u5_start, .int u6_token, .int u7_value, .ref h_now, .ref h_draft, x_tried, x_past, .int w_acts, x_images, x_kept, x_trace, .int v_traced, x_comes, x_standing, x_brought, x_habit, .int v_livedMany])), (h_tape, .inl (cy 0, 60, .inl v_tape))] H := hP
    have hD : va_D A [(h_draft, .inl (cy 0, 124, .inl w_draft)), (h_now, .inl (cy 0, 124, .inl w_now)), (h_this, .inr (11, [x_lane, x_many, x_items, x_spare, .int v_status, .ref h_tape, .int w_taped, .int u2_faultKind, .int u3_faultPlace, .int u4_at, .int u5_start, .int u6_token, .int u7_value, .ref h_now, .ref h_draft, x_tried, x_past, .int w_acts, x_images, x_kept, x_trace, .int v_traced, x_comes, x_standing, x_brought, x_habit, .int v_livedMany])), (h_tape, .inl (cy 0, 60, .inl v_tape))] := hD
    refine W.eq (g2 := F0 m 88 ls [.int r1]) rfl ?_
    refine lv_pop hx hb dX12_village_88 rfl ?_
    exact L_89 fu w_taped u2_faultKind u3_faultPlace u4_at u5_start u6_token u7_value w_acts w_draft w_now _ _ ls  (hP.sub [2, 0, 3, 1] rfl) (hD.sub [2, 0, 3, 1] (by decide) rfl) hS (lv_sub hl [0] rfl) hF
  have J_65 : ∀ (k0 : Bool) (w_taped : Int32) (w_faultKind : Int32) (w_faultPlace : Int32) (w_at : Int32) (w_start : Int32) (w_token : Int32) (w_value : Int32) (w_acts : Int32) (w_draft : Nat → Int32) (w_now : Nat → Int32) (H : Heap) (locs : List Loc) (ls : Array Slot), va_P D CL [(h_this, .inr (11, [x_lane, x_many, x_items, x_spare, .int v_status, .ref h_tape, .int w_taped, .int w_faultKind, .int w_faultPlace, .int w_at, .int w_start, .int w_token, .int w_value, .ref h_now, .ref h_draft, x_tried, x_past, .int w_acts, x_images, x_kept, x_trace, .int v_traced, x_comes, x_standing, x_brought, x_habit, .int v_livedMany])), (h_draft, .inl (cy 0, 124, .inl w_draft)), (h_tape, .inl (cy 0, 60, .inl v_tape)), (h_now, .inl (cy 0, 124, .inl w_now))] H → va_D A [(h_this, .inr (11, [x_lane, x_many, x_items, x_spare, .int v_status, .ref h_tape, .int w_taped, .int w_faultKind, .int w_faultPlace, .int w_at, .int w_start, .int w_token, .int w_value, .ref h_now, .ref h_draft, x_tried, x_past, .int w_acts, x_images, x_kept, x_trace, .int v_traced, x_comes, x_standing, x_brought, x_habit, .int v_livedMany])), (h_draft, .inl (cy 0, 124, .inl w_draft)), (h_tape, .inl (cy 0, 60, .inl v_tape)), (h_now, .inl (cy 0, 124, .inl w_now))] → va_S A s.heap H locs → lv_has ls 2 [(0, .ref h_this)] → wjX12_village_65 v_tape post k0 w_taped w_faultKind w_faultPlace w_at w_start w_token w_value w_acts w_draft w_now → W p l e rmX12_village s m args below meth c H locs 0 0 Q (F0 m 65 ls [.int (bz k0), .ref h_this]) := by
    intro k0 w_taped w_faultKind w_faultPlace w_at w_start w_token w_value w_acts w_draft w_now H locs ls  hP hD hS hl hF
    unfold wjX12_village_65 at hF
    refine lv_iconst (v := 1) hx hb dX12_village_65 (by decide) ?_
    refine cV_t (As := [.int (bz k0), .int 1]) (wr := [(h_draft, .inl (cy 0, 124, .inl w_draft)), (h_now, .inl (cy 0, 124, .inl w_now))]) C hA hP hD hS mfX12_takes t5_29 ts_20 t5_27 (ccX12_takes l D cy h_this h_tape x_lane x_many x_items x_spare (.ref h_now) (.ref h_draft) x_tried x_past x_images x_kept x_trace x_comes x_standing x_brought x_habit v_status w_taped w_faultKind w_faultPlace w_at w_start w_token w_value w_acts v_traced v_livedMany v_tape k0 1 _ hF) [0, 2] [1, 3] rfl rfl (by decide) (by decide) (by decide) PO.np 0 11 rfl rfl rfl rfl hl.1 rfl (Nat.le_of_ble_eq_true rfl) dX12_village_66 ⟨Nat.le_of_ble_eq_true rfl, Nat.le_of_ble_eq_true rfl⟩ ⟨Nat.le_of_ble_eq_true rfl, Nat.le_of_ble_eq_true rfl⟩ ?_
    rintro r1 w1 H locs ⟨u2_faultKind, u3_faultPlace, u4_at, u5_start, u6_token, u7_value, rfl, hF⟩ hP hD hS
    have hP : va_P D CL [(h_draft, .inl (cy 0, 124, .inl w_draft)), (h_now, .inl (cy 0, 124, .inl w_now)), (h_this, .inr (11, [x_lane, x_many, x_items, x_spare, .int v_status, .ref h_tape, .int w_taped, .int u2_faultKind, .int u3_faultPlace, .int u4_at, .int u5_start, .int u6_token, .int u7_value, .ref h_now, .ref h_draft, x_tried, x_past, .int w_acts, x_images, x_kept, x_trace, .int v_traced, x_comes, x_standing, x_brought, x_habit, .int v_livedMany])), (h_tape, .inl (cy 0, 60, .inl v_tape))] H := hP
    have hD : va_D A [(h_draft, .inl (cy 0, 124, .inl w_draft)), (h_now, .inl (cy 0, 124, .inl w_now)), (h_this, .inr (11, [x_lane, x_many, x_items, x_spare, .int v_status, .ref h_tape, .int w_taped, .int u2_faultKind, .int u3_faultPlace, .int u4_at, .int u5_start, .int u6_token, .int u7_value, .ref h_now, .ref h_draft, x_tried, x_past, .int w_acts, x_images, x_kept, x_trace, .int v_traced, x_comes, x_standing, x_brought, x_habit, .int v_livedMany])), (h_tape, .inl (cy 0, 60, .inl v_tape))] := hD
    refine W.eq (g2 := F0 m 69 ls [.int r1]) rfl ?_
    refine lv_pop hx hb dX12_village_69 rfl ?_
    refine lv_aload_n hx hb dX12_village_70 rfl (lv_at hl 0 rfl) ?_
    refine lv_aload_n hx hb dX12_village_71 rfl (lv_at hl 0 rfl) ?_
    refine va_get (D := D) (ci := 11) (v := .int u6_token) (C := RX12) (T := TX12) (N := 27) hx hb hts inTX12 hown hK.1 hP 2 rfl rfl 11 (by decide) (hts _ t4_135) (fun _ h9 => h9) rfl dX12_village_72 ?_
    refine lv_iconst (v := 4) hx hb dX12_village_75 (by decide) ?_
    refine lv_icmp_ne (tgt := 83) hx hb dX12_village_76 (by decide) (fun c_ => ?_) (fun c_ => ?_)
    · have hF := hF.1 c_
      refine lv_iconst (v := 0) hx hb dX12_village_83 (by decide) ?_
      exact J_84 false w_taped u2_faultKind u3_faultPlace u4_at u5_start u6_token u7_value w_acts w_draft w_now _ _ ls  (hP.sub [2, 0, 3, 1] rfl) (hD.sub [2, 0, 3, 1] (by decide) rfl) hS (lv_sub hl [0] rfl) hF
    · have hF := hF.2 c_
      refine lv_iconst (v := 1) hx hb dX12_village_79 (by decide) ?_
      refine lv_goto (tgt := 84) hx hb dX12_village_80 (by decide) ?_
      exact J_84 true w_taped u2_faultKind u3_faultPlace u4_at u5_start u6_token u7_value w_acts w_draft w_now _ _ ls  (hP.sub [2, 0, 3, 1] rfl) (hD.sub [2, 0, 3, 1] (by decide) rfl) hS (lv_sub hl [0] rfl) hF
  have J_64 : ∀ (w_taped : Int32) (w_faultKind : Int32) (w_faultPlace : Int32) (w_at : Int32) (w_start : Int32) (w_token : Int32) (w_value : Int32) (w_acts : Int32) (w_draft : Nat → Int32) (w_now : Nat → Int32) (H : Heap) (locs : List Loc) (ls : Array Slot), va_P D CL [(h_this, .inr (11, [x_lane, x_many, x_items, x_spare, .int v_status, .ref h_tape, .int w_taped, .int w_faultKind, .int w_faultPlace, .int w_at, .int w_start, .int w_token, .int w_value, .ref h_now, .ref h_draft, x_tried, x_past, .int w_acts, x_images, x_kept, x_trace, .int v_traced, x_comes, x_standing, x_brought, x_habit, .int v_livedMany])), (h_draft, .inl (cy 0, 124, .inl w_draft)), (h_tape, .inl (cy 0, 60, .inl v_tape)), (h_now, .inl (cy 0, 124, .inl w_now))] H → va_D A [(h_this, .inr (11, [x_lane, x_many, x_items, x_spare, .int v_status, .ref h_tape, .int w_taped, .int w_faultKind, .int w_faultPlace, .int w_at, .int w_start, .int w_token, .int w_value, .ref h_now, .ref h_draft, x_tried, x_past, .int w_acts, x_images, x_kept, x_trace, .int v_traced, x_comes, x_standing, x_brought, x_habit, .int v_livedMany])), (h_draft, .inl (cy 0, 124, .inl w_draft)), (h_tape, .inl (cy 0, 60, .inl v_tape)), (h_now, .inl (cy 0, 124, .inl w_now))] → va_S A s.heap H locs → lv_has ls 2 [(0, .ref h_this)] → wjX12_village_64 v_tape post w_taped w_faultKind w_faultPlace w_at w_start w_token w_value w_acts w_draft w_now → W p l e rmX12_village s m args below meth c H locs 0 0 Q (F0 m 64 ls [.ref h_this]) := by
    intro w_taped w_faultKind w_faultPlace w_at w_start w_token w_value w_acts w_draft w_now H locs ls  hP hD hS hl hF
    unfold wjX12_village_64 at hF
    refine lv_iconst (v := 0) hx hb dX12_village_64 (by decide) ?_
    exact J_65 false w_taped w_faultKind w_faultPlace w_at w_start w_token w_value w_acts w_draft w_now _ _ ls  hP hD hS (lv_sub hl [0] rfl) hF
  have L_2 : ∀ (n_2 : Nat) (l1 : Int32) (w_taped : Int32) (w_faultKind : Int32) (w_faultPlace : Int32) (w_at : Int32) (w_start : Int32) (w_token : Int32) (w_value : Int32) (w_acts : Int32) (w_draft : Nat → Int32) (w_now : Nat → Int32) (H : Heap) (locs : List Loc) (ls : Array Slot), va_P D CL [(h_this, .inr (11, [x_lane, x_many, x_items, x_spare, .int v_status, .ref h_tape, .int w_taped, .int w_faultKind, .int w_faultPlace, .int w_at, .int w_start, .int w_token, .int w_value, .ref h_now, .ref h_draft, x_tried, x_past, .int w_acts, x_images, x_kept, x_trace, .int v_traced, x_comes, x_standing, x_brought, x_habit, .int v_livedMany])), (h_draft, .inl (cy 0, 124, .inl w_draft)), (h_tape, .inl (cy 0, 60, .inl v_tape)), (h_now, .inl (cy 0, 124, .inl w_now))] H → va_D A [(h_this, .inr (11, [x_lane, x_many, x_items, x_spare, .int v_status, .ref h_tape, .int w_taped, .int w_faultKind, .int w_faultPlace, .int w_at, .int w_start, .int w_token, .int w_value, .ref h_now, .ref h_draft, x_tried, x_past, .int w_acts, x_images, x_kept, x_trace, .int v_traced, x_comes, x_standing, x_brought, x_habit, .int v_livedMany])), (h_draft, .inl (cy 0, 124, .inl w_draft)), (h_tape, .inl (cy 0, 60, .inl v_tape)), (h_now, .inl (cy 0, 124, .inl w_now))] → va_S A s.heap H locs → lv_has ls 2 [(0, .ref h_this), (1, .int l1)] → wlX12_village_2 v_tape post n_2 l1 w_taped w_faultKind w_faultPlace w_at w_start w_token w_value w_acts w_draft w_now → W p l e rmX12_village s m args below meth c H locs 0 0 Q (F0 m 2 ls []) := by
    intro n_2
    induction n_2 with
    | zero =>
      intro l1 w_taped w_faultKind w_faultPlace w_at w_start w_token w_value w_acts w_draft w_now H locs ls  hP hD hS hl hF
      simp only [wlX12_village_2] at hF
    | succ n_2 ih_2 =>
      intro l1 w_taped w_faultKind w_faultPlace w_at w_start w_token w_value w_acts w_draft w_now H locs ls  hP hD hS hl hF
      unfold wlX12_village_2 at hF
      refine lv_iload_n hx hb dX12_village_2 rfl (lv_at hl 1 rfl) ?_
      refine lv_bipush (v := 124) hx hb dX12_village_3 (by decide) ?_
      refine lv_icmp_ge (tgt := 21) hx hb dX12_village_5 (by decide) (fun c_ => ?_) (fun c_ => ?_)
      · have hF := hF.1 c_
        refine lv_aload_n hx hb dX12_village_21 rfl (lv_at hl 0 rfl) ?_
        refine va_get (D := D) (ci := 11) (v := .ref h_draft) (C := RX12) (T := TX12) (N := 27) hx hb hts inTX12 hown hK.1 hP 0 rfl rfl 14 (by decide) (hts _ t4_138) (fun _ h9 => h9) rfl dX12_village_22 ?_
        refine lv_iconst (v := 0) hx hb dX12_village_25 (by decide) ?_
        refine lv_iconst (v := 1) hx hb dX12_village_26 (by decide) ?_
        refine s_iast (j := 0) hx hb hK.1 hP hD hS 1 0 rfl rfl (vi (by decide)) (by decide) dX12_village_27 (fun H locs hP hD hS => ?_)
        have hP : va_P D CL [(h_this, .inr (11, [x_lane, x_many, x_items, x_spare, .int v_status, .ref h_tape, .int w_taped, .int w_faultKind, .int w_faultPlace, .int w_at, .int w_start, .int w_token, .int w_value, .ref h_now, .ref h_draft, x_tried, x_past, .int w_acts, x_images, x_kept, x_trace, .int v_traced, x_comes, x_standing, x_brought, x_habit, .int v_livedMany])), (h_draft, .inl (cy 0, 124, .inl (upd w_draft 0 1))), (h_tape, .inl (cy 0, 60, .inl v_tape)), (h_now, .inl (cy 0, 124, .inl w_now))] H := hP
        have hD : va_D A [(h_this, .inr (11, [x_lane, x_many, x_items, x_spare, .int v_status, .ref h_tape, .int w_taped, .int w_faultKind, .int w_faultPlace, .int w_at, .int w_start, .int w_token, .int w_value, .ref h_now, .ref h_draft, x_tried, x_past, .int w_acts, x_images, x_kept, x_trace, .int v_traced, x_comes, x_standing, x_brought, x_habit, .int v_livedMany])), (h_draft, .inl (cy 0, 124, .inl (upd w_draft 0 1))), (h_tape, .inl (cy 0, 60, .inl v_tape)), (h_now, .inl (cy 0, 124, .inl w_now))] := hD
        refine lv_aload_n hx hb dX12_village_28 rfl (lv_at hl 0 rfl) ?_
        refine lv_iconst (v := 0) hx hb dX12_village_29 (by decide) ?_
        refine va_put (D := D) (ci := 11) (v := .int 0) (ty := .int) (C := RX12) (T := TX12) (N := 27) hx hb hts inTX12 tyX12 tyX12_ok nmX12 hown hK.1 hP hD hS 0 rfl rfl 9 (by decide) (hts _ t4_133) (fun _ h9 => h9) rfl (tyX12_ok 9 (by decide)) rfl rfl (Nat.le_of_ble_eq_true rfl) dX12_village_30 (fun H locs hP hD hS => ?_)
        have hP : va_P D CL [(h_this, .inr (11, [x_lane, x_many, x_items, x_spare, .int v_status, .ref h_tape, .int w_taped, .int w_faultKind, .int w_faultPlace, .int 0, .int w_start, .int w_token, .int w_value, .ref h_now, .ref h_draft, x_tried, x_past, .int w_acts, x_images, x_kept, x_trace, .int v_traced, x_comes, x_standing, x_brought, x_habit, .int v_livedMany])), (h_draft, .inl (cy 0, 124, .inl (upd w_draft 0 1))), (h_tape, .inl (cy 0, 60, .inl v_tape)), (h_now, .inl (cy 0, 124, .inl w_now))] H := hP
        have hD : va_D A [(h_this, .inr (11, [x_lane, x_many, x_items, x_spare, .int v_status, .ref h_tape, .int w_taped, .int w_faultKind, .int w_faultPlace, .int 0, .int w_start, .int w_token, .int w_value, .ref h_now, .ref h_draft, x_tried, x_past, .int w_acts, x_images, x_kept, x_trace, .int v_traced, x_comes, x_standing, x_brought, x_habit, .int v_livedMany])), (h_draft, .inl (cy 0, 124, .inl (upd w_draft 0 1))), (h_tape, .inl (cy 0, 60, .inl v_tape)), (h_now, .inl (cy 0, 124, .inl w_now))] := hD
        refine lv_aload_n hx hb dX12_village_33 rfl (lv_at hl 0 rfl) ?_
        refine lv_iconst (v := (-1)) hx hb dX12_village_34 (by decide) ?_
        refine va_put (D := D) (ci := 11) (v := .int (-1)) (ty := .int) (C := RX12) (T := TX12) (N := 27) hx hb hts inTX12 tyX12 tyX12_ok nmX12 hown hK.1 hP hD hS 0 rfl rfl 8 (by decide) (hts _ t4_132) (fun _ h9 => h9) rfl (tyX12_ok 8 (by decide)) rfl rfl (Nat.le_of_ble_eq_true rfl) dX12_village_35 (fun H locs hP hD hS => ?_)
        have hP : va_P D CL [(h_this, .inr (11, [x_lane, x_many, x_items, x_spare, .int v_status, .ref h_tape, .int w_taped, .int w_faultKind, .int (-1), .int 0, .int w_start, .int w_token, .int w_value, .ref h_now, .ref h_draft, x_tried, x_past, .int w_acts, x_images, x_kept, x_trace, .int v_traced, x_comes, x_standing, x_brought, x_habit, .int v_livedMany])), (h_draft, .inl (cy 0, 124, .inl (upd w_draft 0 1))), (h_tape, .inl (cy 0, 60, .inl v_tape)), (h_now, .inl (cy 0, 124, .inl w_now))] H := hP
        have hD : va_D A [(h_this, .inr (11, [x_lane, x_many, x_items, x_spare, .int v_status, .ref h_tape, .int w_taped, .int w_faultKind, .int (-1), .int 0, .int w_start, .int w_token, .int w_value, .ref h_now, .ref h_draft, x_tried, x_past, .int w_acts, x_images, x_kept, x_trace, .int v_traced, x_comes, x_standing, x_brought, x_habit, .int v_livedMany])), (h_draft, .inl (cy 0, 124, .inl (upd w_draft 0 1))), (h_tape, .inl (cy 0, 60, .inl v_tape)), (h_now, .inl (cy 0, 124, .inl w_now))] := hD
        refine lv_aload_n hx hb dX12_village_38 rfl (lv_at hl 0 rfl) ?_
        refine cV_t (As := []) (wr := [(h_draft, .inl (cy 0, 124, .inl (upd w_draft 0 1))), (h_now, .inl (cy 0, 124, .inl w_now))]) C hA hP hD hS mfX12_advances t5_21 ts_18 t5_19 (ccX12_advances l D cy h_this h_tape x_lane x_many x_items x_spare (.ref h_now) (.ref h_draft) x_tried x_past x_images x_kept x_trace x_comes x_standing x_brought x_habit v_status w_taped w_faultKind (-1) 0 w_start w_token w_value w_acts v_traced v_livedMany v_tape _ hF) [0, 2] [1, 3] rfl rfl (by decide) (by decide) (by decide) PO.np 0 11 rfl rfl rfl rfl hl.1 rfl (Nat.le_of_ble_eq_true rfl) dX12_village_39 ⟨Nat.le_of_ble_eq_true rfl, Nat.le_of_ble_eq_true rfl⟩ ⟨Nat.le_of_ble_eq_true rfl, Nat.le_of_ble_eq_true rfl⟩ ?_
        rintro ⟨⟩ w1 H locs ⟨u2_at, u3_start, u4_token, u5_value, rfl, hF⟩ hP hD hS
        have hP : va_P D CL [(h_draft, .inl (cy 0, 124, .inl (upd w_draft 0 1))), (h_now, .inl (cy 0, 124, .inl w_now)), (h_this, .inr (11, [x_lane, x_many, x_items, x_spare, .int v_status, .ref h_tape, .int w_taped, .int w_faultKind, .int (-1), .int u2_at, .int u3_start, .int u4_token, .int u5_value, .ref h_now, .ref h_draft, x_tried, x_past, .int w_acts, x_images, x_kept, x_trace, .int v_traced, x_comes, x_standing, x_brought, x_habit, .int v_livedMany])), (h_tape, .inl (cy 0, 60, .inl v_tape))] H := hP
        have hD : va_D A [(h_draft, .inl (cy 0, 124, .inl (upd w_draft 0 1))), (h_now, .inl (cy 0, 124, .inl w_now)), (h_this, .inr (11, [x_lane, x_many, x_items, x_spare, .int v_status, .ref h_tape, .int w_taped, .int w_faultKind, .int (-1), .int u2_at, .int u3_start, .int u4_token, .int u5_value, .ref h_now, .ref h_draft, x_tried, x_past, .int w_acts, x_images, x_kept, x_trace, .int v_traced, x_comes, x_standing, x_brought, x_habit, .int v_livedMany])), (h_tape, .inl (cy 0, 60, .inl v_tape))] := hD
        refine W.eq (g2 := F0 m 42 ls []) rfl ?_
        refine lv_aload_n hx hb dX12_village_42 rfl (lv_at hl 0 rfl) ?_
        refine lv_aload_n hx hb dX12_village_43 rfl (lv_at hl 0 rfl) ?_
        refine va_get (D := D) (ci := 11) (v := .int u4_token) (C := RX12) (T := TX12) (N := 27) hx hb hts inTX12 hown hK.1 hP 2 rfl rfl 11 (by decide) (hts _ t4_135) (fun _ h9 => h9) rfl dX12_village_44 ?_
        refine lv_iconst (v := 1) hx hb dX12_village_47 (by decide) ?_
        refine lv_icmp_ne (tgt := 64) hx hb dX12_village_48 (by decide) (fun c_ => ?_) (fun c_ => ?_)
        · have hF := hF.1 c_
          exact J_64 w_taped w_faultKind (-1) u2_at u3_start u4_token u5_value w_acts (upd w_draft 0 1) w_now _ _ ls  (hP.sub [2, 0, 3, 1] rfl) (hD.sub [2, 0, 3, 1] (by decide) rfl) hS (lv_sub hl [0] rfl) hF
        · have hF := hF.2 c_
          refine lv_aload_n hx hb dX12_village_51 rfl (lv_at hl 0 rfl) ?_
          refine va_get (D := D) (ci := 11) (v := .int u5_value) (C := RX12) (T := TX12) (N := 27) hx hb hts inTX12 hown hK.1 hP 2 rfl rfl 12 (by decide) (hts _ t4_136) (fun _ h9 => h9) rfl dX12_village_52 ?_
          refine lv_bipush (v := 118) hx hb dX12_village_55 (by decide) ?_
          refine lv_icmp_ne (tgt := 64) hx hb dX12_village_57 (by decide) (fun c_ => ?_) (fun c_ => ?_)
          · have hF := hF.1 c_
            exact J_64 w_taped w_faultKind (-1) u2_at u3_start u4_token u5_value w_acts (upd w_draft 0 1) w_now _ _ ls  (hP.sub [2, 0, 3, 1] rfl) (hD.sub [2, 0, 3, 1] (by decide) rfl) hS (lv_sub hl [0] rfl) hF
          · have hF := hF.2 c_
            refine lv_iconst (v := 1) hx hb dX12_village_60 (by decide) ?_
            refine lv_goto (tgt := 65) hx hb dX12_village_61 (by decide) ?_
            exact J_65 true w_taped w_faultKind (-1) u2_at u3_start u4_token u5_value w_acts (upd w_draft 0 1) w_now _ _ ls  (hP.sub [2, 0, 3, 1] rfl) (hD.sub [2, 0, 3, 1] (by decide) rfl) hS (lv_sub hl [0] rfl) hF
      · have hF := hF.2 c_
        refine lv_aload_n hx hb dX12_village_8 rfl (lv_at hl 0 rfl) ?_
        refine va_get (D := D) (ci := 11) (v := .ref h_draft) (C := RX12) (T := TX12) (N := 27) hx hb hts inTX12 hown hK.1 hP 0 rfl rfl 14 (by decide) (hts _ t4_138) (fun _ h9 => h9) rfl dX12_village_9 ?_
        refine lv_iload_n hx hb dX12_village_12 rfl (lv_at hl 1 rfl) ?_
        refine lv_iconst (v := 0) hx hb dX12_village_13 (by decide) ?_
        obtain ⟨hi6, hF⟩ := hF
        refine s_iast (j := (l1).toNatClampNeg) hx hb hK.1 hP hD hS 1 0 rfl rfl hi6 rfl dX12_village_14 (fun H locs hP hD hS => ?_)
        have hP : va_P D CL [(h_this, .inr (11, [x_lane, x_many, x_items, x_spare, .int v_status, .ref h_tape, .int w_taped, .int w_faultKind, .int w_faultPlace, .int w_at, .int w_start, .int w_token, .int w_value, .ref h_now, .ref h_draft, x_tried, x_past, .int w_acts, x_images, x_kept, x_trace, .int v_traced, x_comes, x_standing, x_brought, x_habit, .int v_livedMany])), (h_draft, .inl (cy 0, 124, .inl (upd w_draft ((l1).toNatClampNeg) 0))), (h_tape, .inl (cy 0, 60, .inl v_tape)), (h_now, .inl (cy 0, 124, .inl w_now))] H := hP
        have hD : va_D A [(h_this, .inr (11, [x_lane, x_many, x_items, x_spare, .int v_status, .ref h_tape, .int w_taped, .int w_faultKind, .int w_faultPlace, .int w_at, .int w_start, .int w_token, .int w_value, .ref h_now, .ref h_draft, x_tried, x_past, .int w_acts, x_images, x_kept, x_trace, .int v_traced, x_comes, x_standing, x_brought, x_habit, .int v_livedMany])), (h_draft, .inl (cy 0, 124, .inl (upd w_draft ((l1).toNatClampNeg) 0))), (h_tape, .inl (cy 0, 60, .inl v_tape)), (h_now, .inl (cy 0, 124, .inl w_now))] := hD
        refine lv_iinc (v := (l1 + 1)) (lv' := [(1, .int (l1 + 1)), (0, .ref h_this)]) hx hb dX12_village_15 hl (k := 1) rfl rfl (by decide) rfl (fun ls hl => ?_)
        refine lv_goto (tgt := 2) hx hb dX12_village_18 (by decide) ?_
        exact ih_2 (l1 + 1) w_taped w_faultKind w_faultPlace w_at w_start w_token w_value w_acts (upd w_draft ((l1).toNatClampNeg) 0) w_now _ _ ls  hP hD hS (lv_sub hl [1, 0] rfl) hF
  unfold wpX12_village at hF
  refine lv_iconst (v := 0) hx hb dX12_village_0 (by decide) ?_
  refine lv_istore_n (lv' := [(1, .int 0), (0, .ref h_this)]) hx hb dX12_village_1 rfl hl (by decide) rfl (fun ls hl => ?_)
  exact L_2 fu 0 v_taped v_faultKind v_faultPlace v_at v_start v_token v_value v_acts v_draft v_now _ _ ls  hP hD hS (lv_sub hl [1, 0] rfl) hF

def wpX12_fault (v_faultKind : Int32) (post : Int32 → Prop) : Prop := post v_faultKind
abbrev miX12_fault : MI := (yX12_fault, cX12_fault, 1, (some .int))
theorem mfX12_fault : MF miX12_fault 0 := ⟨t5_50, t1_8, by decide +kernel⟩
abbrev rmX12_fault : Room := { frames := 0, cells := 0, slots := 0, locals := 0 }
set_option maxHeartbeats 4000000 in
set_option maxRecDepth 100000 in
theorem ccX12_fault (l : Launch) (D : va_G) (cy : Nat → ClassId) (h_this : Nat) (x_lane : Value) (x_many : Value) (x_items : Value) (x_spare : Value) (x_tape : Value) (x_now : Value) (x_draft : Value) (x_tried : Value) (x_past : Value) (x_images : Value) (x_kept : Value) (x_trace : Value) (x_comes : Value) (x_standing : Value) (x_brought : Value) (x_habit : Value) (v_status : Int32) (v_taped : Int32) (v_faultKind : Int32) (v_faultPlace : Int32) (v_at : Int32) (v_start : Int32) (v_token : Int32) (v_value : Int32) (v_acts : Int32) (v_traced : Int32) (v_livedMany : Int32) (post : Int32 → Prop) (hF : wpX12_fault v_faultKind post) : Cr l D cy miX12_fault rmX12_fault emI NP [.ref h_this] [(h_this, .inr (11, [x_lane, x_many, x_items, x_spare, .int v_status, x_tape, .int v_taped, .int v_faultKind, .int v_faultPlace, .int v_at, .int v_start, .int v_token, .int v_value, x_now, x_draft, x_tried, x_past, .int v_acts, x_images, x_kept, x_trace, .int v_traced, x_comes, x_standing, x_brought, x_habit, .int v_livedMany]))] post := by
  refine Cr.of (by decide) (Nat.le_of_ble_eq_true rfl) ?_
  intro p e s m args below meth c ls Q C hQ hO hP hl
  obtain ⟨hx, hb, hr, hml, hown, hts, hK, hlk, hnm⟩ := id C
  have hb : c.code = cX12_fault := hb
  have hml : c.maxLocals = 1 := hml
  have hown : s.vm.findClass RX12 = some m.cls := hown
  have hl : lv_has ls 1 [(0, .ref h_this)] := hl
  unfold wpX12_fault at hF
  refine lv_aload_n hx hb dX12_fault_0 rfl (lv_at hl 0 rfl) ?_
  refine va_get (D := D) (ci := 11) (v := .int v_faultKind) (C := RX12) (T := TX12) (N := 27) hx hb hts inTX12 hown hK.1 hP 0 rfl rfl 7 (by decide) (hts _ t4_131) (fun _ h9 => h9) rfl dX12_fault_1 ?_
  exact rr_i C hQ rfl hF dX12_fault_4
