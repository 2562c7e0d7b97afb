def wpX12_isVillage (v_now : Nat → Int32) (post : Bool → Prop) : Prop := (¬ (v_now 0) = 1 → (post false)) ∧ ((v_now 0) = 1 → (post true))
abbrev miX12_isVillage : MI := (yX12_isVillage, cX12_isVillage, 1, (some .boolean))
theorem mfX12_isVillage : MF miX12_isVillage 0 := ⟨t5_63, t1_8, by decide +kernel⟩
abbrev rmX12_isVillage : Room := { frames := 0, cells := 0, slots := 0, locals := 0 }
set_option maxHeartbeats 4000000 in
set_option maxRecDepth 100000 in
theorem ccX12_isVillage (l : Launch) (D : va_G) (cy : Nat → ClassId) (h_this : Nat) (h_now : Nat) (x_lane : Value) (x_many : Value) (x_items : Value) (x_spare : Value) (x_tape : Value) (x_draft : Value) (x_tried : Value) (x_past : Value) (x_images : Value) (x_kept : Value) (x_trace : Value) (x_comes : Value) (x_standing : Value) (x_brought : Value) (x_habit : Value) (v_status : Int32) (v_taped : Int32) (v_faultKind : Int32) (v_faultPlace : Int32) (v_at : Int32) (v_start : Int32) (v_token : Int32) (v_value : Int32) (v_acts : Int32) (v_traced : Int32) (v_livedMany : Int32) (v_now : Nat → Int32) (post : Bool → Prop) (hF : wpX12_isVillage v_now post) : Cr l D cy miX12_isVillage rmX12_isVillage emB NP [.ref h_this] [(h_this, .inr (11, [x_lane, x_many, x_items, x_spare, .int v_status, x_tape, .int v_taped, .int v_faultKind, .int v_faultPlace, .int v_at, .int v_start, .int v_token, .int v_value, .ref h_now, x_draft, x_tried, x_past, .int v_acts, x_images, x_kept, x_trace, .int v_traced, x_comes, x_standing, x_brought, x_habit, .int v_livedMany])), (h_now, .inl (cy 0, 124, .inl v_now))] post := by
  refine Cr.of (by decide) (Nat.le_of_ble_eq_true rfl) ?_
  intro p e s m args below meth c ls Q C hQ hO hP hl
  obtain ⟨hx, hb, hr, hml, hown, hts, hK, hlk, hnm⟩ := id C
  have hb : c.code = cX12_isVillage := hb
  have hml : c.maxLocals = 1 := hml
  have hown : s.vm.findClass RX12 = some m.cls := hown
  have hl : lv_has ls 1 [(0, .ref h_this)] := hl
  unfold wpX12_isVillage at hF
  refine lv_aload_n hx hb dX12_isVillage_0 rfl (lv_at hl 0 rfl) ?_
  refine va_get (D := D) (ci := 11) (v := .ref h_now) (C := RX12) (T := TX12) (N := 27) hx hb hts inTX12 hown hK.1 hP 0 rfl rfl 13 (by decide) (hts _ t4_137) (fun _ h9 => h9) rfl dX12_isVillage_1 ?_
  refine lv_iconst (v := 0) hx hb dX12_isVillage_4 (by decide) ?_
  refine s_iald (j := 0) hx hb hK.1 hP 1 0 rfl rfl (vi (by decide)) (by decide) dX12_isVillage_5 ?_
  refine lv_iconst (v := 1) hx hb dX12_isVillage_6 (by decide) ?_
  refine lv_icmp_ne (tgt := 14) hx hb dX12_isVillage_7 (by decide) (fun c_ => ?_) (fun c_ => ?_)
  · have hF := hF.1 c_
    refine lv_iconst (v := 0) hx hb dX12_isVillage_14 (by decide) ?_
    refine W.eq (g2 := F0 m 15 ls [.int (bz false)]) rfl ?_
    exact rr_b C hQ rfl hF dX12_isVillage_15
  · have hF := hF.2 c_
    refine lv_iconst (v := 1) hx hb dX12_isVillage_10 (by decide) ?_
    refine lv_goto (tgt := 15) hx hb dX12_isVillage_11 (by decide) ?_
    refine W.eq (g2 := F0 m 15 ls [.int (bz true)]) rfl ?_
    exact rr_b C hQ rfl hF dX12_isVillage_15

def wpX12_isPerson (p0 : Int32) (v_now : Nat → Int32) (post : Bool → Prop) : Prop := wpX12_in p0 0 ((v_now 1) - 1) (fun r1 => post r1)
abbrev miX12_isPerson : MI := (yX12_isPerson, cX12_isPerson, 2, (some .boolean))
theorem mfX12_isPerson : MF miX12_isPerson 1 := ⟨t5_91, t1_8, by decide +kernel⟩
abbrev rmX12_isPerson : Room := { frames := 1, cells := 0, slots := 0, locals := 22 }
set_option maxHeartbeats 4000000 in
set_option maxRecDepth 100000 in
theorem ccX12_isPerson (l : Launch) (D : va_G) (cy : Nat → ClassId) (h_this : Nat) (h_now : Nat) (x_lane : Value) (x_many : Value) (x_items : Value) (x_spare : Value) (x_tape : Value) (x_draft : Value) (x_tried : Value) (x_past : Value) (x_images : Value) (x_kept : Value) (x_trace : Value) (x_comes : Value) (x_standing : Value) (x_brought : Value) (x_habit : Value) (v_status : Int32) (v_taped : Int32) (v_faultKind : Int32) (v_faultPlace : Int32) (v_at : Int32) (v_start : Int32) (v_token : Int32) (v_value : Int32) (v_acts : Int32) (v_traced : Int32) (v_livedMany : Int32) (v_now : Nat → Int32) (p0 : Int32) (post : Bool → Prop) (hF : wpX12_isPerson p0 v_now post) : Cr l D cy miX12_isPerson rmX12_isPerson emB NP [.ref h_this, .int p0] [(h_this, .inr (11, [x_lane, x_many, x_items, x_spare, .int v_status, x_tape, .int v_taped, .int v_faultKind, .int v_faultPlace, .int v_at, .int v_start, .int v_token, .int v_value, .ref h_now, x_draft, x_tried, x_past, .int v_acts, x_images, x_kept, x_trace, .int v_traced, x_comes, x_standing, x_brought, x_habit, .int v_livedMany])), (h_now, .inl (cy 0, 124, .inl v_now))] post := by
  refine Cr.of (by decide) (Nat.le_of_ble_eq_true rfl) ?_
  intro p e s m args below meth c ls Q C hQ hO hP hl
  obtain ⟨hx, hb, hr, hml, hown, hts, hK, hlk, hnm⟩ := id C
  have hb : c.code = cX12_isPerson := hb
  have hml : c.maxLocals = 2 := hml
  have hown : s.vm.findClass RX12 = some m.cls := hown
  have hl : lv_has ls 2 [(0, .ref h_this), (1, .int p0)] := hl
  unfold wpX12_isPerson at hF
  refine lv_iload_n hx hb dX12_isPerson_0 rfl (lv_at hl 1 rfl) ?_
  refine lv_iconst (v := 0) hx hb dX12_isPerson_1 (by decide) ?_
  refine lv_aload_n hx hb dX12_isPerson_2 rfl (lv_at hl 0 rfl) ?_
  refine va_get (D := D) (ci := 11) (v := .ref h_now) (C := RX12) (T := TX12) (N := 27) hx hb hts inTX12 hown hK.1 hP 0 rfl rfl 13 (by decide) (hts _ t4_137) (fun _ h9 => h9) rfl dX12_isPerson_3 ?_
  refine lv_iconst (v := 1) hx hb dX12_isPerson_6 (by decide) ?_
  refine s_iald (j := 1) hx hb hK.1 hP 1 0 rfl rfl (vi (by decide)) (by decide) dX12_isPerson_7 ?_
  refine lv_iconst (v := 1) hx hb dX12_isPerson_8 (by decide) ?_
  refine lv_isub hx hb dX12_isPerson_9 ?_
  refine cS_r (As := [.int p0, .int 0, .int ((v_now 1) - 1)]) C mfX12_in t4_215 t4_214 (ccX12_in l D cy p0 0 ((v_now 1) - 1) _ hF) rfl rfl (hP.sub [] rfl) PR.np rfl hl.1 rfl (Nat.le_of_ble_eq_true rfl) dX12_isPerson_10 ⟨Nat.le_of_ble_eq_true rfl, Nat.le_of_ble_eq_true rfl⟩ ⟨Nat.le_of_ble_eq_true rfl, Nat.le_of_ble_eq_true rfl⟩ ?_
  intro r1 hF
  refine W.eq (g2 := F0 m 13 ls [.int (bz r1)]) rfl ?_
  exact rr_b C hQ rfl hF dX12_isPerson_13

def wpX12_has (p0 : Int32) (p1 : Int32) (post : Bool → Prop) : Prop := (¬ ((p0 >>> (p1 &&& 31)) &&& 1) = 1 → (post false)) ∧ (((p0 >>> (p1 &&& 31)) &&& 1) = 1 → (post true))
abbrev miX12_has : MI := (yX12_has, cX12_has, 2, (some .boolean))
theorem mfX12_has : MF miX12_has 2 := ⟨t5_94, t1_8, by decide +kernel⟩
abbrev rmX12_has : Room := { frames := 0, cells := 0, slots := 0, locals := 0 }
set_option maxHeartbeats 4000000 in
set_option maxRecDepth 100000 in
theorem ccX12_has (l : Launch) (D : va_G) (cy : Nat → ClassId) (p0 : Int32) (p1 : Int32) (post : Bool → Prop) (hF : wpX12_has p0 p1 post) : Cr l D cy miX12_has rmX12_has emB NP [.int p0, .int p1] [] post := by
  refine Cr.of (by decide) (Nat.le_of_ble_eq_true rfl) ?_
  intro p e s m args below meth c ls Q C hQ hO hP hl
  obtain ⟨hx, hb, hr, hml, hown, hts, hK, hlk, hnm⟩ := id C
  have hb : c.code = cX12_has := hb
  have hml : c.maxLocals = 2 := hml
  have hown : s.vm.findClass RX12 = some m.cls := hown
  have hl : lv_has ls 2 [(0, .int p0), (1, .int p1)] := hl
  unfold wpX12_has at hF
  refine lv_iload_n hx hb dX12_has_0 rfl (lv_at hl 0 rfl) ?_
  refine lv_iload_n hx hb dX12_has_1 rfl (lv_at hl 1 rfl) ?_
  refine lv_ishr hx hb dX12_has_2 ?_
  refine lv_iconst (v := 1) hx hb dX12_has_3 (by decide) ?_
  refine lv_iand hx hb dX12_has_4 ?_
  refine lv_iconst (v := 1) hx hb dX12_has_5 (by decide) ?_
  refine lv_icmp_ne (tgt := 13) hx hb dX12_has_6 (by decide) (fun c_ => ?_) (fun c_ => ?_)
  · have hF := hF.1 c_
    refine lv_iconst (v := 0) hx hb dX12_has_13 (by decide) ?_
    refine W.eq (g2 := F0 m 14 ls [.int (bz false)]) rfl ?_
    exact rr_b C hQ rfl hF dX12_has_14
  · have hF := hF.2 c_
    refine lv_iconst (v := 1) hx hb dX12_has_9 (by decide) ?_
    refine lv_goto (tgt := 14) hx hb dX12_has_10 (by decide) ?_
    refine W.eq (g2 := F0 m 14 ls [.int (bz true)]) rfl ?_
    exact rr_b C hQ rfl hF dX12_has_14

def wpX12_kindIn (p1 : Int32) (v_a0 : Nat → Int32) (post : Int32 → Prop) : Prop := vp_in (6 + (6 * p1)) 124 ∧ (post (v_a0 (((6 + (6 * p1))).toNatClampNeg)))
abbrev miX12_kindIn : MI := (yX12_kindIn, cX12_kindIn, 2, (some .int))
theorem mfX12_kindIn : MF miX12_kindIn 2 := ⟨t5_83, t1_8, by decide +kernel⟩
abbrev rmX12_kindIn : Room := { frames := 0, cells := 0, slots := 0, locals := 0 }
set_option maxHeartbeats 4000000 in
set_option maxRecDepth 100000 in
theorem ccX12_kindIn (l : Launch) (D : va_G) (cy : Nat → ClassId) (h_a0 : Nat) (v_a0 : Nat → Int32) (p1 : Int32) (post : Int32 → Prop) (hF : wpX12_kindIn p1 v_a0 post) : Cr l D cy miX12_kindIn rmX12_kindIn emI NP [.ref h_a0, .int p1] [(h_a0, .inl (cy 0, 124, .inl v_a0))] post := by
  refine Cr.of (by decide) (Nat.le_of_ble_eq_true rfl) ?_
  intro p e s m args below meth c ls Q C hQ hO hP hl
  obtain ⟨hx, hb, hr, hml, hown, hts, hK, hlk, hnm⟩ := id C
  have hb : c.code = cX12_kindIn := hb
  have hml : c.maxLocals = 2 := hml
  have hown : s.vm.findClass RX12 = some m.cls := hown
  have hl : lv_has ls 2 [(0, .ref h_a0), (1, .int p1)] := hl
  unfold wpX12_kindIn at hF
  refine lv_aload_n hx hb dX12_kindIn_0 rfl (lv_at hl 0 rfl) ?_
  refine lv_bipush (v := 6) hx hb dX12_kindIn_1 (by decide) ?_
  refine lv_bipush (v := 6) hx hb dX12_kindIn_3 (by decide) ?_
  refine lv_iload_n hx hb dX12_kindIn_5 rfl (lv_at hl 1 rfl) ?_
  refine lv_imul hx hb dX12_kindIn_6 ?_
  refine lv_iadd hx hb dX12_kindIn_7 ?_
  obtain ⟨hi1, hF⟩ := hF
  refine s_iald (j := ((6 + (6 * p1))).toNatClampNeg) hx hb hK.1 hP 0 0 rfl rfl hi1 rfl dX12_kindIn_8 ?_
  exact rr_i C hQ rfl hF dX12_kindIn_9

def wjX12_odds_16 (v_a0 : Nat → Int32) (post : Int32 → Prop) (l1 : Int32) (k0 : Int32) : Prop := vp_in ((6 + (6 * l1)) + 1) 124 ∧ ((((v_a0 ((((6 + (6 * l1)) + 1)).toNatClampNeg)) + k0) ≤ 10 → (post ((v_a0 ((((6 + (6 * l1)) + 1)).toNatClampNeg)) + k0))) ∧ (¬ ((v_a0 ((((6 + (6 * l1)) + 1)).toNatClampNeg)) + k0) ≤ 10 → (post 10)))
def wpX12_odds (p1 : Int32) (p2 : Int32) (v_a0 : Nat → Int32) (post : Int32 → Prop) : Prop := wpX12_kindIn p1 v_a0 (fun r1 => (¬ r1 = 3 → (wjX12_odds_16 v_a0 post p1 p2)) ∧ (r1 = 3 → (wjX12_odds_16 v_a0 post p1 (2 * p2))))
abbrev miX12_odds : MI := (yX12_odds, cX12_odds, 5, (some .int))
theorem mfX12_odds : MF miX12_odds 3 := ⟨t5_80, t1_8, by decide +kernel⟩
abbrev rmX12_odds : Room := { frames := 1, cells := 0, slots := 0, locals := 21 }
set_option maxHeartbeats 4000000 in
set_option maxRecDepth 100000 in
theorem ccX12_odds (l : Launch) (D : va_G) (cy : Nat → ClassId) (h_a0 : Nat) (v_a0 : Nat → Int32) (p1 : Int32) (p2 : Int32) (post : Int32 → Prop) (hF : wpX12_odds p1 p2 v_a0 post) : Cr l D cy miX12_odds rmX12_odds emI NP [.ref h_a0, .int p1, .int p2] [(h_a0, .inl (cy 0, 124, .inl v_a0))] post := by
  refine Cr.of (by decide) (Nat.le_of_ble_eq_true rfl) ?_
  intro p e s m args below meth c ls Q C hQ hO hP hl
  obtain ⟨hx, hb, hr, hml, hown, hts, hK, hlk, hnm⟩ := id C
  have hb : c.code = cX12_odds := hb
  have hml : c.maxLocals = 5 := hml
  have hown : s.vm.findClass RX12 = some m.cls := hown
  have hl : lv_has ls 5 [(0, .ref h_a0), (1, .int p1), (2, .int p2)] := hl
  have J_16 : ∀ (l1 : Int32) (k0 : Int32) (ls : Array Slot), lv_has ls 5 [(0, .ref h_a0), (1, .int l1)] → wjX12_odds_16 v_a0 post l1 k0 → W p l e rmX12_odds s m args below meth c s.heap [] 0 0 Q (F0 m 16 ls [.int k0]) := by
    intro l1 k0 ls  hl hF
    unfold wjX12_odds_16 at hF
    refine lv_istore_n (lv' := [(3, .int k0), (0, .ref h_a0), (1, .int l1)]) hx hb dX12_odds_16 rfl hl (by decide) rfl (fun ls hl => ?_)
    refine lv_aload_n hx hb dX12_odds_17 rfl (lv_at hl 1 rfl) ?_
    refine lv_bipush (v := 6) hx hb dX12_odds_18 (by decide) ?_
    refine lv_bipush (v := 6) hx hb dX12_odds_20 (by decide) ?_
    refine lv_iload_n hx hb dX12_odds_22 rfl (lv_at hl 2 rfl) ?_
    refine lv_imul hx hb dX12_odds_23 ?_
    refine lv_iadd hx hb dX12_odds_24 ?_
    refine lv_iconst (v := 1) hx hb dX12_odds_25 (by decide) ?_
    refine lv_iadd hx hb dX12_odds_26 ?_
    obtain ⟨hi1, hF⟩ := hF
    refine s_iald (j := (((6 + (6 * l1)) + 1)).toNatClampNeg) hx hb hK.1 hP 0 0 rfl rfl hi1 rfl dX12_odds_27 ?_
    refine lv_iload_n hx hb dX12_odds_28 rfl (lv_at hl 0 rfl) ?_
    refine lv_iadd hx hb dX12_odds_29 ?_
    refine lv_istore (lv' := [(4, .int ((v_a0 ((((6 + (6 * l1)) + 1)).toNatClampNeg)) + k0)), (3, .int k0), (0, .ref h_a0), (1, .int l1)]) hx hb dX12_odds_30 hl (by decide) rfl (fun ls hl => ?_)
    refine lv_iload hx hb dX12_odds_32 (lv_at hl 0 rfl) ?_
    refine lv_bipush (v := 10) hx hb dX12_odds_34 (by decide) ?_
    refine lv_icmp_le (tgt := 44) hx hb dX12_odds_36 (by decide) (fun c_ => ?_) (fun c_ => ?_)
    · have hF := hF.1 c_
      refine lv_iload hx hb dX12_odds_44 (lv_at hl 0 rfl) ?_
      exact rr_i C hQ rfl hF dX12_odds_46
    · have hF := hF.2 c_
      refine lv_bipush (v := 10) hx hb dX12_odds_39 (by decide) ?_
      refine lv_goto (tgt := 46) hx hb dX12_odds_41 (by decide) ?_
      exact rr_i C hQ rfl hF dX12_odds_46
  unfold wpX12_odds at hF
  refine lv_aload_n hx hb dX12_odds_0 rfl (lv_at hl 0 rfl) ?_
  refine lv_iload_n hx hb dX12_odds_1 rfl (lv_at hl 1 rfl) ?_
  refine cS_r (As := [.ref h_a0, .int p1]) C mfX12_kindIn t5_82 t5_81 (ccX12_kindIn l D cy h_a0 v_a0 p1 _ hF) rfl rfl (hP.sub [0] rfl) PR.np rfl hl.1 rfl (Nat.le_of_ble_eq_true rfl) dX12_odds_2 ⟨Nat.le_of_ble_eq_true rfl, Nat.le_of_ble_eq_true rfl⟩ ⟨Nat.le_of_ble_eq_true rfl, Nat.le_of_ble_eq_true rfl⟩ ?_
  intro r1 hF
  refine W.eq (g2 := F0 m 5 ls [.int r1]) rfl ?_
  refine lv_iconst (v := 3) hx hb dX12_odds_5 (by decide) ?_
  refine lv_icmp_ne (tgt := 15) hx hb dX12_odds_6 (by decide) (fun c_ => ?_) (fun c_ => ?_)
  · have hF := hF.1 c_
    refine lv_iload_n hx hb dX12_odds_15 rfl (lv_at hl 2 rfl) ?_
    exact J_16 p1 p2 ls  (lv_sub hl [0, 1] rfl) hF
  · have hF := hF.2 c_
    refine lv_iconst (v := 2) hx hb dX12_odds_9 (by decide) ?_
    refine lv_iload_n hx hb dX12_odds_10 rfl (lv_at hl 2 rfl) ?_
    refine lv_imul hx hb dX12_odds_11 ?_
    refine lv_goto (tgt := 16) hx hb dX12_odds_12 (by decide) ?_
    exact J_16 p1 (2 * p2) ls  (lv_sub hl [0, 1] rfl) hF

def wpX12_brings (p1 : Int32) (p2 : Bool) (v_a0 : Nat → Int32) (post : Int32 → Prop) : Prop := (p2 = true → (vp_in (6 + (6 * p1)) 124 ∧ ((¬ (v_a0 (((6 + (6 * p1))).toNatClampNeg)) = 2 → (vp_in ((6 + (6 * p1)) + 2) 124 ∧ (post (v_a0 ((((6 + (6 * p1)) + 2)).toNatClampNeg))))) ∧ ((v_a0 (((6 + (6 * p1))).toNatClampNeg)) = 2 → (vp_in ((6 + (6 * p1)) + 2) 124 ∧ (post (2 * (v_a0 ((((6 + (6 * p1)) + 2)).toNatClampNeg))))))))) ∧ (p2 = false → (vp_in (6 + (6 * p1)) 124 ∧ ((¬ (v_a0 (((6 + (6 * p1))).toNatClampNeg)) = 3 → (vp_in (6 + (6 * p1)) 124 ∧ ((¬ (v_a0 (((6 + (6 * p1))).toNatClampNeg)) = 2 → (vp_in ((6 + (6 * p1)) + 3) 124 ∧ (post (-(v_a0 ((((6 + (6 * p1)) + 3)).toNatClampNeg)))))) ∧ ((v_a0 (((6 + (6 * p1))).toNatClampNeg)) = 2 → (vp_in ((6 + (6 * p1)) + 3) 124 ∧ (post ((-2) * (v_a0 ((((6 + (6 * p1)) + 3)).toNatClampNeg))))))))) ∧ ((v_a0 (((6 + (6 * p1))).toNatClampNeg)) = 3 → (post 0)))))
abbrev miX12_brings : MI := (yX12_brings, cX12_brings, 4, (some .int))
theorem mfX12_brings : MF miX12_brings 3 := ⟨t5_107, t1_8, by decide +kernel⟩
abbrev rmX12_brings : Room := { frames := 0, cells := 0, slots := 0, locals := 0 }
set_option maxHeartbeats 4000000 in
set_option maxRecDepth 100000 in
theorem ccX12_brings (l : Launch) (D : va_G) (cy : Nat → ClassId) (h_a0 : Nat) (v_a0 : Nat → Int32) (p1 : Int32) (p2 : Bool) (post : Int32 → Prop) (hF : wpX12_brings p1 p2 v_a0 post) : Cr l D cy miX12_brings rmX12_brings emI NP [.ref h_a0, .int p1, .int (bz p2)] [(h_a0, .inl (cy 0, 124, .inl v_a0))] post := by
  refine Cr.of (by decide) (Nat.le_of_ble_eq_true rfl) ?_
  intro p e s m args below meth c ls Q C hQ hO hP hl
  obtain ⟨hx, hb, hr, hml, hown, hts, hK, hlk, hnm⟩ := id C
  have hb : c.code = cX12_brings := hb
  have hml : c.maxLocals = 4 := hml
  have hown : s.vm.findClass RX12 = some m.cls := hown
  have hl : lv_has ls 4 [(0, .ref h_a0), (1, .int p1), (2, .int (bz p2))] := hl
  unfold wpX12_brings at hF
  refine lv_bipush (v := 6) hx hb dX12_brings_0 (by decide) ?_
  refine lv_bipush (v := 6) hx hb dX12_brings_2 (by decide) ?_
  refine lv_iload_n hx hb dX12_brings_4 rfl (lv_at hl 1 rfl) ?_
  refine lv_imul hx hb dX12_brings_5 ?_
  refine lv_iadd hx hb dX12_brings_6 ?_
  refine lv_istore_n (lv' := [(3, .int (6 + (6 * p1))), (0, .ref h_a0), (1, .int p1), (2, .int (bz p2))]) hx hb dX12_brings_7 rfl hl (by decide) rfl (fun ls hl => ?_)
  refine lv_iload_n hx hb dX12_brings_8 rfl (lv_at hl 3 rfl) ?_
  refine lv_if_ne (tgt := 48) hx hb dX12_brings_9 (by decide) (fun c_ => ?_) (fun c_ => ?_)
  · have hF := hF.1 ((bz_1 _).mp c_)
    refine lv_aload_n hx hb dX12_brings_48 rfl (lv_at hl 1 rfl) ?_
    refine lv_iload_n hx hb dX12_brings_49 rfl (lv_at hl 0 rfl) ?_
    obtain ⟨hi1, hF⟩ := hF
    refine s_iald (j := ((6 + (6 * p1))).toNatClampNeg) hx hb hK.1 hP 0 0 rfl rfl hi1 rfl dX12_brings_50 ?_
    refine lv_iconst (v := 2) hx hb dX12_brings_51 (by decide) ?_
    refine lv_icmp_ne (tgt := 65) hx hb dX12_brings_52 (by decide) (fun c_ => ?_) (fun c_ => ?_)
    · have hF := hF.1 c_
      refine lv_aload_n hx hb dX12_brings_65 rfl (lv_at hl 1 rfl) ?_
      refine lv_iload_n hx hb dX12_brings_66 rfl (lv_at hl 0 rfl) ?_
      refine lv_iconst (v := 2) hx hb dX12_brings_67 (by decide) ?_
      refine lv_iadd hx hb dX12_brings_68 ?_
      obtain ⟨hi2, hF⟩ := hF
      refine s_iald (j := (((6 + (6 * p1)) + 2)).toNatClampNeg) hx hb hK.1 hP 0 0 rfl rfl hi2 rfl dX12_brings_69 ?_
      exact rr_i C hQ rfl hF dX12_brings_70
    · have hF := hF.2 c_
      refine lv_iconst (v := 2) hx hb dX12_brings_55 (by decide) ?_
      refine lv_aload_n hx hb dX12_brings_56 rfl (lv_at hl 1 rfl) ?_
      refine lv_iload_n hx hb dX12_brings_57 rfl (lv_at hl 0 rfl) ?_
      refine lv_iconst (v := 2) hx hb dX12_brings_58 (by decide) ?_
      refine lv_iadd hx hb dX12_brings_59 ?_
      obtain ⟨hi3, hF⟩ := hF
      refine s_iald (j := (((6 + (6 * p1)) + 2)).toNatClampNeg) hx hb hK.1 hP 0 0 rfl rfl hi3 rfl dX12_brings_60 ?_
      refine lv_imul hx hb dX12_brings_61 ?_
      refine lv_goto (tgt := 70) hx hb dX12_brings_62 (by decide) ?_
      exact rr_i C hQ rfl hF dX12_brings_70
  · have hF := hF.2 ((bz_0 _).mp c_)
    refine lv_aload_n hx hb dX12_brings_12 rfl (lv_at hl 1 rfl) ?_
    refine lv_iload_n hx hb dX12_brings_13 rfl (lv_at hl 0 rfl) ?_
    obtain ⟨hi4, hF⟩ := hF
    refine s_iald (j := ((6 + (6 * p1))).toNatClampNeg) hx hb hK.1 hP 0 0 rfl rfl hi4 rfl dX12_brings_14 ?_
    refine lv_iconst (v := 3) hx hb dX12_brings_15 (by decide) ?_
    refine lv_icmp_ne (tgt := 23) hx hb dX12_brings_16 (by decide) (fun c_ => ?_) (fun c_ => ?_)
    · have hF := hF.1 c_
      refine lv_aload_n hx hb dX12_brings_23 rfl (lv_at hl 1 rfl) ?_
      refine lv_iload_n hx hb dX12_brings_24 rfl (lv_at hl 0 rfl) ?_
      obtain ⟨hi5, hF⟩ := hF
      refine s_iald (j := ((6 + (6 * p1))).toNatClampNeg) hx hb hK.1 hP 0 0 rfl rfl hi5 rfl dX12_brings_25 ?_
      refine lv_iconst (v := 2) hx hb dX12_brings_26 (by decide) ?_
      refine lv_icmp_ne (tgt := 41) hx hb dX12_brings_27 (by decide) (fun c_ => ?_) (fun c_ => ?_)
      · have hF := hF.1 c_
        refine lv_aload_n hx hb dX12_brings_41 rfl (lv_at hl 1 rfl) ?_
        refine lv_iload_n hx hb dX12_brings_42 rfl (lv_at hl 0 rfl) ?_
        refine lv_iconst (v := 3) hx hb dX12_brings_43 (by decide) ?_
        refine lv_iadd hx hb dX12_brings_44 ?_
        obtain ⟨hi6, hF⟩ := hF
        refine s_iald (j := (((6 + (6 * p1)) + 3)).toNatClampNeg) hx hb hK.1 hP 0 0 rfl rfl hi6 rfl dX12_brings_45 ?_
        refine lv_ineg hx hb dX12_brings_46 ?_
        exact rr_i C hQ rfl hF dX12_brings_47
      · have hF := hF.2 c_
        refine lv_bipush (v := (-2)) hx hb dX12_brings_30 (by decide) ?_
        refine lv_aload_n hx hb dX12_brings_32 rfl (lv_at hl 1 rfl) ?_
        refine lv_iload_n hx hb dX12_brings_33 rfl (lv_at hl 0 rfl) ?_
        refine lv_iconst (v := 3) hx hb dX12_brings_34 (by decide) ?_
        refine lv_iadd hx hb dX12_brings_35 ?_
        obtain ⟨hi7, hF⟩ := hF
        refine s_iald (j := (((6 + (6 * p1)) + 3)).toNatClampNeg) hx hb hK.1 hP 0 0 rfl rfl hi7 rfl dX12_brings_36 ?_
        refine lv_imul hx hb dX12_brings_37 ?_
        refine lv_goto (tgt := 47) hx hb dX12_brings_38 (by decide) ?_
        exact rr_i C hQ rfl hF dX12_brings_47
    · have hF := hF.2 c_
      refine lv_iconst (v := 0) hx hb dX12_brings_19 (by decide) ?_
      refine lv_goto (tgt := 47) hx hb dX12_brings_20 (by decide) ?_
      exact rr_i C hQ rfl hF dX12_brings_47

def wlX12_notes_135 (v_now : Nat → Int32) (post : Unit → Int32 → (Nat → Int32) → Prop) : Nat → Int32 → Int32 → Int32 → (Nat → Int32) → Prop
  | 0, _, _, _, _ => False
  | n + 1, l1, l2, w_acts, w_past => (3 ≤ l2 → (post () (w_acts + 1) w_past)) ∧ (¬ 3 ≤ l2 → (vp_in ((6 + (6 * l2)) + 4) 124 ∧ (vp_in ((l1 + 5) + l2) 264 ∧ (vp_in ((6 + (6 * l2)) + 5) 124 ∧ (vp_in ((l1 + 8) + l2) 264 ∧ ((wlX12_notes_135 v_now post n) l1 (l2 + 1) w_acts (upd (upd w_past ((((l1 + 5) + l2)).toNatClampNeg) (v_now ((((6 + (6 * l2)) + 4)).toNatClampNeg))) ((((l1 + 8) + l2)).toNatClampNeg) (v_now ((((6 + (6 * l2)) + 5)).toNatClampNeg)))))))))
def wjX12_notes_49 (v_now : Nat → Int32) (post : Unit → Int32 → (Nat → Int32) → Prop) (w_acts : Int32) (w_past : Nat → Int32) : Prop := vp_in (11 * w_acts) 264 ∧ (vp_in ((11 * w_acts) + 1) 264 ∧ (vp_in ((11 * w_acts) + 2) 264 ∧ (vp_in ((11 * w_acts) + 3) 264 ∧ (vp_in (24 + (v_now 5)) 124 ∧ (vp_in ((11 * w_acts) + 4) 264 ∧ (wlX12_notes_135 v_now post fu (11 * w_acts) 0 w_acts (upd (upd (upd (upd (upd w_past (((11 * w_acts)).toNatClampNeg) (v_now 2)) ((((11 * w_acts) + 1)).toNatClampNeg) (v_now 3)) ((((11 * w_acts) + 2)).toNatClampNeg) (v_now 4)) ((((11 * w_acts) + 3)).toNatClampNeg) (v_now 5)) ((((11 * w_acts) + 4)).toNatClampNeg) (v_now (((24 + (v_now 5))).toNatClampNeg)))))))))
def wlX12_notes_11 (v_now : Nat → Int32) (post : Unit → Int32 → (Nat → Int32) → Prop) : Nat → Int32 → Int32 → (Nat → Int32) → Prop
  | 0, _, _, _ => False
  | n + 1, l1, w_acts, w_past => (253 ≤ l1 → (wjX12_notes_49 v_now post (w_acts - 1) w_past)) ∧ (¬ 253 ≤ l1 → (vp_in (l1 + 11) 264 ∧ (vp_in l1 264 ∧ ((wlX12_notes_11 v_now post n) (l1 + 1) w_acts (upd w_past ((l1).toNatClampNeg) (w_past (((l1 + 11)).toNatClampNeg)))))))
def wpX12_notes (v_acts : Int32) (v_past : Nat → Int32) (v_now : Nat → Int32) (post : Unit → Int32 → (Nat → Int32) → Prop) : Prop := (¬ v_acts = 24 → (wjX12_notes_49 v_now post v_acts v_past)) ∧ (v_acts = 24 → (wlX12_notes_11 v_now post fu 0 v_acts v_past))
abbrev miX12_notes : MI := (yX12_notes, cX12_notes, 3, none)
theorem mfX12_notes : MF miX12_notes 0 := ⟨t5_68, t1_8, by decide +kernel⟩
abbrev rmX12_notes : Room := { frames := 0, cells := 0, slots := 0, locals := 0 }
set_option maxHeartbeats 4000000 in
set_option maxRecDepth 100000 in
theorem ccX12_notes (l : Launch) (D : va_G) (cy : Nat → ClassId) (h_this : Nat) (h_past : Nat) (h_now : Nat) (x_lane : Value) (x_many : Value) (x_items : Value) (x_spare : Value) (x_tape : Value) (x_draft : Value) (x_tried : Value) (x_images : Value) (x_kept : Value) (x_trace : Value) (x_comes : Value) (x_standing : Value) (x_brought : Value) (x_habit : Value) (v_status : Int32) (v_taped : Int32) (v_faultKind : Int32) (v_faultPlace : Int32) (v_at : Int32) (v_start : Int32) (v_token : Int32) (v_value : Int32) (v_acts : Int32) (v_traced : Int32) (v_livedMany : Int32) (v_past : Nat → Int32) (v_now : Nat → Int32) (post : Unit → Int32 → (Nat → Int32) → Prop) (hF : wpX12_notes v_acts v_past v_now post) : Ct l D cy miX12_notes rmX12_notes emV NP [.ref h_this] [(h_this, .inr (11, [x_lane, x_many, x_items, x_spare, .int v_status, x_tape, .int v_taped, .int v_faultKind, .int v_faultPlace, .int v_at, .int v_start, .int v_token, .int v_value, .ref h_now, x_draft, x_tried, .ref h_past, .int v_acts, x_images, x_kept, x_trace, .int v_traced, x_comes, x_standing, x_brought, x_habit, .int v_livedMany])), (h_past, .inl (cy 0, 264, .inl v_past)), (h_now, .inl (cy 0, 124, .inl v_now))] (fun r w1 => ∃ (w_acts : Int32) (w_past : Nat → Int32), w1 = [(h_this, .inr (11, [x_lane, x_many, x_items, x_spare, .int v_status, x_tape, .int v_taped, .int v_faultKind, .int v_faultPlace, .int v_at, .int v_start, .int v_token, .int v_value, .ref h_now, x_draft, x_tried, .ref h_past, .int w_acts, x_images, x_kept, x_trace, .int v_traced, x_comes, x_standing, x_brought, x_habit, .int v_livedMany])), (h_past, .inl (cy 0, 264, .inl w_past)), (h_now, .inl (cy 0, 124, .inl v_now))] ∧ post r w_acts w_past) := by
  refine Ct.of (by decide) (Nat.le_of_ble_eq_true rfl) ?_
  intro p e s m args below meth c A ls Q C hQ hA hI hP hD hS hl
  obtain ⟨hx, hb, hr, hml, hown, hts, hK, hlk, hnm⟩ := id C
  have hb : c.code = cX12_notes := hb
  have hml : c.maxLocals = 3 := hml
  have hown : s.vm.findClass RX12 = some m.cls := hown
  have hl : lv_has ls 3 [(0, .ref h_this)] := hl
  have L_135 : ∀ (n_135 : Nat) (l1 : Int32) (l2 : Int32) (w_acts : Int32) (w_past : Nat → Int32) (H : Heap) (locs : List Loc) (ls : Array Slot), va_P D CL [(h_this, .inr (11, [x_lane, x_many, x_items, x_spare, .int v_status, x_tape, .int v_taped, .int v_faultKind, .int v_faultPlace, .int v_at, .int v_start, .int v_token, .int v_value, .ref h_now, x_draft, x_tried, .ref h_past, .int w_acts, x_images, x_kept, x_trace, .int v_traced, x_comes, x_standing, x_brought, x_habit, .int v_livedMany])), (h_past, .inl (cy 0, 264, .inl w_past)), (h_now, .inl (cy 0, 124, .inl v_now))] H → va_D A [(h_this, .inr (11, [x_lane, x_many, x_items, x_spare, .int v_status, x_tape, .int v_taped, .int v_faultKind, .int v_faultPlace, .int v_at, .int v_start, .int v_token, .int v_value, .ref h_now, x_draft, x_tried, .ref h_past, .int w_acts, x_images, x_kept, x_trace, .int v_traced, x_comes, x_standing, x_brought, x_habit, .int v_livedMany])), (h_past, .inl (cy 0, 264, .inl w_past)), (h_now, .inl (cy 0, 124, .inl v_now))] → va_S A s.heap H locs → lv_has ls 3 [(0, .ref h_this), (1, .int l1), (2, .int l2)] → wlX12_notes_135 v_now post n_135 l1 l2 w_acts w_past → W p l e rmX12_notes s m args below meth c H locs 0 0 Q (F0 m 135 ls []) := by
    intro n_135
    induction n_135 with
    | zero =>
      intro l1 l2 w_acts w_past H locs ls  hP hD hS hl hF
      simp only [wlX12_notes_135] at hF
    | succ n_135 ih_135 =>
      intro l1 l2 w_acts w_past H locs ls  hP hD hS hl hF
      unfold wlX12_notes_135 at hF
      refine lv_iload_n hx hb dX12_notes_135 rfl (lv_at hl 2 rfl) ?_
      refine lv_iconst (v := 3) hx hb dX12_notes_136 (by decide) ?_
      refine lv_icmp_ge (tgt := 195) hx hb dX12_notes_137 (by decide) (fun c_ => ?_) (fun c_ => ?_)
      · have hF := hF.1 c_
        refine lv_aload_n hx hb dX12_notes_195 rfl (lv_at hl 0 rfl) ?_
        refine lv_dup hx hb dX12_notes_196 rfl ?_
        refine va_get (D := D) (ci := 11) (v := .int w_acts) (C := RX12) (T := TX12) (N := 27) hx hb hts inTX12 hown hK.1 hP 0 rfl rfl 17 (by decide) (hts _ t4_141) (fun _ h9 => h9) rfl dX12_notes_197 ?_
        refine lv_iconst (v := 1) hx hb dX12_notes_200 (by decide) ?_
        refine lv_iadd hx hb dX12_notes_201 ?_
        refine va_put (D := D) (ci := 11) (v := .int (w_acts + 1)) (ty := .int) (C := RX12) (T := TX12) (N := 27) hx hb hts inTX12 tyX12 tyX12_ok nmX12 hown hK.1 hP hD hS 0 rfl rfl 17 (by decide) (hts _ t4_141) (fun _ h9 => h9) rfl (tyX12_ok 17 (by decide)) rfl rfl (Nat.le_of_ble_eq_true rfl) dX12_notes_202 (fun H locs hP hD hS => ?_)
        have hP : va_P D CL [(h_this, .inr (11, [x_lane, x_many, x_items, x_spare, .int v_status, x_tape, .int v_taped, .int v_faultKind, .int v_faultPlace, .int v_at, .int v_start, .int v_token, .int v_value, .ref h_now, x_draft, x_tried, .ref h_past, .int (w_acts + 1), x_images, x_kept, x_trace, .int v_traced, x_comes, x_standing, x_brought, x_habit, .int v_livedMany])), (h_past, .inl (cy 0, 264, .inl w_past)), (h_now, .inl (cy 0, 124, .inl v_now))] H := hP
        have hD : va_D A [(h_this, .inr (11, [x_lane, x_many, x_items, x_spare, .int v_status, x_tape, .int v_taped, .int v_faultKind, .int v_faultPlace, .int v_at, .int v_start, .int v_token, .int v_value, .ref h_now, x_draft, x_tried, .ref h_past, .int (w_acts + 1), x_images, x_kept, x_trace, .int v_traced, x_comes, x_standing, x_brought, x_habit, .int v_livedMany])), (h_past, .inl (cy 0, 264, .inl w_past)), (h_now, .inl (cy 0, 124, .inl v_now))] := hD
        exact rt_v C hQ rfl hP hD hS ⟨(w_acts + 1), w_past, rfl, hF⟩ dX12_notes_205
      · have hF := hF.2 c_
        refine lv_aload_n hx hb dX12_notes_140 rfl (lv_at hl 0 rfl) ?_
        refine va_get (D := D) (ci := 11) (v := .ref h_past) (C := RX12) (T := TX12) (N := 27) hx hb hts inTX12 hown hK.1 hP 0 rfl rfl 16 (by decide) (hts _ t4_140) (fun _ h9 => h9) rfl dX12_notes_141 ?_
        refine lv_iload_n hx hb dX12_notes_144 rfl (lv_at hl 1 rfl) ?_
        refine lv_iconst (v := 5) hx hb dX12_notes_145 (by decide) ?_
        refine lv_iadd hx hb dX12_notes_146 ?_
        refine lv_iload_n hx hb dX12_notes_147 rfl (lv_at hl 2 rfl) ?_
        refine lv_iadd hx hb dX12_notes_148 ?_
        refine lv_aload_n hx hb dX12_notes_149 rfl (lv_at hl 0 rfl) ?_
        refine va_get (D := D) (ci := 11) (v := .ref h_now) (C := RX12) (T := TX12) (N := 27) hx hb hts inTX12 hown hK.1 hP 0 rfl rfl 13 (by decide) (hts _ t4_137) (fun _ h9 => h9) rfl dX12_notes_150 ?_
        refine lv_bipush (v := 6) hx hb dX12_notes_153 (by decide) ?_
        refine lv_bipush (v := 6) hx hb dX12_notes_155 (by decide) ?_
        refine lv_iload_n hx hb dX12_notes_157 rfl (lv_at hl 2 rfl) ?_
        refine lv_imul hx hb dX12_notes_158 ?_
        refine lv_iadd hx hb dX12_notes_159 ?_
        refine lv_iconst (v := 4) hx hb dX12_notes_160 (by decide) ?_
        refine lv_iadd hx hb dX12_notes_161 ?_
        obtain ⟨hi1, hF⟩ := hF
        refine s_iald (j := (((6 + (6 * l2)) + 4)).toNatClampNeg) hx hb hK.1 hP 2 0 rfl rfl hi1 rfl dX12_notes_162 ?_
        obtain ⟨hi2, hF⟩ := hF
        refine s_iast (j := (((l1 + 5) + l2)).toNatClampNeg) hx hb hK.1 hP hD hS 1 0 rfl rfl hi2 rfl dX12_notes_163 (fun H locs hP hD hS => ?_)
        have hP : va_P D CL [(h_this, .inr (11, [x_lane, x_many, x_items, x_spare, .int v_status, x_tape, .int v_taped, .int v_faultKind, .int v_faultPlace, .int v_at, .int v_start, .int v_token, .int v_value, .ref h_now, x_draft, x_tried, .ref h_past, .int w_acts, x_images, x_kept, x_trace, .int v_traced, x_comes, x_standing, x_brought, x_habit, .int v_livedMany])), (h_past, .inl (cy 0, 264, .inl (upd w_past ((((l1 + 5) + l2)).toNatClampNeg) (v_now ((((6 + (6 * l2)) + 4)).toNatClampNeg))))), (h_now, .inl (cy 0, 124, .inl v_now))] H := hP
        have hD : va_D A [(h_this, .inr (11, [x_lane, x_many, x_items, x_spare, .int v_status, x_tape, .int v_taped, .int v_faultKind, .int v_faultPlace, .int v_at, .int v_start, .int v_token, .int v_value, .ref h_now, x_draft, x_tried, .ref h_past, .int w_acts, x_images, x_kept, x_trace, .int v_traced, x_comes, x_standing, x_brought, x_habit, .int v_livedMany])), (h_past, .inl (cy 0, 264, .inl (upd w_past ((((l1 + 5) + l2)).toNatClampNeg) (v_now ((((6 + (6 * l2)) + 4)).toNatClampNeg))))), (h_now, .inl (cy 0, 124, .inl v_now))] := hD
        refine lv_aload_n hx hb dX12_notes_164 rfl (lv_at hl 0 rfl) ?_
        refine va_get (D := D) (ci := 11) (v := .ref h_past) (C := RX12) (T := TX12) (N := 27) hx hb hts inTX12 hown hK.1 hP 0 rfl rfl 16 (by decide) (hts _ t4_140) (fun _ h9 => h9) rfl dX12_notes_165 ?_
        refine lv_iload_n hx hb dX12_notes_168 rfl (lv_at hl 1 rfl) ?_
        refine lv_bipush (v := 8) hx hb dX12_notes_169 (by decide) ?_
        refine lv_iadd hx hb dX12_notes_171 ?_
        refine lv_iload_n hx hb dX12_notes_172 rfl (lv_at hl 2 rfl) ?_
        refine lv_iadd hx hb dX12_notes_173 ?_
        refine lv_aload_n hx hb dX12_notes_174 rfl (lv_at hl 0 rfl) ?_
        refine va_get (D := D) (ci := 11) (v := .ref h_now) (C := RX12) (T := TX12) (N := 27) hx hb hts inTX12 hown hK.1 hP 0 rfl rfl 13 (by decide) (hts _ t4_137) (fun _ h9 => h9) rfl dX12_notes_175 ?_
        refine lv_bipush (v := 6) hx hb dX12_notes_178 (by decide) ?_
        refine lv_bipush (v := 6) hx hb dX12_notes_180 (by decide) ?_
        refine lv_iload_n hx hb dX12_notes_182 rfl (lv_at hl 2 rfl) ?_
        refine lv_imul hx hb dX12_notes_183 ?_
        refine lv_iadd hx hb dX12_notes_184 ?_
        refine lv_iconst (v := 5) hx hb dX12_notes_185 (by decide) ?_
        refine lv_iadd hx hb dX12_notes_186 ?_
        obtain ⟨hi3, hF⟩ := hF
        refine s_iald (j := (((6 + (6 * l2)) + 5)).toNatClampNeg) hx hb hK.1 hP 2 0 rfl rfl hi3 rfl dX12_notes_187 ?_
        obtain ⟨hi4, hF⟩ := hF
        refine s_iast (j := (((l1 + 8) + l2)).toNatClampNeg) hx hb hK.1 hP hD hS 1 0 rfl rfl hi4 rfl dX12_notes_188 (fun H locs hP hD hS => ?_)
        have hP : va_P D CL [(h_this, .inr (11, [x_lane, x_many, x_items, x_spare, .int v_status, x_tape, .int v_taped, .int v_faultKind, .int v_faultPlace, .int v_at, .int v_start, .int v_token, .int v_value, .ref h_now, x_draft, x_tried, .ref h_past, .int w_acts, x_images, x_kept, x_trace, .int v_traced, x_comes, x_standing, x_brought, x_habit, .int v_livedMany])), (h_past, .inl (cy 0, 264, .inl (upd (upd w_past ((((l1 + 5) + l2)).toNatClampNeg) (v_now ((((6 + (6 * l2)) + 4)).toNatClampNeg))) ((((l1 + 8) + l2)).toNatClampNeg) (v_now ((((6 + (6 * l2)) + 5)).toNatClampNeg))))), (h_now, .inl (cy 0, 124, .inl v_now))] H := hP
        have hD : va_D A [(h_this, .inr (11, [x_lane, x_many, x_items, x_spare, .int v_status, x_tape, .int v_taped, .int v_faultKind, .int v_faultPlace, .int v_at, .int v_start, .int v_token, .int v_value, .ref h_now, x_draft, x_tried, .ref h_past, .int w_acts, x_images, x_kept, x_trace, .int v_traced, x_comes, x_standing, x_brought, x_habit, .int v_livedMany])), (h_past, .inl (cy 0, 264, .inl (upd (upd w_past ((((l1 + 5) + l2)).toNatClampNeg) (v_now ((((6 + (6 * l2)) + 4)).toNatClampNeg))) ((((l1 + 8) + l2)).toNatClampNeg) (v_now ((((6 + (6 * l2)) + 5)).toNatClampNeg))))), (h_now, .inl (cy 0, 124, .inl v_now))] := hD
        refine lv_iinc (v := (l2 + 1)) (lv' := [(2, .int (l2 + 1)), (0, .ref h_this), (1, .int l1)]) hx hb dX12_notes_189 hl (k := 2) rfl rfl (by decide) rfl (fun ls hl => ?_)
        refine lv_goto (tgt := 135) hx hb dX12_notes_192 (by decide) ?_
        exact ih_135 l1 (l2 + 1) w_acts (upd (upd w_past ((((l1 + 5) + l2)).toNatClampNeg) (v_now ((((6 + (6 * l2)) + 4)).toNatClampNeg))) ((((l1 + 8) + l2)).toNatClampNeg) (v_now ((((6 + (6 * l2)) + 5)).toNatClampNeg))) _ _ ls  hP hD hS (lv_sub hl [1, 2, 0] rfl) hF
  have J_49 : ∀ (w_acts : Int32) (w_past : Nat → Int32) (H : Heap) (locs : List Loc) (ls : Array Slot), va_P D CL [(h_this, .inr (11, [x_lane, x_many, x_items, x_spare, .int v_status, x_tape, .int v_taped, .int v_faultKind, .int v_faultPlace, .int v_at, .int v_start, .int v_token, .int v_value, .ref h_now, x_draft, x_tried, .ref h_past, .int w_acts, x_images, x_kept, x_trace, .int v_traced, x_comes, x_standing, x_brought, x_habit, .int v_livedMany])), (h_past, .inl (cy 0, 264, .inl w_past)), (h_now, .inl (cy 0, 124, .inl v_now))] H → va_D A [(h_this, .inr (11, [x_lane, x_many, x_items, x_spare, .int v_status, x_tape, .int v_taped, .int v_faultKind, .int v_faultPlace, .int v_at, .int v_start, .int v_token, .int v_value, .ref h_now, x_draft, x_tried, .ref h_past, .int w_acts, x_images, x_kept, x_trace, .int v_traced, x_comes, x_standing, x_brought, x_habit, .int v_livedMany])), (h_past, .inl (cy 0, 264, .inl w_past)), (h_now, .inl (cy 0, 124, .inl v_now))] → va_S A s.heap H locs → lv_has ls 3 [(0, .ref h_this)] → wjX12_notes_49 v_now post w_acts w_past → W p l e rmX12_notes s m args below meth c H locs 0 0 Q (F0 m 49 ls []) := by
    intro w_acts w_past H locs ls  hP hD hS hl hF
    unfold wjX12_notes_49 at hF
    refine lv_bipush (v := 11) hx hb dX12_notes_49 (by decide) ?_
    refine lv_aload_n hx hb dX12_notes_51 rfl (lv_at hl 0 rfl) ?_
    refine va_get (D := D) (ci := 11) (v := .int w_acts) (C := RX12) (T := TX12) (N := 27) hx hb hts inTX12 hown hK.1 hP 0 rfl rfl 17 (by decide) (hts _ t4_141) (fun _ h9 => h9) rfl dX12_notes_52 ?_
    refine lv_imul hx hb dX12_notes_55 ?_
    refine lv_istore_n (lv' := [(1, .int (11 * w_acts)), (0, .ref h_this)]) hx hb dX12_notes_56 rfl hl (by decide) rfl (fun ls hl => ?_)
    refine lv_aload_n hx hb dX12_notes_57 rfl (lv_at hl 1 rfl) ?_
    refine va_get (D := D) (ci := 11) (v := .ref h_past) (C := RX12) (T := TX12) (N := 27) hx hb hts inTX12 hown hK.1 hP 0 rfl rfl 16 (by decide) (hts _ t4_140) (fun _ h9 => h9) rfl dX12_notes_58 ?_
    refine lv_iload_n hx hb dX12_notes_61 rfl (lv_at hl 0 rfl) ?_
    refine lv_aload_n hx hb dX12_notes_62 rfl (lv_at hl 1 rfl) ?_
    refine va_get (D := D) (ci := 11) (v := .ref h_now) (C := RX12) (T := TX12) (N := 27) hx hb hts inTX12 hown hK.1 hP 0 rfl rfl 13 (by decide) (hts _ t4_137) (fun _ h9 => h9) rfl dX12_notes_63 ?_
    refine lv_iconst (v := 2) hx hb dX12_notes_66 (by decide) ?_
    refine s_iald (j := 2) hx hb hK.1 hP 2 0 rfl rfl (vi (by decide)) (by decide) dX12_notes_67 ?_
    obtain ⟨hi1, hF⟩ := hF
    refine s_iast (j := ((11 * w_acts)).toNatClampNeg) hx hb hK.1 hP hD hS 1 0 rfl rfl hi1 rfl dX12_notes_68 (fun H locs hP hD hS => ?_)
    have hP : va_P D CL [(h_this, .inr (11, [x_lane, x_many, x_items, x_spare, .int v_status, x_tape, .int v_taped, .int v_faultKind, .int v_faultPlace, .int v_at, .int v_start, .int v_token, .int v_value, .ref h_now, x_draft, x_tried, .ref h_past, .int w_acts, x_images, x_kept, x_trace, .int v_traced, x_comes, x_standing, x_brought, x_habit, .int v_livedMany])), (h_past, .inl (cy 0, 264, .inl (upd w_past (((11 * w_acts)).toNatClampNeg) (v_now 2)))), (h_now, .inl (cy 0, 124, .inl v_now))] H := hP
    have hD : va_D A [(h_this, .inr (11, [x_lane, x_many, x_items, x_spare, .int v_status, x_tape, .int v_taped, .int v_faultKind, .int v_faultPlace, .int v_at, .int v_start, .int v_token, .int v_value, .ref h_now, x_draft, x_tried, .ref h_past, .int w_acts, x_images, x_kept, x_trace, .int v_traced, x_comes, x_standing, x_brought, x_habit, .int v_livedMany])), (h_past, .inl (cy 0, 264, .inl (upd w_past (((11 * w_acts)).toNatClampNeg) (v_now 2)))), (h_now, .inl (cy 0, 124, .inl v_now))] := hD
    refine lv_aload_n hx hb dX12_notes_69 rfl (lv_at hl 1 rfl) ?_
    refine va_get (D := D) (ci := 11) (v := .ref h_past) (C := RX12) (T := TX12) (N := 27) hx hb hts inTX12 hown hK.1 hP 0 rfl rfl 16 (by decide) (hts _ t4_140) (fun _ h9 => h9) rfl dX12_notes_70 ?_
    refine lv_iload_n hx hb dX12_notes_73 rfl (lv_at hl 0 rfl) ?_
    refine lv_iconst (v := 1) hx hb dX12_notes_74 (by decide) ?_
    refine lv_iadd hx hb dX12_notes_75 ?_
    refine lv_aload_n hx hb dX12_notes_76 rfl (lv_at hl 1 rfl) ?_
    refine va_get (D := D) (ci := 11) (v := .ref h_now) (C := RX12) (T := TX12) (N := 27) hx hb hts inTX12 hown hK.1 hP 0 rfl rfl 13 (by decide) (hts _ t4_137) (fun _ h9 => h9) rfl dX12_notes_77 ?_
    refine lv_iconst (v := 3) hx hb dX12_notes_80 (by decide) ?_
    refine s_iald (j := 3) hx hb hK.1 hP 2 0 rfl rfl (vi (by decide)) (by decide) dX12_notes_81 ?_
    obtain ⟨hi2, hF⟩ := hF
    refine s_iast (j := (((11 * w_acts) + 1)).toNatClampNeg) hx hb hK.1 hP hD hS 1 0 rfl rfl hi2 rfl dX12_notes_82 (fun H locs hP hD hS => ?_)
    have hP : va_P D CL [(h_this, .inr (11, [x_lane, x_many, x_items, x_spare, .int v_status, x_tape, .int v_taped, .int v_faultKind, .int v_faultPlace, .int v_at, .int v_start, .int v_token, .int v_value, .ref h_now, x_draft, x_tried, .ref h_past, .int w_acts, x_images, x_kept, x_trace, .int v_traced, x_comes, x_standing, x_brought, x_habit, .int v_livedMany])), (h_past, .inl (cy 0, 264, .inl (upd (upd w_past (((11 * w_acts)).toNatClampNeg) (v_now 2)) ((((11 * w_acts) + 1)).toNatClampNeg) (v_now 3)))), (h_now, .inl (cy 0, 124, .inl v_now))] H := hP
    have hD : va_D A [(h_this, .inr (11, [x_lane, x_many, x_items, x_spare, .int v_status, x_tape, .int v_taped, .int v_faultKind, .int v_faultPlace, .int v_at, .int v_start, .int v_token, .int v_value, .ref h_now, x_draft, x_tried, .ref h_past, .int w_acts, x_images, x_kept, x_trace, .int v_traced, x_comes, x_standing, x_brought, x_habit, .int v_livedMany])), (h_past, .inl (cy 0, 264, .inl (upd (upd w_past (((11 * w_acts)).toNatClampNeg) (v_now 2)) ((((11 * w_acts) + 1)).toNatClampNeg) (v_now 3)))), (h_now, .inl (cy 0, 124, .inl v_now))] := hD
    refine lv_aload_n hx hb dX12_notes_83 rfl (lv_at hl 1 rfl) ?_
    refine va_get (D := D) (ci := 11) (v := .ref h_past) (C := RX12) (T := TX12) (N := 27) hx hb hts inTX12 hown hK.1 hP 0 rfl rfl 16 (by decide) (hts _ t4_140) (fun _ h9 => h9) rfl dX12_notes_84 ?_
    refine lv_iload_n hx hb dX12_notes_87 rfl (lv_at hl 0 rfl) ?_
    refine lv_iconst (v := 2) hx hb dX12_notes_88 (by decide) ?_
    refine lv_iadd hx hb dX12_notes_89 ?_
    refine lv_aload_n hx hb dX12_notes_90 rfl (lv_at hl 1 rfl) ?_
    refine va_get (D := D) (ci := 11) (v := .ref h_now) (C := RX12) (T := TX12) (N := 27) hx hb hts inTX12 hown hK.1 hP 0 rfl rfl 13 (by decide) (hts _ t4_137) (fun _ h9 => h9) rfl dX12_notes_91 ?_
    refine lv_iconst (v := 4) hx hb dX12_notes_94 (by decide) ?_
    refine s_iald (j := 4) hx hb hK.1 hP 2 0 rfl rfl (vi (by decide)) (by decide) dX12_notes_95 ?_
    obtain ⟨hi3, hF⟩ := hF
    refine s_iast (j := (((11 * w_acts) + 2)).toNatClampNeg) hx hb hK.1 hP hD hS 1 0 rfl rfl hi3 rfl dX12_notes_96 (fun H locs hP hD hS => ?_)
    have hP : va_P D CL [(h_this, .inr (11, [x_lane, x_many, x_items, x_spare, .int v_status, x_tape, .int v_taped, .int v_faultKind, .int v_faultPlace, .int v_at, .int v_start, .int v_token, .int v_value, .ref h_now, x_draft, x_tried, .ref h_past, .int w_acts, x_images, x_kept, x_trace, .int v_traced, x_comes, x_standing, x_brought, x_habit, .int v_livedMany])), (h_past, .inl (cy 0, 264, .inl (upd (upd (upd w_past (((11 * w_acts)).toNatClampNeg) (v_now 2)) ((((11 * w_acts) + 1)).toNatClampNeg) (v_now 3)) ((((11 * w_acts) + 2)).toNatClampNeg) (v_now 4)))), (h_now, .inl (cy 0, 124, .inl v_now))] H := hP
    have hD : va_D A [(h_this, .inr (11, [x_lane, x_many, x_items, x_spare, .int v_status, x_tape, .int v_taped, .int v_faultKind, .int v_faultPlace, .int v_at, .int v_start, .int v_token, .int v_value, .ref h_now, x_draft, x_tried, .ref h_past, .int w_acts, x_images, x_kept, x_trace, .int v_traced, x_comes, x_standing, x_brought, x_habit, .int v_livedMany])), (h_past, .inl (cy 0, 264, .inl (upd (upd (upd w_past (((11 * w_acts)).toNatClampNeg) (v_now 2)) ((((11 * w_acts) + 1)).toNatClampNeg) (v_now 3)) ((((11 * w_acts) + 2)).toNatClampNeg) (v_now 4)))), (h_now, .inl (cy 0, 124, .inl v_now))] := hD
    refine lv_aload_n hx hb dX12_notes_97 rfl (lv_at hl 1 rfl) ?_
    refine va_get (D := D) (ci := 11) (v := .ref h_past) (C := RX12) (T := TX12) (N := 27) hx hb hts inTX12 hown hK.1 hP 0 rfl rfl 16 (by decide) (hts _ t4_140) (fun _ h9 => h9) rfl dX12_notes_98 ?_
    refine lv_iload_n hx hb dX12_notes_101 rfl (lv_at hl 0 rfl) ?_
    refine lv_iconst (v := 3) hx hb dX12_notes_102 (by decide) ?_
    refine lv_iadd hx hb dX12_notes_103 ?_
    refine lv_aload_n hx hb dX12_notes_104 rfl (lv_at hl 1 rfl) ?_
    refine va_get (D := D) (ci := 11) (v := .ref h_now) (C := RX12) (T := TX12) (N := 27) hx hb hts inTX12 hown hK.1 hP 0 rfl rfl 13 (by decide) (hts _ t4_137) (fun _ h9 => h9) rfl dX12_notes_105 ?_
    refine lv_iconst (v := 5) hx hb dX12_notes_108 (by decide) ?_
    refine s_iald (j := 5) hx hb hK.1 hP 2 0 rfl rfl (vi (by decide)) (by decide) dX12_notes_109 ?_
    obtain ⟨hi4, hF⟩ := hF
    refine s_iast (j := (((11 * w_acts) + 3)).toNatClampNeg) hx hb hK.1 hP hD hS 1 0 rfl rfl hi4 rfl dX12_notes_110 (fun H locs hP hD hS => ?_)
    have hP : va_P D CL [(h_this, .inr (11, [x_lane, x_many, x_items, x_spare, .int v_status, x_tape, .int v_taped, .int v_faultKind, .int v_faultPlace, .int v_at, .int v_start, .int v_token, .int v_value, .ref h_now, x_draft, x_tried, .ref h_past, .int w_acts, x_images, x_kept, x_trace, .int v_traced, x_comes, x_standing, x_brought, x_habit, .int v_livedMany])), (h_past, .inl (cy 0, 264, .inl (upd (upd (upd (upd w_past (((11 * w_acts)).toNatClampNeg) (v_now 2)) ((((11 * w_acts) + 1)).toNatClampNeg) (v_now 3)) ((((11 * w_acts) + 2)).toNatClampNeg) (v_now 4)) ((((11 * w_acts) + 3)).toNatClampNeg) (v_now 5)))), (h_now, .inl (cy 0, 124, .inl v_now))] H := hP
    have hD : va_D A [(h_this, .inr (11, [x_lane, x_many, x_items, x_spare, .int v_status, x_tape, .int v_taped, .int v_faultKind, .int v_faultPlace, .int v_at, .int v_start, .int v_token, .int v_value, .ref h_now, x_draft, x_tried, .ref h_past, .int w_acts, x_images, x_kept, x_trace, .int v_traced, x_comes, x_standing, x_brought, x_habit, .int v_livedMany])), (h_past, .inl (cy 0, 264, .inl (upd (upd (upd (upd w_past (((11 * w_acts)).toNatClampNeg) (v_now 2)) ((((11 * w_acts) + 1)).toNatClampNeg) (v_now 3)) ((((11 * w_acts) + 2)).toNatClampNeg) (v_now 4)) ((((11 * w_acts) + 3)).toNatClampNeg) (v_now 5)))), (h_now, .inl (cy 0, 124, .inl v_now))] := hD
    refine lv_aload_n hx hb dX12_notes_111 rfl (lv_at hl 1 rfl) ?_
    refine va_get (D := D) (ci := 11) (v := .ref h_past) (C := RX12) (T := TX12) (N := 27) hx hb hts inTX12 hown hK.1 hP 0 rfl rfl 16 (by decide) (hts _ t4_140) (fun _ h9 => h9) rfl dX12_notes_112 ?_
    refine lv_iload_n hx hb dX12_notes_115 rfl (lv_at hl 0 rfl) ?_
    refine lv_iconst (v := 4) hx hb dX12_notes_116 (by decide) ?_
    refine lv_iadd hx hb dX12_notes_117 ?_
    refine lv_aload_n hx hb dX12_notes_118 rfl (lv_at hl 1 rfl) ?_
    refine va_get (D := D) (ci := 11) (v := .ref h_now) (C := RX12) (T := TX12) (N := 27) hx hb hts inTX12 hown hK.1 hP 0 rfl rfl 13 (by decide) (hts _ t4_137) (fun _ h9 => h9) rfl dX12_notes_119 ?_
    refine lv_bipush (v := 24) hx hb dX12_notes_122 (by decide) ?_
    refine lv_aload_n hx hb dX12_notes_124 rfl (lv_at hl 1 rfl) ?_
    refine va_get (D := D) (ci := 11) (v := .ref h_now) (C := RX12) (T := TX12) (N := 27) hx hb hts inTX12 hown hK.1 hP 0 rfl rfl 13 (by decide) (hts _ t4_137) (fun _ h9 => h9) rfl dX12_notes_125 ?_
    refine lv_iconst (v := 5) hx hb dX12_notes_128 (by decide) ?_
    refine s_iald (j := 5) hx hb hK.1 hP 2 0 rfl rfl (vi (by decide)) (by decide) dX12_notes_129 ?_
    refine lv_iadd hx hb dX12_notes_130 ?_
    obtain ⟨hi5, hF⟩ := hF
    refine s_iald (j := ((24 + (v_now 5))).toNatClampNeg) hx hb hK.1 hP 2 0 rfl rfl hi5 rfl dX12_notes_131 ?_
    obtain ⟨hi6, hF⟩ := hF
    refine s_iast (j := (((11 * w_acts) + 4)).toNatClampNeg) hx hb hK.1 hP hD hS 1 0 rfl rfl hi6 rfl dX12_notes_132 (fun H locs hP hD hS => ?_)
    have hP : va_P D CL [(h_this, .inr (11, [x_lane, x_many, x_items, x_spare, .int v_status, x_tape, .int v_taped, .int v_faultKind, .int v_faultPlace, .int v_at, .int v_start, .int v_token, .int v_value, .ref h_now, x_draft, x_tried, .ref h_past, .int w_acts, x_images, x_kept, x_trace, .int v_traced, x_comes, x_standing, x_brought, x_habit, .int v_livedMany])), (h_past, .inl (cy 0, 264, .inl (upd (upd (upd (upd (upd w_past (((11 * w_acts)).toNatClampNeg) (v_now 2)) ((((11 * w_acts) + 1)).toNatClampNeg) (v_now 3)) ((((11 * w_acts) + 2)).toNatClampNeg) (v_now 4)) ((((11 * w_acts) + 3)).toNatClampNeg) (v_now 5)) ((((11 * w_acts) + 4)).toNatClampNeg) (v_now (((24 + (v_now 5))).toNatClampNeg))))), (h_now, .inl (cy 0, 124, .inl v_now))] H := hP
    have hD : va_D A [(h_this, .inr (11, [x_lane, x_many, x_items, x_spare, .int v_status, x_tape, .int v_taped, .int v_faultKind, .int v_faultPlace, .int v_at, .int v_start, .int v_token, .int v_value, .ref h_now, x_draft, x_tried, .ref h_past, .int w_acts, x_images, x_kept, x_trace, .int v_traced, x_comes, x_standing, x_brought, x_habit, .int v_livedMany])), (h_past, .inl (cy 0, 264, .inl (upd (upd (upd (upd (upd w_past (((11 * w_acts)).toNatClampNeg) (v_now 2)) ((((11 * w_acts) + 1)).toNatClampNeg) (v_now 3)) ((((11 * w_acts) + 2)).toNatClampNeg) (v_now 4)) ((((11 * w_acts) + 3)).toNatClampNeg) (v_now 5)) ((((11 * w_acts) + 4)).toNatClampNeg) (v_now (((24 + (v_now 5))).toNatClampNeg))))), (h_now, .inl (cy 0, 124, .inl v_now))] := hD
    refine lv_iconst (v := 0) hx hb dX12_notes_133 (by decide) ?_
    refine lv_istore_n (lv' := [(2, .int 0), (1, .int (11 * w_acts)), (0, .ref h_this)]) hx hb dX12_notes_134 rfl hl (by decide) rfl (fun ls hl => ?_)
    exact L_135 fu (11 * w_acts) 0 w_acts (upd (upd (upd (upd (upd w_past (((11 * w_acts)).toNatClampNeg) (v_now 2)) ((((11 * w_acts) + 1)).toNatClampNeg) (v_now 3)) ((((11 * w_acts) + 2)).toNatClampNeg) (v_now 4)) ((((11 * w_acts) + 3)).toNatClampNeg) (v_now 5)) ((((11 * w_acts) + 4)).toNatClampNeg) (v_now (((24 + (v_now 5))).toNatClampNeg))) _ _ ls  hP hD hS (lv_sub hl [2, 1, 0] rfl) hF
  have L_11 : ∀ (n_11 : Nat) (l1 : Int32) (w_acts : Int32) (w_past : Nat → Int32) (H : Heap) (locs : List Loc) (ls : Array Slot), va_P D CL [(h_this, .inr (11, [x_lane, x_many, x_items, x_spare, .int v_status, x_tape, .int v_taped, .int v_faultKind, .int v_faultPlace, .int v_at, .int v_start, .int v_token, .int v_value, .ref h_now, x_draft, x_tried, .ref h_past, .int w_acts, x_images, x_kept, x_trace, .int v_traced, x_comes, x_standing, x_brought, x_habit, .int v_livedMany])), (h_past, .inl (cy 0, 264, .inl w_past)), (h_now, .inl (cy 0, 124, .inl v_now))] H → va_D A [(h_this, .inr (11, [x_lane, x_many, x_items, x_spare, .int v_status, x_tape, .int v_taped, .int v_faultKind, .int v_faultPlace, .int v_at, .int v_start, .int v_token, .int v_value, .ref h_now, x_draft, x_tried, .ref h_past, .int w_acts, x_images, x_kept, x_trace, .int v_traced, x_comes, x_standing, x_brought, x_habit, .int v_livedMany])), (h_past, .inl (cy 0, 264, .inl w_past)), (h_now, .inl (cy 0, 124, .inl v_now))] → va_S A s.heap H locs → lv_has ls 3 [(0, .ref h_this), (1, .int l1)] → wlX12_notes_11 v_now post n_11 l1 w_acts w_past → W p l e rmX12_notes s m args below meth c H locs 0 0 Q (F0 m 11 ls []) := by
    intro n_11
    induction n_11 with
    | zero =>
      intro l1 w_acts w_past H locs ls  hP hD hS hl hF
      simp only [wlX12_notes_11] at hF
    | succ n_11 ih_11 =>
      intro l1 w_acts w_past H locs ls  hP hD hS hl hF
      unfold wlX12_notes_11 at hF
      refine lv_iload_n hx hb dX12_notes_11 rfl (lv_at hl 1 rfl) ?_
      refine lv_sipush (v := 253) hx hb dX12_notes_12 (by decide) ?_
      refine lv_icmp_ge (tgt := 39) hx hb dX12_notes_15 (by decide) (fun c_ => ?_) (fun c_ => ?_)
      · have hF := hF.1 c_
        refine lv_aload_n hx hb dX12_notes_39 rfl (lv_at hl 0 rfl) ?_
        refine lv_dup hx hb dX12_notes_40 rfl ?_
        refine va_get (D := D) (ci := 11) (v := .int w_acts) (C := RX12) (T := TX12) (N := 27) hx hb hts inTX12 hown hK.1 hP 0 rfl rfl 17 (by decide) (hts _ t4_141) (fun _ h9 => h9) rfl dX12_notes_41 ?_
        refine lv_iconst (v := 1) hx hb dX12_notes_44 (by decide) ?_
        refine lv_isub hx hb dX12_notes_45 ?_
        refine va_put (D := D) (ci := 11) (v := .int (w_acts - 1)) (ty := .int) (C := RX12) (T := TX12) (N := 27) hx hb hts inTX12 tyX12 tyX12_ok nmX12 hown hK.1 hP hD hS 0 rfl rfl 17 (by decide) (hts _ t4_141) (fun _ h9 => h9) rfl (tyX12_ok 17 (by decide)) rfl rfl (Nat.le_of_ble_eq_true rfl) dX12_notes_46 (fun H locs hP hD hS => ?_)
        have hP : va_P D CL [(h_this, .inr (11, [x_lane, x_many, x_items, x_spare, .int v_status, x_tape, .int v_taped, .int v_faultKind, .int v_faultPlace, .int v_at, .int v_start, .int v_token, .int v_value, .ref h_now, x_draft, x_tried, .ref h_past, .int (w_acts - 1), x_images, x_kept, x_trace, .int v_traced, x_comes, x_standing, x_brought, x_habit, .int v_livedMany])), (h_past, .inl (cy 0, 264, .inl w_past)), (h_now, .inl (cy 0, 124, .inl v_now))] H := hP
        have hD : va_D A [(h_this, .inr (11, [x_lane, x_many, x_items, x_spare, .int v_status, x_tape, .int v_taped, .int v_faultKind, .int v_faultPlace, .int v_at, .int v_start, .int v_token, .int v_value, .ref h_now, x_draft, x_tried, .ref h_past, .int (w_acts - 1), x_images, x_kept, x_trace, .int v_traced, x_comes, x_standing, x_brought, x_habit, .int v_livedMany])), (h_past, .inl (cy 0, 264, .inl w_past)), (h_now, .inl (cy 0, 124, .inl v_now))] := hD
        exact J_49 (w_acts - 1) w_past _ _ ls  hP hD hS (lv_sub hl [0] rfl) hF
      · have hF := hF.2 c_
        refine lv_aload_n hx hb dX12_notes_18 rfl (lv_at hl 0 rfl) ?_
        refine va_get (D := D) (ci := 11) (v := .ref h_past) (C := RX12) (T := TX12) (N := 27) hx hb hts inTX12 hown hK.1 hP 0 rfl rfl 16 (by decide) (hts _ t4_140) (fun _ h9 => h9) rfl dX12_notes_19 ?_
        refine lv_iload_n hx hb dX12_notes_22 rfl (lv_at hl 1 rfl) ?_
        refine lv_aload_n hx hb dX12_notes_23 rfl (lv_at hl 0 rfl) ?_
        refine va_get (D := D) (ci := 11) (v := .ref h_past) (C := RX12) (T := TX12) (N := 27) hx hb hts inTX12 hown hK.1 hP 0 rfl rfl 16 (by decide) (hts _ t4_140) (fun _ h9 => h9) rfl dX12_notes_24 ?_
        refine lv_iload_n hx hb dX12_notes_27 rfl (lv_at hl 1 rfl) ?_
        refine lv_bipush (v := 11) hx hb dX12_notes_28 (by decide) ?_
        refine lv_iadd hx hb dX12_notes_30 ?_
        obtain ⟨hi1, hF⟩ := hF
        refine s_iald (j := ((l1 + 11)).toNatClampNeg) hx hb hK.1 hP 1 0 rfl rfl hi1 rfl dX12_notes_31 ?_
        obtain ⟨hi2, hF⟩ := hF
        refine s_iast (j := (l1).toNatClampNeg) hx hb hK.1 hP hD hS 1 0 rfl rfl hi2 rfl dX12_notes_32 (fun H locs hP hD hS => ?_)
        have hP : va_P D CL [(h_this, .inr (11, [x_lane, x_many, x_items, x_spare, .int v_status, x_tape, .int v_taped, .int v_faultKind, .int v_faultPlace, .int v_at, .int v_start, .int v_token, .int v_value, .ref h_now, x_draft, x_tried, .ref h_past, .int w_acts, x_images, x_kept, x_trace, .int v_traced, x_comes, x_standing, x_brought, x_habit, .int v_livedMany])), (h_past, .inl (cy 0, 264, .inl (upd w_past ((l1).toNatClampNeg) (w_past (((l1 + 11)).toNatClampNeg))))), (h_now, .inl (cy 0, 124, .inl v_now))] H := hP
        have hD : va_D A [(h_this, .inr (11, [x_lane, x_many, x_items, x_spare, .int v_status, x_tape, .int v_taped, .int v_faultKind, .int v_faultPlace, .int v_at, .int v_start, .int v_token, .int v_value, .ref h_now, x_draft, x_tried, .ref h_past, .int w_acts, x_images, x_kept, x_trace, .int v_traced, x_comes, x_standing, x_brought, x_habit, .int v_livedMany])), (h_past, .inl (cy 0, 264, .inl (upd w_past ((l1).toNatClampNeg) (w_past (((l1 + 11)).toNatClampNeg))))), (h_now, .inl (cy 0, 124, .inl v_now))] := hD
        refine lv_iinc (v := (l1 + 1)) (lv' := [(1, .int (l1 + 1)), (0, .ref h_this)]) hx hb dX12_notes_33 hl (k := 1) rfl rfl (by decide) rfl (fun ls hl => ?_)
        refine lv_goto (tgt := 11) hx hb dX12_notes_36 (by decide) ?_
        exact ih_11 (l1 + 1) w_acts (upd w_past ((l1).toNatClampNeg) (w_past (((l1 + 11)).toNatClampNeg))) _ _ ls  hP hD hS (lv_sub hl [1, 0] rfl) hF
  unfold wpX12_notes at hF
  refine lv_aload_n hx hb dX12_notes_0 rfl (lv_at hl 0 rfl) ?_
  refine va_get (D := D) (ci := 11) (v := .int v_acts) (C := RX12) (T := TX12) (N := 27) hx hb hts inTX12 hown hK.1 hP 0 rfl rfl 17 (by decide) (hts _ t4_141) (fun _ h9 => h9) rfl dX12_notes_1 ?_
  refine lv_bipush (v := 24) hx hb dX12_notes_4 (by decide) ?_
  refine lv_icmp_ne (tgt := 49) hx hb dX12_notes_6 (by decide) (fun c_ => ?_) (fun c_ => ?_)
  · have hF := hF.1 c_
    exact J_49 v_acts v_past _ _ ls  hP hD hS (lv_sub hl [0] rfl) hF
  · have hF := hF.2 c_
    refine lv_iconst (v := 0) hx hb dX12_notes_9 (by decide) ?_
    refine lv_istore_n (lv' := [(1, .int 0), (0, .ref h_this)]) hx hb dX12_notes_10 rfl hl (by decide) rfl (fun ls hl => ?_)
    exact L_11 fu 0 v_acts v_past _ _ ls  hP hD hS (lv_sub hl [1, 0] rfl) hF

def wlX12_undo_121 (v_past : Nat → Int32) (post : Int32 → Int32 → (Nat → Int32) → Prop) : Nat → Int32 → Int32 → Int32 → (Nat → Int32) → Prop
  | 0, _, _, _, _ => False
  | n + 1, l1, l2, w_acts, w_now => (3 ≤ l2 → (post w_acts w_acts w_now)) ∧ (¬ 3 ≤ l2 → (vp_in ((l1 + 5) + l2) 264 ∧ (vp_in ((6 + (6 * l2)) + 4) 124 ∧ (vp_in ((l1 + 8) + l2) 264 ∧ (vp_in ((6 + (6 * l2)) + 5) 124 ∧ ((wlX12_undo_121 v_past post n) l1 (l2 + 1) w_acts (upd (upd w_now ((((6 + (6 * l2)) + 4)).toNatClampNeg) (v_past ((((l1 + 5) + l2)).toNatClampNeg))) ((((6 + (6 * l2)) + 5)).toNatClampNeg) (v_past ((((l1 + 8) + l2)).toNatClampNeg)))))))))
def wpX12_undo (v_acts : Int32) (v_now : Nat → Int32) (v_past : Nat → Int32) (post : Int32 → Int32 → (Nat → Int32) → Prop) : Prop := (¬ v_acts = 0 → (vp_in (24 + (v_now 5)) 124 ∧ (vp_in (11 * (v_acts - 1)) 264 ∧ (vp_in ((11 * (v_acts - 1)) + 1) 264 ∧ (vp_in ((11 * (v_acts - 1)) + 2) 264 ∧ (vp_in ((11 * (v_acts - 1)) + 3) 264 ∧ (vp_in ((11 * (v_acts - 1)) + 4) 264 ∧ (vp_in (24 + ((upd (upd (upd (upd (upd v_now (((24 + (v_now 5))).toNatClampNeg) 0) 2 (v_past (((11 * (v_acts - 1))).toNatClampNeg))) 3 (v_past ((((11 * (v_acts - 1)) + 1)).toNatClampNeg))) 4 (v_past ((((11 * (v_acts - 1)) + 2)).toNatClampNeg))) 5 (v_past ((((11 * (v_acts - 1)) + 3)).toNatClampNeg))) 5)) 124 ∧ (wlX12_undo_121 v_past post fu (11 * (v_acts - 1)) 0 (v_acts - 1) (upd (upd (upd (upd (upd (upd v_now (((24 + (v_now 5))).toNatClampNeg) 0) 2 (v_past (((11 * (v_acts - 1))).toNatClampNeg))) 3 (v_past ((((11 * (v_acts - 1)) + 1)).toNatClampNeg))) 4 (v_past ((((11 * (v_acts - 1)) + 2)).toNatClampNeg))) 5 (v_past ((((11 * (v_acts - 1)) + 3)).toNatClampNeg))) (((24 + ((upd (upd (upd (upd (upd v_now (((24 + (v_now 5))).toNatClampNeg) 0) 2 (v_past (((11 * (v_acts - 1))).toNatClampNeg))) 3 (v_past ((((11 * (v_acts - 1)) + 1)).toNatClampNeg))) 4 (v_past ((((11 * (v_acts - 1)) + 2)).toNatClampNeg))) 5 (v_past ((((11 * (v_acts - 1)) + 3)).toNatClampNeg))) 5))).toNatClampNeg) (v_past ((((11 * (v_acts - 1)) + 4)).toNatClampNeg)))))))))))) ∧ (v_acts = 0 → (post (-1000002) v_acts v_now))
abbrev miX12_undo : MI := (yX12_undo, cX12_undo, 3, (some .int))
theorem mfX12_undo : MF miX12_undo 0 := ⟨t5_54, t1_8, by decide +kernel⟩
abbrev rmX12_undo : Room := { frames := 0, cells := 0, slots := 0, locals := 0 }
set_option maxHeartbeats 4000000 in
set_option maxRecDepth 100000 in
theorem ccX12_undo (l : Launch) (D : va_G) (cy : Nat → ClassId) (h_this : Nat) (h_now : Nat) (h_past : Nat) (x_lane : Value) (x_many : Value) (x_items : Value) (x_spare : Value) (x_tape : Value) (x_draft : Value) (x_tried : Value) (x_images : Value) (x_kept : Value) (x_trace : Value) (x_comes : Value) (x_standing : Value) (x_brought : Value) (x_habit : Value) (v_status : Int32) (v_taped : Int32) (v_faultKind : Int32) (v_faultPlace : Int32) (v_at : Int32) (v_start : Int32) (v_token : Int32) (v_value : Int32) (v_acts : Int32) (v_traced : Int32) (v_livedMany : Int32) (v_now : Nat → Int32) (v_past : Nat → Int32) (post : Int32 → Int32 → (Nat → Int32) → Prop) (hF : wpX12_undo v_acts v_now v_past post) : Ct l D cy miX12_undo rmX12_undo emI NP [.ref h_this] [(h_this, .inr (11, [x_lane, x_many, x_items, x_spare, .int v_status, x_tape, .int v_taped, .int v_faultKind, .int v_faultPlace, .int v_at, .int v_start, .int v_token, .int v_value, .ref h_now, x_draft, x_tried, .ref h_past, .int v_acts, x_images, x_kept, x_trace, .int v_traced, x_comes, x_standing, x_brought, x_habit, .int v_livedMany])), (h_now, .inl (cy 0, 124, .inl v_now)), (h_past, .inl (cy 0, 264, .inl v_past))] (fun r w1 => ∃ (w_acts : Int32) (w_now : Nat → Int32), w1 = [(h_this, .inr (11, [x_lane, x_many, x_items, x_spare, .int v_status, x_tape, .int v_taped, .int v_faultKind, .int v_faultPlace, .int v_at, .int v_start, .int v_token, .int v_value, .ref h_now, x_draft, x_tried, .ref h_past, .int w_acts, x_images, x_kept, x_trace, .int v_traced, x_comes, x_standing, x_brought, x_habit, .int v_livedMany])), (h_now, .inl (cy 0, 124, .inl w_now)), (h_past, .inl (cy 0, 264, .inl v_past))] ∧ post r w_acts w_now) := by
  refine Ct.of (by decide) (Nat.le_of_ble_eq_true rfl) ?_
  intro p e s m args below meth c A ls Q C hQ hA hI hP hD hS hl
  obtain ⟨hx, hb, hr, hml, hown, hts, hK, hlk, hnm⟩ := id C
  have hb : c.code = cX12_undo := hb
  have hml : c.maxLocals = 3 := hml
  have hown : s.vm.findClass RX12 = some m.cls := hown
  have hl : lv_has ls 3 [(0, .ref h_this)] := hl
  have L_121 : ∀ (n_121 : Nat) (l1 : Int32) (l2 : Int32) (w_acts : Int32) (w_now : Nat → Int32) (H : Heap) (locs : List Loc) (ls : Array Slot), va_P D CL [(h_this, .inr (11, [x_lane, x_many, x_items, x_spare, .int v_status, x_tape, .int v_taped, .int v_faultKind, .int v_faultPlace, .int v_at, .int v_start, .int v_token, .int v_value, .ref h_now, x_draft, x_tried, .ref h_past, .int w_acts, x_images, x_kept, x_trace, .int v_traced, x_comes, x_standing, x_brought, x_habit, .int v_livedMany])), (h_now, .inl (cy 0, 124, .inl w_now)), (h_past, .inl (cy 0, 264, .inl v_past))] H → va_D A [(h_this, .inr (11, [x_lane, x_many, x_items, x_spare, .int v_status, x_tape, .int v_taped, .int v_faultKind, .int v_faultPlace, .int v_at, .int v_start, .int v_token, .int v_value, .ref h_now, x_draft, x_tried, .ref h_past, .int w_acts, x_images, x_kept, x_trace, .int v_traced, x_comes, x_standing, x_brought, x_habit, .int v_livedMany])), (h_now, .inl (cy 0, 124, .inl w_now)), (h_past, .inl (cy 0, 264, .inl v_past))] → va_S A s.heap H locs → lv_has ls 3 [(0, .ref h_this), (1, .int l1), (2, .int l2)] → wlX12_undo_121 v_past post n_121 l1 l2 w_acts w_now → W p l e rmX12_undo s m args below meth c H locs 0 0 Q (F0 m 121 ls []) := by
    intro n_121
    induction n_121 with
    | zero =>
      intro l1 l2 w_acts w_now H locs ls  hP hD hS hl hF
      simp only [wlX12_undo_121] at hF
    | succ n_121 ih_121 =>
      intro l1 l2 w_acts w_now H locs ls  hP hD hS hl hF
      unfold wlX12_undo_121 at hF
      refine lv_iload_n hx hb dX12_undo_121 rfl (lv_at hl 2 rfl) ?_
      refine lv_iconst (v := 3) hx hb dX12_undo_122 (by decide) ?_
      refine lv_icmp_ge (tgt := 181) hx hb dX12_undo_123 (by decide) (fun c_ => ?_) (fun c_ => ?_)
      · have hF := hF.1 c_
        refine lv_aload_n hx hb dX12_undo_181 rfl (lv_at hl 0 rfl) ?_
        refine va_get (D := D) (ci := 11) (v := .int w_acts) (C := RX12) (T := TX12) (N := 27) hx hb hts inTX12 hown hK.1 hP 0 rfl rfl 17 (by decide) (hts _ t4_141) (fun _ h9 => h9) rfl dX12_undo_182 ?_
        exact rt_i C hQ rfl hP hD hS ⟨w_acts, w_now, rfl, hF⟩ dX12_undo_185
      · have hF := hF.2 c_
        refine lv_aload_n hx hb dX12_undo_126 rfl (lv_at hl 0 rfl) ?_
        refine va_get (D := D) (ci := 11) (v := .ref h_now) (C := RX12) (T := TX12) (N := 27) hx hb hts inTX12 hown hK.1 hP 0 rfl rfl 13 (by decide) (hts _ t4_137) (fun _ h9 => h9) rfl dX12_undo_127 ?_
        refine lv_bipush (v := 6) hx hb dX12_undo_130 (by decide) ?_
        refine lv_bipush (v := 6) hx hb dX12_undo_132 (by decide) ?_
        refine lv_iload_n hx hb dX12_undo_134 rfl (lv_at hl 2 rfl) ?_
        refine lv_imul hx hb dX12_undo_135 ?_
        refine lv_iadd hx hb dX12_undo_136 ?_
        refine lv_iconst (v := 4) hx hb dX12_undo_137 (by decide) ?_
        refine lv_iadd hx hb dX12_undo_138 ?_
        refine lv_aload_n hx hb dX12_undo_139 rfl (lv_at hl 0 rfl) ?_
        refine va_get (D := D) (ci := 11) (v := .ref h_past) (C := RX12) (T := TX12) (N := 27) hx hb hts inTX12 hown hK.1 hP 0 rfl rfl 16 (by decide) (hts _ t4_140) (fun _ h9 => h9) rfl dX12_undo_140 ?_
        refine lv_iload_n hx hb dX12_undo_143 rfl (lv_at hl 1 rfl) ?_
        refine lv_iconst (v := 5) hx hb dX12_undo_144 (by decide) ?_
        refine lv_iadd hx hb dX12_undo_145 ?_
        refine lv_iload_n hx hb dX12_undo_146 rfl (lv_at hl 2 rfl) ?_
        refine lv_iadd hx hb dX12_undo_147 ?_
        obtain ⟨hi1, hF⟩ := hF
        refine s_iald (j := (((l1 + 5) + l2)).toNatClampNeg) hx hb hK.1 hP 2 0 rfl rfl hi1 rfl dX12_undo_148 ?_
        obtain ⟨hi2, hF⟩ := hF
        refine s_iast (j := (((6 + (6 * l2)) + 4)).toNatClampNeg) hx hb hK.1 hP hD hS 1 0 rfl rfl hi2 rfl dX12_undo_149 (fun H locs hP hD hS => ?_)
        have hP : va_P D CL [(h_this, .inr (11, [x_lane, x_many, x_items, x_spare, .int v_status, x_tape, .int v_taped, .int v_faultKind, .int v_faultPlace, .int v_at, .int v_start, .int v_token, .int v_value, .ref h_now, x_draft, x_tried, .ref h_past, .int w_acts, x_images, x_kept, x_trace, .int v_traced, x_comes, x_standing, x_brought, x_habit, .int v_livedMany])), (h_now, .inl (cy 0, 124, .inl (upd w_now ((((6 + (6 * l2)) + 4)).toNatClampNeg) (v_past ((((l1 + 5) + l2)).toNatClampNeg))))), (h_past, .inl (cy 0, 264, .inl v_past))] H := hP
        have hD : va_D A [(h_this, .inr (11, [x_lane, x_many, x_items, x_spare, .int v_status, x_tape, .int v_taped, .int v_faultKind, .int v_faultPlace, .int v_at, .int v_start, .int v_token, .int v_value, .ref h_now, x_draft, x_tried, .ref h_past, .int w_acts, x_images, x_kept, x_trace, .int v_traced, x_comes, x_standing, x_brought, x_habit, .int v_livedMany])), (h_now, .inl (cy 0, 124, .inl (upd w_now ((((6 + (6 * l2)) + 4)).toNatClampNeg) (v_past ((((l1 + 5) + l2)).toNatClampNeg))))), (h_past, .inl (cy 0, 264, .inl v_past))] := hD
        refine lv_aload_n hx hb dX12_undo_150 rfl (lv_at hl 0 rfl) ?_
        refine va_get (D := D) (ci := 11) (v := .ref h_now) (C := RX12) (T := TX12) (N := 27) hx hb hts inTX12 hown hK.1 hP 0 rfl rfl 13 (by decide) (hts _ t4_137) (fun _ h9 => h9) rfl dX12_undo_151 ?_
        refine lv_bipush (v := 6) hx hb dX12_undo_154 (by decide) ?_
        refine lv_bipush (v := 6) hx hb dX12_undo_156 (by decide) ?_
        refine lv_iload_n hx hb dX12_undo_158 rfl (lv_at hl 2 rfl) ?_
        refine lv_imul hx hb dX12_undo_159 ?_
        refine lv_iadd hx hb dX12_undo_160 ?_
        refine lv_iconst (v := 5) hx hb dX12_undo_161 (by decide) ?_
        refine lv_iadd hx hb dX12_undo_162 ?_
        refine lv_aload_n hx hb dX12_undo_163 rfl (lv_at hl 0 rfl) ?_
        refine va_get (D := D) (ci := 11) (v := .ref h_past) (C := RX12) (T := TX12) (N := 27) hx hb hts inTX12 hown hK.1 hP 0 rfl rfl 16 (by decide) (hts _ t4_140) (fun _ h9 => h9) rfl dX12_undo_164 ?_
        refine lv_iload_n hx hb dX12_undo_167 rfl (lv_at hl 1 rfl) ?_
        refine lv_bipush (v := 8) hx hb dX12_undo_168 (by decide) ?_
        refine lv_iadd hx hb dX12_undo_170 ?_
        refine lv_iload_n hx hb dX12_undo_171 rfl (lv_at hl 2 rfl) ?_
        refine lv_iadd hx hb dX12_undo_172 ?_
        obtain ⟨hi3, hF⟩ := hF
        refine s_iald (j := (((l1 + 8) + l2)).toNatClampNeg) hx hb hK.1 hP 2 0 rfl rfl hi3 rfl dX12_undo_173 ?_
        obtain ⟨hi4, hF⟩ := hF
        refine s_iast (j := (((6 + (6 * l2)) + 5)).toNatClampNeg) hx hb hK.1 hP hD hS 1 0 rfl rfl hi4 rfl dX12_undo_174 (fun H locs hP hD hS => ?_)
        have hP : va_P D CL [(h_this, .inr (11, [x_lane, x_many, x_items, x_spare, .int v_status, x_tape, .int v_taped, .int v_faultKind, .int v_faultPlace, .int v_at, .int v_start, .int v_token, .int v_value, .ref h_now, x_draft, x_tried, .ref h_past, .int w_acts, x_images, x_kept, x_trace, .int v_traced, x_comes, x_standing, x_brought, x_habit, .int v_livedMany])), (h_now, .inl (cy 0, 124, .inl (upd (upd w_now ((((6 + (6 * l2)) + 4)).toNatClampNeg) (v_past ((((l1 + 5) + l2)).toNatClampNeg))) ((((6 + (6 * l2)) + 5)).toNatClampNeg) (v_past ((((l1 + 8) + l2)).toNatClampNeg))))), (h_past, .inl (cy 0, 264, .inl v_past))] H := hP
        have hD : va_D A [(h_this, .inr (11, [x_lane, x_many, x_items, x_spare, .int v_status, x_tape, .int v_taped, .int v_faultKind, .int v_faultPlace, .int v_at, .int v_start, .int v_token, .int v_value, .ref h_now, x_draft, x_tried, .ref h_past, .int w_acts, x_images, x_kept, x_trace, .int v_traced, x_comes, x_standing, x_brought, x_habit, .int v_livedMany])), (h_now, .inl (cy 0, 124, .inl (upd (upd w_now ((((6 + (6 * l2)) + 4)).toNatClampNeg) (v_past ((((l1 + 5) + l2)).toNatClampNeg))) ((((6 + (6 * l2)) + 5)).toNatClampNeg) (v_past ((((l1 + 8) + l2)).toNatClampNeg))))), (h_past, .inl (cy 0, 264, .inl v_past))] := hD
        refine lv_iinc (v := (l2 + 1)) (lv' := [(2, .int (l2 + 1)), (0, .ref h_this), (1, .int l1)]) hx hb dX12_undo_175 hl (k := 2) rfl rfl (by decide) rfl (fun ls hl => ?_)
        refine lv_goto (tgt := 121) hx hb dX12_undo_178 (by decide) ?_
        exact ih_121 l1 (l2 + 1) w_acts (upd (upd w_now ((((6 + (6 * l2)) + 4)).toNatClampNeg) (v_past ((((l1 + 5) + l2)).toNatClampNeg))) ((((6 + (6 * l2)) + 5)).toNatClampNeg) (v_past ((((l1 + 8) + l2)).toNatClampNeg))) _ _ ls  hP hD hS (lv_sub hl [1, 2, 0] rfl) hF
  unfold wpX12_undo at hF
  refine lv_aload_n hx hb dX12_undo_0 rfl (lv_at hl 0 rfl) ?_
  refine va_get (D := D) (ci := 11) (v := .int v_acts) (C := RX12) (T := TX12) (N := 27) hx hb hts inTX12 hown hK.1 hP 0 rfl rfl 17 (by decide) (hts _ t4_141) (fun _ h9 => h9) rfl dX12_undo_1 ?_
  refine lv_if_ne (tgt := 10) hx hb dX12_undo_4 (by decide) (fun c_ => ?_) (fun c_ => ?_)
  · have hF := hF.1 c_
    refine lv_aload_n hx hb dX12_undo_10 rfl (lv_at hl 0 rfl) ?_
    refine lv_dup hx hb dX12_undo_11 rfl ?_
    refine va_get (D := D) (ci := 11) (v := .int v_acts) (C := RX12) (T := TX12) (N := 27) hx hb hts inTX12 hown hK.1 hP 0 rfl rfl 17 (by decide) (hts _ t4_141) (fun _ h9 => h9) rfl dX12_undo_12 ?_
    refine lv_iconst (v := 1) hx hb dX12_undo_15 (by decide) ?_
    refine lv_isub hx hb dX12_undo_16 ?_
    refine va_put (D := D) (ci := 11) (v := .int (v_acts - 1)) (ty := .int) (C := RX12) (T := TX12) (N := 27) hx hb hts inTX12 tyX12 tyX12_ok nmX12 hown hK.1 hP hD hS 0 rfl rfl 17 (by decide) (hts _ t4_141) (fun _ h9 => h9) rfl (tyX12_ok 17 (by decide)) rfl rfl (Nat.le_of_ble_eq_true rfl) dX12_undo_17 (fun H locs hP hD hS => ?_)
    have hP : va_P D CL [(h_this, .inr (11, [x_lane, x_many, x_items, x_spare, .int v_status, x_tape, .int v_taped, .int v_faultKind, .int v_faultPlace, .int v_at, .int v_start, .int v_token, .int v_value, .ref h_now, x_draft, x_tried, .ref h_past, .int (v_acts - 1), x_images, x_kept, x_trace, .int v_traced, x_comes, x_standing, x_brought, x_habit, .int v_livedMany])), (h_now, .inl (cy 0, 124, .inl v_now)), (h_past, .inl (cy 0, 264, .inl v_past))] H := hP
    have hD : va_D A [(h_this, .inr (11, [x_lane, x_many, x_items, x_spare, .int v_status, x_tape, .int v_taped, .int v_faultKind, .int v_faultPlace, .int v_at, .int v_start, .int v_token, .int v_value, .ref h_now, x_draft, x_tried, .ref h_past, .int (v_acts - 1), x_images, x_kept, x_trace, .int v_traced, x_comes, x_standing, x_brought, x_habit, .int v_livedMany])), (h_now, .inl (cy 0, 124, .inl v_now)), (h_past, .inl (cy 0, 264, .inl v_past))] := hD
    refine lv_bipush (v := 11) hx hb dX12_undo_20 (by decide) ?_
    refine lv_aload_n hx hb dX12_undo_22 rfl (lv_at hl 0 rfl) ?_
    refine va_get (D := D) (ci := 11) (v := .int (v_acts - 1)) (C := RX12) (T := TX12) (N := 27) hx hb hts inTX12 hown hK.1 hP 0 rfl rfl 17 (by decide) (hts _ t4_141) (fun _ h9 => h9) rfl dX12_undo_23 ?_
    refine lv_imul hx hb dX12_undo_26 ?_
    refine lv_istore_n (lv' := [(1, .int (11 * (v_acts - 1))), (0, .ref h_this)]) hx hb dX12_undo_27 rfl hl (by decide) rfl (fun ls hl => ?_)
    refine lv_aload_n hx hb dX12_undo_28 rfl (lv_at hl 1 rfl) ?_
    refine va_get (D := D) (ci := 11) (v := .ref h_now) (C := RX12) (T := TX12) (N := 27) hx hb hts inTX12 hown hK.1 hP 0 rfl rfl 13 (by decide) (hts _ t4_137) (fun _ h9 => h9) rfl dX12_undo_29 ?_
    refine lv_bipush (v := 24) hx hb dX12_undo_32 (by decide) ?_
    refine lv_aload_n hx hb dX12_undo_34 rfl (lv_at hl 1 rfl) ?_
    refine va_get (D := D) (ci := 11) (v := .ref h_now) (C := RX12) (T := TX12) (N := 27) hx hb hts inTX12 hown hK.1 hP 0 rfl rfl 13 (by decide) (hts _ t4_137) (fun _ h9 => h9) rfl dX12_undo_35 ?_
    refine lv_iconst (v := 5) hx hb dX12_undo_38 (by decide) ?_
    refine s_iald (j := 5) hx hb hK.1 hP 1 0 rfl rfl (vi (by decide)) (by decide) dX12_undo_39 ?_
    refine lv_iadd hx hb dX12_undo_40 ?_
    refine lv_iconst (v := 0) hx hb dX12_undo_41 (by decide) ?_
    obtain ⟨hi1, hF⟩ := hF
    refine s_iast (j := ((24 + (v_now 5))).toNatClampNeg) hx hb hK.1 hP hD hS 1 0 rfl rfl hi1 rfl dX12_undo_42 (fun H locs hP hD hS => ?_)
    have hP : va_P D CL [(h_this, .inr (11, [x_lane, x_many, x_items, x_spare, .int v_status, x_tape, .int v_taped, .int v_faultKind, .int v_faultPlace, .int v_at, .int v_start, .int v_token, .int v_value, .ref h_now, x_draft, x_tried, .ref h_past, .int (v_acts - 1), x_images, x_kept, x_trace, .int v_traced, x_comes, x_standing, x_brought, x_habit, .int v_livedMany])), (h_now, .inl (cy 0, 124, .inl (upd v_now (((24 + (v_now 5))).toNatClampNeg) 0))), (h_past, .inl (cy 0, 264, .inl v_past))] H := hP
    have hD : va_D A [(h_this, .inr (11, [x_lane, x_many, x_items, x_spare, .int v_status, x_tape, .int v_taped, .int v_faultKind, .int v_faultPlace, .int v_at, .int v_start, .int v_token, .int v_value, .ref h_now, x_draft, x_tried, .ref h_past, .int (v_acts - 1), x_images, x_kept, x_trace, .int v_traced, x_comes, x_standing, x_brought, x_habit, .int v_livedMany])), (h_now, .inl (cy 0, 124, .inl (upd v_now (((24 + (v_now 5))).toNatClampNeg) 0))), (h_past, .inl (cy 0, 264, .inl v_past))] := hD
    refine lv_aload_n hx hb dX12_undo_43 rfl (lv_at hl 1 rfl) ?_
    refine va_get (D := D) (ci := 11) (v := .ref h_now) (C := RX12) (T := TX12) (N := 27) hx hb hts inTX12 hown hK.1 hP 0 rfl rfl 13 (by decide) (hts _ t4_137) (fun _ h9 => h9) rfl dX12_undo_44 ?_
    refine lv_iconst (v := 2) hx hb dX12_undo_47 (by decide) ?_
    refine lv_aload_n hx hb dX12_undo_48 rfl (lv_at hl 1 rfl) ?_
    refine va_get (D := D) (ci := 11) (v := .ref h_past) (C := RX12) (T := TX12) (N := 27) hx hb hts inTX12 hown hK.1 hP 0 rfl rfl 16 (by decide) (hts _ t4_140) (fun _ h9 => h9) rfl dX12_undo_49 ?_
    refine lv_iload_n hx hb dX12_undo_52 rfl (lv_at hl 0 rfl) ?_
    obtain ⟨hi2, hF⟩ := hF
    refine s_iald (j := ((11 * (v_acts - 1))).toNatClampNeg) hx hb hK.1 hP 2 0 rfl rfl hi2 rfl dX12_undo_53 ?_
    refine s_iast (j := 2) hx hb hK.1 hP hD hS 1 0 rfl rfl (vi (by decide)) (by decide) dX12_undo_54 (fun H locs hP hD hS => ?_)
    have hP : va_P D CL [(h_this, .inr (11, [x_lane, x_many, x_items, x_spare, .int v_status, x_tape, .int v_taped, .int v_faultKind, .int v_faultPlace, .int v_at, .int v_start, .int v_token, .int v_value, .ref h_now, x_draft, x_tried, .ref h_past, .int (v_acts - 1), x_images, x_kept, x_trace, .int v_traced, x_comes, x_standing, x_brought, x_habit, .int v_livedMany])), (h_now, .inl (cy 0, 124, .inl (upd (upd v_now (((24 + (v_now 5))).toNatClampNeg) 0) 2 (v_past (((11 * (v_acts - 1))).toNatClampNeg))))), (h_past, .inl (cy 0, 264, .inl v_past))] H := hP
    have hD : va_D A [(h_this, .inr (11, [x_lane, x_many, x_items, x_spare, .int v_status, x_tape, .int v_taped, .int v_faultKind, .int v_faultPlace, .int v_at, .int v_start, .int v_token, .int v_value, .ref h_now, x_draft, x_tried, .ref h_past, .int (v_acts - 1), x_images, x_kept, x_trace, .int v_traced, x_comes, x_standing, x_brought, x_habit, .int v_livedMany])), (h_now, .inl (cy 0, 124, .inl (upd (upd v_now (((24 + (v_now 5))).toNatClampNeg) 0) 2 (v_past (((11 * (v_acts - 1))).toNatClampNeg))))), (h_past, .inl (cy 0, 264, .inl v_past))] := hD
    refine lv_aload_n hx hb dX12_undo_55 rfl (lv_at hl 1 rfl) ?_
    refine va_get (D := D) (ci := 11) (v := .ref h_now) (C := RX12) (T := TX12) (N := 27) hx hb hts inTX12 hown hK.1 hP 0 rfl rfl 13 (by decide) (hts _ t4_137) (fun _ h9 => h9) rfl dX12_undo_56 ?_
    refine lv_iconst (v := 3) hx hb dX12_undo_59 (by decide) ?_
    refine lv_aload_n hx hb dX12_undo_60 rfl (lv_at hl 1 rfl) ?_
    refine va_get (D := D) (ci := 11) (v := .ref h_past) (C := RX12) (T := TX12) (N := 27) hx hb hts inTX12 hown hK.1 hP 0 rfl rfl 16 (by decide) (hts _ t4_140) (fun _ h9 => h9) rfl dX12_undo_61 ?_
    refine lv_iload_n hx hb dX12_undo_64 rfl (lv_at hl 0 rfl) ?_
    refine lv_iconst (v := 1) hx hb dX12_undo_65 (by decide) ?_
    refine lv_iadd hx hb dX12_undo_66 ?_
    obtain ⟨hi3, hF⟩ := hF
    refine s_iald (j := (((11 * (v_acts - 1)) + 1)).toNatClampNeg) hx hb hK.1 hP 2 0 rfl rfl hi3 rfl dX12_undo_67 ?_
    refine s_iast (j := 3) hx hb hK.1 hP hD hS 1 0 rfl rfl (vi (by decide)) (by decide) dX12_undo_68 (fun H locs hP hD hS => ?_)
    have hP : va_P D CL [(h_this, .inr (11, [x_lane, x_many, x_items, x_spare, .int v_status, x_tape, .int v_taped, .int v_faultKind, .int v_faultPlace, .int v_at, .int v_start, .int v_token, .int v_value, .ref h_now, x_draft, x_tried, .ref h_past, .int (v_acts - 1), x_images, x_kept, x_trace, .int v_traced, x_comes, x_standing, x_brought, x_habit, .int v_livedMany])), (h_now, .inl (cy 0, 124, .inl (upd (upd (upd v_now (((24 + (v_now 5))).toNatClampNeg) 0) 2 (v_past (((11 * (v_acts - 1))).toNatClampNeg))) 3 (v_past ((((11 * (v_acts - 1)) + 1)).toNatClampNeg))))), (h_past, .inl (cy 0, 264, .inl v_past))] H := hP
    have hD : va_D A [(h_this, .inr (11, [x_lane, x_many, x_items, x_spare, .int v_status, x_tape, .int v_taped, .int v_faultKind, .int v_faultPlace, .int v_at, .int v_start, .int v_token, .int v_value, .ref h_now, x_draft, x_tried, .ref h_past, .int (v_acts - 1), x_images, x_kept, x_trace, .int v_traced, x_comes, x_standing, x_brought, x_habit, .int v_livedMany])), (h_now, .inl (cy 0, 124, .inl (upd (upd (upd v_now (((24 + (v_now 5))).toNatClampNeg) 0) 2 (v_past (((11 * (v_acts - 1))).toNatClampNeg))) 3 (v_past ((((11 * (v_acts - 1)) + 1)).toNatClampNeg))))), (h_past, .inl (cy 0, 264, .inl v_past))] := hD
    refine lv_aload_n hx hb dX12_undo_69 rfl (lv_at hl 1 rfl) ?_
    refine va_get (D := D) (ci := 11) (v := .ref h_now) (C := RX12) (T := TX12) (N := 27) hx hb hts inTX12 hown hK.1 hP 0 rfl rfl 13 (by decide) (hts _ t4_137) (fun _ h9 => h9) rfl dX12_undo_70 ?_
    refine lv_iconst (v := 4) hx hb dX12_undo_73 (by decide) ?_
    refine lv_aload_n hx hb dX12_undo_74 rfl (lv_at hl 1 rfl) ?_
    refine va_get (D := D) (ci := 11) (v := .ref h_past) (C := RX12) (T := TX12) (N := 27) hx hb hts inTX12 hown hK.1 hP 0 rfl rfl 16 (by decide) (hts _ t4_140) (fun _ h9 => h9) rfl dX12_undo_75 ?_
    refine lv_iload_n hx hb dX12_undo_78 rfl (lv_at hl 0 rfl) ?_
    refine lv_iconst (v := 2) hx hb dX12_undo_79 (by decide) ?_
    refine lv_iadd hx hb dX12_undo_80 ?_
    obtain ⟨hi4, hF⟩ := hF
    refine s_iald (j := (((11 * (v_acts - 1)) + 2)).toNatClampNeg) hx hb hK.1 hP 2 0 rfl rfl hi4 rfl dX12_undo_81 ?_
    refine s_iast (j := 4) hx hb hK.1 hP hD hS 1 0 rfl rfl (vi (by decide)) (by decide) dX12_undo_82 (fun H locs hP hD hS => ?_)
    have hP : va_P D CL [(h_this, .inr (11, [x_lane, x_many, x_items, x_spare, .int v_status, x_tape, .int v_taped, .int v_faultKind, .int v_faultPlace, .int v_at, .int v_start, .int v_token, .int v_value, .ref h_now, x_draft, x_tried, .ref h_past, .int (v_acts - 1), x_images, x_kept, x_trace, .int v_traced, x_comes, x_standing, x_brought, x_habit, .int v_livedMany])), (h_now, .inl (cy 0, 124, .inl (upd (upd (upd (upd v_now (((24 + (v_now 5))).toNatClampNeg) 0) 2 (v_past (((11 * (v_acts - 1))).toNatClampNeg))) 3 (v_past ((((11 * (v_acts - 1)) + 1)).toNatClampNeg))) 4 (v_past ((((11 * (v_acts - 1)) + 2)).toNatClampNeg))))), (h_past, .inl (cy 0, 264, .inl v_past))] H := hP
    have hD : va_D A [(h_this, .inr (11, [x_lane, x_many, x_items, x_spare, .int v_status, x_tape, .int v_taped, .int v_faultKind, .int v_faultPlace, .int v_at, .int v_start, .int v_token, .int v_value, .ref h_now, x_draft, x_tried, .ref h_past, .int (v_acts - 1), x_images, x_kept, x_trace, .int v_traced, x_comes, x_standing, x_brought, x_habit, .int v_livedMany])), (h_now, .inl (cy 0, 124, .inl (upd (upd (upd (upd v_now (((24 + (v_now 5))).toNatClampNeg) 0) 2 (v_past (((11 * (v_acts - 1))).toNatClampNeg))) 3 (v_past ((((11 * (v_acts - 1)) + 1)).toNatClampNeg))) 4 (v_past ((((11 * (v_acts - 1)) + 2)).toNatClampNeg))))), (h_past, .inl (cy 0, 264, .inl v_past))] := hD
    refine lv_aload_n hx hb dX12_undo_83 rfl (lv_at hl 1 rfl) ?_
    refine va_get (D := D) (ci := 11) (v := .ref h_now) (C := RX12) (T := TX12) (N := 27) hx hb hts inTX12 hown hK.1 hP 0 rfl rfl 13 (by decide) (hts _ t4_137) (fun _ h9 => h9) rfl dX12_undo_84 ?_
    refine lv_iconst (v := 5) hx hb dX12_undo_87 (by decide) ?_
    refine lv_aload_n hx hb dX12_undo_88 rfl (lv_at hl 1 rfl) ?_
    refine va_get (D := D) (ci := 11) (v := .ref h_past) (C := RX12) (T := TX12) (N := 27) hx hb hts inTX12 hown hK.1 hP 0 rfl rfl 16 (by decide) (hts _ t4_140) (fun _ h9 => h9) rfl dX12_undo_89 ?_
    refine lv_iload_n hx hb dX12_undo_92 rfl (lv_at hl 0 rfl) ?_
    refine lv_iconst (v := 3) hx hb dX12_undo_93 (by decide) ?_
    refine lv_iadd hx hb dX12_undo_94 ?_
    obtain ⟨hi5, hF⟩ := hF
    refine s_iald (j := (((11 * (v_acts - 1)) + 3)).toNatClampNeg) hx hb hK.1 hP 2 0 rfl rfl hi5 rfl dX12_undo_95 ?_
    refine s_iast (j := 5) hx hb hK.1 hP hD hS 1 0 rfl rfl (vi (by decide)) (by decide) dX12_undo_96 (fun H locs hP hD hS => ?_)
    have hP : va_P D CL [(h_this, .inr (11, [x_lane, x_many, x_items, x_spare, .int v_status, x_tape, .int v_taped, .int v_faultKind, .int v_faultPlace, .int v_at, .int v_start, .int v_token, .int v_value, .ref h_now, x_draft, x_tried, .ref h_past, .int (v_acts - 1), x_images, x_kept, x_trace, .int v_traced, x_comes, x_standing, x_brought, x_habit, .int v_livedMany])), (h_now, .inl (cy 0, 124, .inl (upd (upd (upd (upd (upd v_now (((24 + (v_now 5))).toNatClampNeg) 0) 2 (v_past (((11 * (v_acts - 1))).toNatClampNeg))) 3 (v_past ((((11 * (v_acts - 1)) + 1)).toNatClampNeg))) 4 (v_past ((((11 * (v_acts - 1)) + 2)).toNatClampNeg))) 5 (v_past ((((11 * (v_acts - 1)) + 3)).toNatClampNeg))))), (h_past, .inl (cy 0, 264, .inl v_past))] H := hP
    have hD : va_D A [(h_this, .inr (11, [x_lane, x_many, x_items, x_spare, .int v_status, x_tape, .int v_taped, .int v_faultKind, .int v_faultPlace, .int v_at, .int v_start, .int v_token, .int v_value, .ref h_now, x_draft, x_tried, .ref h_past, .int (v_acts - 1), x_images, x_kept, x_trace, .int v_traced, x_comes, x_standing, x_brought, x_habit, .int v_livedMany])), (h_now, .inl (cy 0, 124, .inl (upd (upd (upd (upd (upd v_now (((24 + (v_now 5))).toNatClampNeg) 0) 2 (v_past (((11 * (v_acts - 1))).toNatClampNeg))) 3 (v_past ((((11 * (v_acts - 1)) + 1)).toNatClampNeg))) 4 (v_past ((((11 * (v_acts - 1)) + 2)).toNatClampNeg))) 5 (v_past ((((11 * (v_acts - 1)) + 3)).toNatClampNeg))))), (h_past, .inl (cy 0, 264, .inl v_past))] := hD
    refine lv_aload_n hx hb dX12_undo_97 rfl (lv_at hl 1 rfl) ?_
    refine va_get (D := D) (ci := 11) (v := .ref h_now) (C := RX12) (T := TX12) (N := 27) hx hb hts inTX12 hown hK.1 hP 0 rfl rfl 13 (by decide) (hts _ t4_137) (fun _ h9 => h9) rfl dX12_undo_98 ?_
    refine lv_bipush (v := 24) hx hb dX12_undo_101 (by decide) ?_
    refine lv_aload_n hx hb dX12_undo_103 rfl (lv_at hl 1 rfl) ?_
    refine va_get (D := D) (ci := 11) (v := .ref h_now) (C := RX12) (T := TX12) (N := 27) hx hb hts inTX12 hown hK.1 hP 0 rfl rfl 13 (by decide) (hts _ t4_137) (fun _ h9 => h9) rfl dX12_undo_104 ?_
    refine lv_iconst (v := 5) hx hb dX12_undo_107 (by decide) ?_
    refine s_iald (j := 5) hx hb hK.1 hP 1 0 rfl rfl (vi (by decide)) (by decide) dX12_undo_108 ?_
    refine lv_iadd hx hb dX12_undo_109 ?_
    refine lv_aload_n hx hb dX12_undo_110 rfl (lv_at hl 1 rfl) ?_
    refine va_get (D := D) (ci := 11) (v := .ref h_past) (C := RX12) (T := TX12) (N := 27) hx hb hts inTX12 hown hK.1 hP 0 rfl rfl 16 (by decide) (hts _ t4_140) (fun _ h9 => h9) rfl dX12_undo_111 ?_
    refine lv_iload_n hx hb dX12_undo_114 rfl (lv_at hl 0 rfl) ?_
    refine lv_iconst (v := 4) hx hb dX12_undo_115 (by decide) ?_
    refine lv_iadd hx hb dX12_undo_116 ?_
    obtain ⟨hi6, hF⟩ := hF
    refine s_iald (j := (((11 * (v_acts - 1)) + 4)).toNatClampNeg) hx hb hK.1 hP 2 0 rfl rfl hi6 rfl dX12_undo_117 ?_
    obtain ⟨hi7, hF⟩ := hF
    refine s_iast (j := ((24 + ((upd (upd (upd (upd (upd v_now (((24 + (v_now 5))).toNatClampNeg) 0) 2 (v_past (((11 * (v_acts - 1))).toNatClampNeg))) 3 (v_past ((((11 * (v_acts - 1)) + 1)).toNatClampNeg))) 4 (v_past ((((11 * (v_acts - 1)) + 2)).toNatClampNeg))) 5 (v_past ((((11 * (v_acts - 1)) + 3)).toNatClampNeg))) 5))).toNatClampNeg) hx hb hK.1 hP hD hS 1 0 rfl rfl hi7 rfl dX12_undo_118 (fun H locs hP hD hS => ?_)
    have hP : va_P D CL [(h_this, .inr (11, [x_lane, x_many, x_items, x_spare, .int v_status, x_tape, .int v_taped, .int v_faultKind, .int v_faultPlace, .int v_at, .int v_start, .int v_token, .int v_value, .ref h_now, x_draft, x_tried, .ref h_past, .int (v_acts - 1), x_images, x_kept, x_trace, .int v_traced, x_comes, x_standing, x_brought, x_habit, .int v_livedMany])), (h_now, .inl (cy 0, 124, .inl (upd (upd (upd (upd (upd (upd v_now (((24 + (v_now 5))).toNatClampNeg) 0) 2 (v_past (((11 * (v_acts - 1))).toNatClampNeg))) 3 (v_past ((((11 * (v_acts - 1)) + 1)).toNatClampNeg))) 4 (v_past ((((11 * (v_acts - 1)) + 2)).toNatClampNeg))) 5 (v_past ((((11 * (v_acts - 1)) + 3)).toNatClampNeg))) (((24 + ((upd (upd (upd (upd (upd v_now (((24 + (v_now 5))).toNatClampNeg) 0) 2 (v_past (((11 * (v_acts - 1))).toNatClampNeg))) 3 (v_past ((((11 * (v_acts - 1)) + 1)).toNatClampNeg))) 4 (v_past ((((11 * (v_acts - 1)) + 2)).toNatClampNeg))) 5 (v_past ((((11 * (v_acts - 1)) + 3)).toNatClampNeg))) 5))).toNatClampNeg) (v_past ((((11 * (v_acts - 1)) + 4)).toNatClampNeg))))), (h_past, .inl (cy 0, 264, .inl v_past))] H := hP
    have hD : va_D A [(h_this, .inr (11, [x_lane, x_many, x_items, x_spare, .int v_status, x_tape, .int v_taped, .int v_faultKind, .int v_faultPlace, .int v_at, .int v_start, .int v_token, .int v_value, .ref h_now, x_draft, x_tried, .ref h_past, .int (v_acts - 1), x_images, x_kept, x_trace, .int v_traced, x_comes, x_standing, x_brought, x_habit, .int v_livedMany])), (h_now, .inl (cy 0, 124, .inl (upd (upd (upd (upd (upd (upd v_now (((24 + (v_now 5))).toNatClampNeg) 0) 2 (v_past (((11 * (v_acts - 1))).toNatClampNeg))) 3 (v_past ((((11 * (v_acts - 1)) + 1)).toNatClampNeg))) 4 (v_past ((((11 * (v_acts - 1)) + 2)).toNatClampNeg))) 5 (v_past ((((11 * (v_acts - 1)) + 3)).toNatClampNeg))) (((24 + ((upd (upd (upd (upd (upd v_now (((24 + (v_now 5))).toNatClampNeg) 0) 2 (v_past (((11 * (v_acts - 1))).toNatClampNeg))) 3 (v_past ((((11 * (v_acts - 1)) + 1)).toNatClampNeg))) 4 (v_past ((((11 * (v_acts - 1)) + 2)).toNatClampNeg))) 5 (v_past ((((11 * (v_acts - 1)) + 3)).toNatClampNeg))) 5))).toNatClampNeg) (v_past ((((11 * (v_acts - 1)) + 4)).toNatClampNeg))))), (h_past, .inl (cy 0, 264, .inl v_past))] := hD
    refine lv_iconst (v := 0) hx hb dX12_undo_119 (by decide) ?_
    refine lv_istore_n (lv' := [(2, .int 0), (1, .int (11 * (v_acts - 1))), (0, .ref h_this)]) hx hb dX12_undo_120 rfl hl (by decide) rfl (fun ls hl => ?_)
    exact L_121 fu (11 * (v_acts - 1)) 0 (v_acts - 1) (upd (upd (upd (upd (upd (upd v_now (((24 + (v_now 5))).toNatClampNeg) 0) 2 (v_past (((11 * (v_acts - 1))).toNatClampNeg))) 3 (v_past ((((11 * (v_acts - 1)) + 1)).toNatClampNeg))) 4 (v_past ((((11 * (v_acts - 1)) + 2)).toNatClampNeg))) 5 (v_past ((((11 * (v_acts - 1)) + 3)).toNatClampNeg))) (((24 + ((upd (upd (upd (upd (upd v_now (((24 + (v_now 5))).toNatClampNeg) 0) 2 (v_past (((11 * (v_acts - 1))).toNatClampNeg))) 3 (v_past ((((11 * (v_acts - 1)) + 1)).toNatClampNeg))) 4 (v_past ((((11 * (v_acts - 1)) + 2)).toNatClampNeg))) 5 (v_past ((((11 * (v_acts - 1)) + 3)).toNatClampNeg))) 5))).toNatClampNeg) (v_past ((((11 * (v_acts - 1)) + 4)).toNatClampNeg))) _ _ ls  hP hD hS (lv_sub hl [2, 1, 0] rfl) hF
  · have hF := hF.2 c_
    refine lv_ldc hx hb hown (hts _ t5_55) dX12_undo_7 ?_
    exact rt_i C hQ rfl hP hD hS ⟨v_acts, v_now, rfl, hF⟩ dX12_undo_9

def wpX12_after (p0 : Int64) (post : Int64 → Prop) : Prop := post ((p0 * 16807) - (p0 * 16807) / 2147483647 * 2147483647)
abbrev miX12_after : MI := (yX12_after, cX12_after, 2, (some .long))
theorem mfX12_after : MF miX12_after 1 := ⟨t5_74, t1_8, by decide +kernel⟩
abbrev rmX12_after : Room := { frames := 0, cells := 0, slots := 0, locals := 0 }
set_option maxHeartbeats 4000000 in
set_option maxRecDepth 100000 in
theorem ccX12_after (l : Launch) (D : va_G) (cy : Nat → ClassId) (p0 : Int64) (post : Int64 → Prop) (hF : wpX12_after p0 post) : Cr l D cy miX12_after rmX12_after emL NP [.long p0] [] post := by
  refine Cr.of (by decide) (Nat.le_of_ble_eq_true rfl) ?_
  intro p e s m args below meth c ls Q C hQ hO hP hl
  obtain ⟨hx, hb, hr, hml, hown, hts, hK, hlk, hnm⟩ := id C
  have hb : c.code = cX12_after := hb
  have hml : c.maxLocals = 2 := hml
  have hown : s.vm.findClass RX12 = some m.cls := hown
  have hl : lv_has ls 2 [(0, .long p0)] := hl
  unfold wpX12_after at hF
  refine lv_lload_n hx hb dX12_after_0 rfl (lv_at hl 0 rfl) ?_
  refine lv_ldc2 hx hb hown (hts _ t5_75) dX12_after_1 ?_
  refine lv_lmul hx hb dX12_after_4 ?_
  refine lv_ldc2 hx hb hown (hts _ t5_76) dX12_after_5 ?_
  refine lv_lrem hx hb dX12_after_8 (by decide) ?_
  exact rr_l C hQ rfl hF dX12_after_9

def wjX12_passes_62 (post : Int64 → (Nat → Int32) → Prop) (K_9 : Int64 → Int32 → (Nat → Int32) → Prop) (l3 : Int64) (l5 : Int32) (k0 : Int32) (k1 : Int32) (k2 : Int32) (w_a0 : Nat → Int32) : Prop := vp_in k2 124 ∧ (K_9 l3 (l5 + 1) (upd w_a0 ((k2).toNatClampNeg) (k1 ||| k0)))
def wlX12_passes_9 (post : Int64 → (Nat → Int32) → Prop) : Nat → Int64 → Int32 → (Nat → Int32) → Prop
  | 0, _, _, _ => False
  | n + 1, l3, l5, w_a0 => ((w_a0 1) ≤ l5 → (post l3 (upd w_a0 4 1))) ∧ (¬ (w_a0 1) ≤ l5 → (wpX12_after l3 (fun r1 => vp_in ((6 + (6 * l5)) + 5) 124 ∧ (wpX12_odds l5 (w_a0 ((((6 + (6 * l5)) + 5)).toNatClampNeg)) w_a0 (fun r3 => (((r3).toInt64) ≤ (r1 - r1 / 10 * 10) → (wjX12_passes_62 post (wlX12_passes_9 post n) r1 l5 0 (w_a0 3) 3 w_a0)) ∧ (¬ ((r3).toInt64) ≤ (r1 - r1 / 10 * 10) → (wjX12_passes_62 post (wlX12_passes_9 post n) r1 l5 ((1 : Int32) <<< (l5 &&& 31)) (w_a0 3) 3 w_a0)))))))
def wpX12_passes (p1 : Int64) (v_a0 : Nat → Int32) (post : Int64 → (Nat → Int32) → Prop) : Prop := wlX12_passes_9 post fu p1 0 (upd v_a0 3 0)
abbrev miX12_passes : MI := (yX12_passes, cX12_passes, 6, (some .long))
theorem mfX12_passes : MF miX12_passes 2 := ⟨t5_71, t1_8, by decide +kernel⟩
abbrev rmX12_passes : Room := { frames := 2, cells := 0, slots := 0, locals := 45 }
set_option maxHeartbeats 4000000 in
set_option maxRecDepth 100000 in
theorem ccX12_passes (l : Launch) (D : va_G) (cy : Nat → ClassId) (h_a0 : Nat) (v_a0 : Nat → Int32) (p1 : Int64) (post : Int64 → (Nat → Int32) → Prop) (hF : wpX12_passes p1 v_a0 post) : Ct l D cy miX12_passes rmX12_passes emL NP [.ref h_a0, .long p1] [(h_a0, .inl (cy 0, 124, .inl v_a0))] (fun r w1 => ∃ (w_a0 : Nat → Int32), w1 = [(h_a0, .inl (cy 0, 124, .inl w_a0))] ∧ post r w_a0) := by
  refine Ct.of (by decide) (Nat.le_of_ble_eq_true rfl) ?_
  intro p e s m args below meth c A ls Q C hQ hA hI hP hD hS hl
  obtain ⟨hx, hb, hr, hml, hown, hts, hK, hlk, hnm⟩ := id C
  have hb : c.code = cX12_passes := hb
  have hml : c.maxLocals = 6 := hml
  have hown : s.vm.findClass RX12 = some m.cls := hown
  have hl : lv_has ls 6 [(0, .ref h_a0), (1, .long p1)] := hl
  have L_9 : ∀ (n_9 : Nat) (l3 : Int64) (l5 : Int32) (w_a0 : Nat → Int32) (H : Heap) (locs : List Loc) (ls : Array Slot), va_P D CL [(h_a0, .inl (cy 0, 124, .inl w_a0))] H → va_D A [(h_a0, .inl (cy 0, 124, .inl w_a0))] → va_S A s.heap H locs → lv_has ls 6 [(0, .ref h_a0), (3, .long l3), (5, .int l5)] → wlX12_passes_9 post n_9 l3 l5 w_a0 → W p l e rmX12_passes s m args below meth c H locs 0 0 Q (F0 m 9 ls []) := by
    intro n_9
    induction n_9 with
    | zero =>
      intro l3 l5 w_a0 H locs ls  hP hD hS hl hF
      simp only [wlX12_passes_9] at hF
    | succ n_9 ih_9 =>
      have J_62 : ∀ (l3 : Int64) (l5 : Int32) (k0 : Int32) (k1 : Int32) (k2 : Int32) (w_a0 : Nat → Int32) (H : Heap) (locs : List Loc) (ls : Array Slot), va_P D CL [(h_a0, .inl (cy 0, 124, .inl w_a0))] H → va_D A [(h_a0, .inl (cy 0, 124, .inl w_a0))] → va_S A s.heap H locs → lv_has ls 6 [(0, .ref h_a0), (3, .long l3), (5, .int l5)] → wjX12_passes_62 post (wlX12_passes_9 post n_9) l3 l5 k0 k1 k2 w_a0 → W p l e rmX12_passes s m args below meth c H locs 0 0 Q (F0 m 62 ls [.int k0, .int k1, .int k2, .ref h_a0]) := by
        intro l3 l5 k0 k1 k2 w_a0 H locs ls  hP hD hS hl hF
        unfold wjX12_passes_62 at hF
        refine lv_ior hx hb dX12_passes_62 ?_
        obtain ⟨hi1, hF⟩ := hF
        refine s_iast (j := (k2).toNatClampNeg) hx hb hK.1 hP hD hS 0 0 rfl rfl hi1 rfl dX12_passes_63 (fun H locs hP hD hS => ?_)
        have hP : va_P D CL [(h_a0, .inl (cy 0, 124, .inl (upd w_a0 ((k2).toNatClampNeg) (k1 ||| k0))))] H := hP
        have hD : va_D A [(h_a0, .inl (cy 0, 124, .inl (upd w_a0 ((k2).toNatClampNeg) (k1 ||| k0))))] := hD
        refine lv_iinc (v := (l5 + 1)) (lv' := [(5, .int (l5 + 1)), (0, .ref h_a0), (3, .long l3)]) hx hb dX12_passes_64 hl (k := 2) rfl rfl (by decide) rfl (fun ls hl => ?_)
        refine lv_goto (tgt := 9) hx hb dX12_passes_67 (by decide) ?_
        exact ih_9 l3 (l5 + 1) (upd w_a0 ((k2).toNatClampNeg) (k1 ||| k0)) _ _ ls  hP hD hS (lv_sub hl [1, 2, 0] rfl) hF
      intro l3 l5 w_a0 H locs ls  hP hD hS hl hF
      unfold wlX12_passes_9 at hF
      refine lv_iload hx hb dX12_passes_9 (lv_at hl 2 rfl) ?_
      refine lv_aload_n hx hb dX12_passes_11 rfl (lv_at hl 0 rfl) ?_
      refine lv_iconst (v := 1) hx hb dX12_passes_12 (by decide) ?_
      refine s_iald (j := 1) hx hb hK.1 hP 0 0 rfl rfl (vi (by decide)) (by decide) dX12_passes_13 ?_
      refine lv_icmp_ge (tgt := 70) hx hb dX12_passes_14 (by decide) (fun c_ => ?_) (fun c_ => ?_)
      · have hF := hF.1 c_
        refine lv_aload_n hx hb dX12_passes_70 rfl (lv_at hl 0 rfl) ?_
        refine lv_iconst (v := 4) hx hb dX12_passes_71 (by decide) ?_
        refine lv_iconst (v := 1) hx hb dX12_passes_72 (by decide) ?_
        refine s_iast (j := 4) hx hb hK.1 hP hD hS 0 0 rfl rfl (vi (by decide)) (by decide) dX12_passes_73 (fun H locs hP hD hS => ?_)
        have hP : va_P D CL [(h_a0, .inl (cy 0, 124, .inl (upd w_a0 4 1)))] H := hP
        have hD : va_D A [(h_a0, .inl (cy 0, 124, .inl (upd w_a0 4 1)))] := hD
        refine lv_lload_n hx hb dX12_passes_74 rfl (lv_at hl 1 rfl) ?_
        exact rt_l C hQ rfl hP hD hS ⟨(upd w_a0 4 1), rfl, hF⟩ dX12_passes_75
      · have hF := hF.2 c_
        refine lv_lload_n hx hb dX12_passes_17 rfl (lv_at hl 1 rfl) ?_
        refine cS_r (As := [.long l3]) C mfX12_after t5_73 t5_72 (ccX12_after l D cy l3 _ hF) rfl rfl (hP.sub [] rfl) PR.np rfl hl.1 rfl (Nat.le_of_ble_eq_true rfl) dX12_passes_18 ⟨Nat.le_of_ble_eq_true rfl, Nat.le_of_ble_eq_true rfl⟩ ⟨Nat.le_of_ble_eq_true rfl, Nat.le_of_ble_eq_true rfl⟩ ?_
        intro r1 hF
        refine W.eq (g2 := F0 m 21 ls [.long r1]) rfl ?_
        refine lv_lstore_n (lv' := [(3, .long r1), (0, .ref h_a0), (5, .int l5)]) hx hb dX12_passes_21 rfl hl (by decide) rfl (fun ls hl => ?_)
        refine lv_aload_n hx hb dX12_passes_22 rfl (lv_at hl 1 rfl) ?_
        refine lv_iconst (v := 3) hx hb dX12_passes_23 (by decide) ?_
        refine lv_dup2_11 hx hb dX12_passes_24 rfl rfl ?_
        refine s_iald (j := 3) hx hb hK.1 hP 0 0 rfl rfl (vi (by decide)) (by decide) dX12_passes_25 ?_
        refine lv_lload_n hx hb dX12_passes_26 rfl (lv_at hl 0 rfl) ?_
        refine lv_ldc2 hx hb hown (hts _ t5_77) dX12_passes_27 ?_
        refine lv_lrem hx hb dX12_passes_30 (by decide) ?_
        refine lv_aload_n hx hb dX12_passes_31 rfl (lv_at hl 1 rfl) ?_
        refine lv_iload hx hb dX12_passes_32 (lv_at hl 2 rfl) ?_
        refine lv_aload_n hx hb dX12_passes_34 rfl (lv_at hl 1 rfl) ?_
        refine lv_bipush (v := 6) hx hb dX12_passes_35 (by decide) ?_
        refine lv_bipush (v := 6) hx hb dX12_passes_37 (by decide) ?_
        refine lv_iload hx hb dX12_passes_39 (lv_at hl 2 rfl) ?_
        refine lv_imul hx hb dX12_passes_41 ?_
        refine lv_iadd hx hb dX12_passes_42 ?_
        refine lv_iconst (v := 5) hx hb dX12_passes_43 (by decide) ?_
        refine lv_iadd hx hb dX12_passes_44 ?_
        obtain ⟨hi2, hF⟩ := hF
        refine s_iald (j := (((6 + (6 * l5)) + 5)).toNatClampNeg) hx hb hK.1 hP 0 0 rfl rfl hi2 rfl dX12_passes_45 ?_
        refine cS_r (As := [.ref h_a0, .int l5, .int (w_a0 ((((6 + (6 * l5)) + 5)).toNatClampNeg))]) C mfX12_odds t5_79 t5_78 (ccX12_odds l D cy h_a0 w_a0 l5 (w_a0 ((((6 + (6 * l5)) + 5)).toNatClampNeg)) _ hF) rfl rfl (hP.sub [0] rfl) PR.np rfl hl.1 rfl (Nat.le_of_ble_eq_true rfl) dX12_passes_46 ⟨Nat.le_of_ble_eq_true rfl, Nat.le_of_ble_eq_true rfl⟩ ⟨Nat.le_of_ble_eq_true rfl, Nat.le_of_ble_eq_true rfl⟩ ?_
        intro r3 hF
        refine W.eq (g2 := F0 m 49 ls [.int r3, .long (r1 - r1 / 10 * 10), .int (w_a0 3), .int 3, .ref h_a0]) rfl ?_
        refine lv_i2l hx hb dX12_passes_49 rfl ?_
        refine W.lcmp hx hb dX12_passes_50 ?_
        refine lv_if_ge (tgt := 61) hx hb dX12_passes_51 (by decide) (fun c_ => ?_) (fun c_ => ?_)
        · have hF := hF.1 ((lg_cmp_ge _ _).mp c_)
          refine lv_iconst (v := 0) hx hb dX12_passes_61 (by decide) ?_
          exact J_62 r1 l5 0 (w_a0 3) 3 w_a0 _ _ ls  hP hD hS (lv_sub hl [1, 0, 2] rfl) hF
        · have hF := hF.2 (fun z9 => c_ ((lg_cmp_ge _ _).mpr z9))
          refine lv_iconst (v := 1) hx hb dX12_passes_54 (by decide) ?_
          refine lv_iload hx hb dX12_passes_55 (lv_at hl 2 rfl) ?_
          refine lv_ishl hx hb dX12_passes_57 ?_
          refine lv_goto (tgt := 62) hx hb dX12_passes_58 (by decide) ?_
          exact J_62 r1 l5 ((1 : Int32) <<< (l5 &&& 31)) (w_a0 3) 3 w_a0 _ _ ls  hP hD hS (lv_sub hl [1, 0, 2] rfl) hF
  unfold wpX12_passes at hF
  refine lv_lload_n hx hb dX12_passes_0 rfl (lv_at hl 1 rfl) ?_
  refine lv_lstore_n (lv' := [(3, .long p1), (0, .ref h_a0), (1, .long p1)]) hx hb dX12_passes_1 rfl hl (by decide) rfl (fun ls hl => ?_)
  refine lv_aload_n hx hb dX12_passes_2 rfl (lv_at hl 1 rfl) ?_
  refine lv_iconst (v := 3) hx hb dX12_passes_3 (by decide) ?_
  refine lv_iconst (v := 0) hx hb dX12_passes_4 (by decide) ?_
  refine s_iast (j := 3) hx hb hK.1 hP hD hS 0 0 rfl rfl (vi (by decide)) (by decide) dX12_passes_5 (fun H locs hP hD hS => ?_)
  have hP : va_P D CL [(h_a0, .inl (cy 0, 124, .inl (upd v_a0 3 0)))] H := hP
  have hD : va_D A [(h_a0, .inl (cy 0, 124, .inl (upd v_a0 3 0)))] := hD
  refine lv_iconst (v := 0) hx hb dX12_passes_6 (by decide) ?_
  refine lv_istore (lv' := [(5, .int 0), (3, .long p1), (0, .ref h_a0), (1, .long p1)]) hx hb dX12_passes_7 hl (by decide) rfl (fun ls hl => ?_)
  exact L_9 fu p1 0 (upd v_a0 3 0) _ _ ls  hP hD hS (lv_sub hl [2, 1, 0] rfl) hF

def wpX12_againBy (p1 : Int32) (v_a0 : Nat → Int32) (post : Unit → (Nat → Int32) → Prop) : Prop := vp_in ((6 + (6 * p1)) + 5) 124 ∧ (vp_in ((6 + (6 * p1)) + 5) 124 ∧ (post () (upd (upd (upd (upd v_a0 2 ((v_a0 2) &&& (((1 : Int32) <<< (p1 &&& 31)) ^^^ (-1)))) ((((6 + (6 * p1)) + 5)).toNatClampNeg) (((upd v_a0 2 ((v_a0 2) &&& (((1 : Int32) <<< (p1 &&& 31)) ^^^ (-1)))) ((((6 + (6 * p1)) + 5)).toNatClampNeg)) + 1)) 4 0) 3 0)))
abbrev miX12_againBy : MI := (yX12_againBy, cX12_againBy, 2, none)
theorem mfX12_againBy : MF miX12_againBy 2 := ⟨t5_97, t1_8, by decide +kernel⟩
abbrev rmX12_againBy : Room := { frames := 0, cells := 0, slots := 0, locals := 0 }
set_option maxHeartbeats 4000000 in
set_option maxRecDepth 100000 in
theorem ccX12_againBy (l : Launch) (D : va_G) (cy : Nat → ClassId) (h_a0 : Nat) (v_a0 : Nat → Int32) (p1 : Int32) (post : Unit → (Nat → Int32) → Prop) (hF : wpX12_againBy p1 v_a0 post) : Ct l D cy miX12_againBy rmX12_againBy emV NP [.ref h_a0, .int p1] [(h_a0, .inl (cy 0, 124, .inl v_a0))] (fun r w1 => ∃ (w_a0 : Nat → Int32), w1 = [(h_a0, .inl (cy 0, 124, .inl w_a0))] ∧ post r w_a0) := by
  refine Ct.of (by decide) (Nat.le_of_ble_eq_true rfl) ?_
  intro p e s m args below meth c A ls Q C hQ hA hI hP hD hS hl
  obtain ⟨hx, hb, hr, hml, hown, hts, hK, hlk, hnm⟩ := id C
  have hb : c.code = cX12_againBy := hb
  have hml : c.maxLocals = 2 := hml
  have hown : s.vm.findClass RX12 = some m.cls := hown
  have hl : lv_has ls 2 [(0, .ref h_a0), (1, .int p1)] := hl
  unfold wpX12_againBy at hF
  refine lv_aload_n hx hb dX12_againBy_0 rfl (lv_at hl 0 rfl) ?_
  refine lv_iconst (v := 2) hx hb dX12_againBy_1 (by decide) ?_
  refine lv_dup2_11 hx hb dX12_againBy_2 rfl rfl ?_
  refine s_iald (j := 2) hx hb hK.1 hP 0 0 rfl rfl (vi (by decide)) (by decide) dX12_againBy_3 ?_
  refine lv_iconst (v := 1) hx hb dX12_againBy_4 (by decide) ?_
  refine lv_iload_n hx hb dX12_againBy_5 rfl (lv_at hl 1 rfl) ?_
  refine lv_ishl hx hb dX12_againBy_6 ?_
  refine lv_iconst (v := (-1)) hx hb dX12_againBy_7 (by decide) ?_
  refine lv_ixor hx hb dX12_againBy_8 ?_
  refine lv_iand hx hb dX12_againBy_9 ?_
  refine s_iast (j := 2) hx hb hK.1 hP hD hS 0 0 rfl rfl (vi (by decide)) (by decide) dX12_againBy_10 (fun H locs hP hD hS => ?_)
  have hP : va_P D CL [(h_a0, .inl (cy 0, 124, .inl (upd v_a0 2 ((v_a0 2) &&& (((1 : Int32) <<< (p1 &&& 31)) ^^^ (-1))))))] H := hP
  have hD : va_D A [(h_a0, .inl (cy 0, 124, .inl (upd v_a0 2 ((v_a0 2) &&& (((1 : Int32) <<< (p1 &&& 31)) ^^^ (-1))))))] := hD
  refine lv_aload_n hx hb dX12_againBy_11 rfl (lv_at hl 0 rfl) ?_
  refine lv_bipush (v := 6) hx hb dX12_againBy_12 (by decide) ?_
  refine lv_bipush (v := 6) hx hb dX12_againBy_14 (by decide) ?_
  refine lv_iload_n hx hb dX12_againBy_16 rfl (lv_at hl 1 rfl) ?_
  refine lv_imul hx hb dX12_againBy_17 ?_
  refine lv_iadd hx hb dX12_againBy_18 ?_
  refine lv_iconst (v := 5) hx hb dX12_againBy_19 (by decide) ?_
  refine lv_iadd hx hb dX12_againBy_20 ?_
  refine lv_dup2_11 hx hb dX12_againBy_21 rfl rfl ?_
  obtain ⟨hi1, hF⟩ := hF
  refine s_iald (j := (((6 + (6 * p1)) + 5)).toNatClampNeg) hx hb hK.1 hP 0 0 rfl rfl hi1 rfl dX12_againBy_22 ?_
  refine lv_iconst (v := 1) hx hb dX12_againBy_23 (by decide) ?_
  refine lv_iadd hx hb dX12_againBy_24 ?_
  obtain ⟨hi2, hF⟩ := hF
  refine s_iast (j := (((6 + (6 * p1)) + 5)).toNatClampNeg) hx hb hK.1 hP hD hS 0 0 rfl rfl hi2 rfl dX12_againBy_25 (fun H locs hP hD hS => ?_)
  have hP : va_P D CL [(h_a0, .inl (cy 0, 124, .inl (upd (upd v_a0 2 ((v_a0 2) &&& (((1 : Int32) <<< (p1 &&& 31)) ^^^ (-1)))) ((((6 + (6 * p1)) + 5)).toNatClampNeg) (((upd v_a0 2 ((v_a0 2) &&& (((1 : Int32) <<< (p1 &&& 31)) ^^^ (-1)))) ((((6 + (6 * p1)) + 5)).toNatClampNeg)) + 1))))] H := hP
  have hD : va_D A [(h_a0, .inl (cy 0, 124, .inl (upd (upd v_a0 2 ((v_a0 2) &&& (((1 : Int32) <<< (p1 &&& 31)) ^^^ (-1)))) ((((6 + (6 * p1)) + 5)).toNatClampNeg) (((upd v_a0 2 ((v_a0 2) &&& (((1 : Int32) <<< (p1 &&& 31)) ^^^ (-1)))) ((((6 + (6 * p1)) + 5)).toNatClampNeg)) + 1))))] := hD
  refine lv_aload_n hx hb dX12_againBy_26 rfl (lv_at hl 0 rfl) ?_
  refine lv_iconst (v := 4) hx hb dX12_againBy_27 (by decide) ?_
  refine lv_iconst (v := 0) hx hb dX12_againBy_28 (by decide) ?_
  refine s_iast (j := 4) hx hb hK.1 hP hD hS 0 0 rfl rfl (vi (by decide)) (by decide) dX12_againBy_29 (fun H locs hP hD hS => ?_)
  have hP : va_P D CL [(h_a0, .inl (cy 0, 124, .inl (upd (upd (upd v_a0 2 ((v_a0 2) &&& (((1 : Int32) <<< (p1 &&& 31)) ^^^ (-1)))) ((((6 + (6 * p1)) + 5)).toNatClampNeg) (((upd v_a0 2 ((v_a0 2) &&& (((1 : Int32) <<< (p1 &&& 31)) ^^^ (-1)))) ((((6 + (6 * p1)) + 5)).toNatClampNeg)) + 1)) 4 0)))] H := hP
  have hD : va_D A [(h_a0, .inl (cy 0, 124, .inl (upd (upd (upd v_a0 2 ((v_a0 2) &&& (((1 : Int32) <<< (p1 &&& 31)) ^^^ (-1)))) ((((6 + (6 * p1)) + 5)).toNatClampNeg) (((upd v_a0 2 ((v_a0 2) &&& (((1 : Int32) <<< (p1 &&& 31)) ^^^ (-1)))) ((((6 + (6 * p1)) + 5)).toNatClampNeg)) + 1)) 4 0)))] := hD
  refine lv_aload_n hx hb dX12_againBy_30 rfl (lv_at hl 0 rfl) ?_
  refine lv_iconst (v := 3) hx hb dX12_againBy_31 (by decide) ?_
  refine lv_iconst (v := 0) hx hb dX12_againBy_32 (by decide) ?_
  refine s_iast (j := 3) hx hb hK.1 hP hD hS 0 0 rfl rfl (vi (by decide)) (by decide) dX12_againBy_33 (fun H locs hP hD hS => ?_)
  have hP : va_P D CL [(h_a0, .inl (cy 0, 124, .inl (upd (upd (upd (upd v_a0 2 ((v_a0 2) &&& (((1 : Int32) <<< (p1 &&& 31)) ^^^ (-1)))) ((((6 + (6 * p1)) + 5)).toNatClampNeg) (((upd v_a0 2 ((v_a0 2) &&& (((1 : Int32) <<< (p1 &&& 31)) ^^^ (-1)))) ((((6 + (6 * p1)) + 5)).toNatClampNeg)) + 1)) 4 0) 3 0)))] H := hP
  have hD : va_D A [(h_a0, .inl (cy 0, 124, .inl (upd (upd (upd (upd v_a0 2 ((v_a0 2) &&& (((1 : Int32) <<< (p1 &&& 31)) ^^^ (-1)))) ((((6 + (6 * p1)) + 5)).toNatClampNeg) (((upd v_a0 2 ((v_a0 2) &&& (((1 : Int32) <<< (p1 &&& 31)) ^^^ (-1)))) ((((6 + (6 * p1)) + 5)).toNatClampNeg)) + 1)) 4 0) 3 0)))] := hD
  exact rt_v C hQ rfl hP hD hS ⟨(upd (upd (upd (upd v_a0 2 ((v_a0 2) &&& (((1 : Int32) <<< (p1 &&& 31)) ^^^ (-1)))) ((((6 + (6 * p1)) + 5)).toNatClampNeg) (((upd v_a0 2 ((v_a0 2) &&& (((1 : Int32) <<< (p1 &&& 31)) ^^^ (-1)))) ((((6 + (6 * p1)) + 5)).toNatClampNeg)) + 1)) 4 0) 3 0), rfl, hF⟩ dX12_againBy_34

def wlX12_stands_2 (post : Unit → (Nat → Int32) → Prop) : Nat → Int32 → (Nat → Int32) → Prop
  | 0, _, _ => False
  | n + 1, l1, w_a0 => ((w_a0 1) ≤ l1 → (post () (upd (upd w_a0 4 0) 3 0))) ∧ (¬ (w_a0 1) ≤ l1 → (vp_in ((6 + (6 * l1)) + 4) 124 ∧ (wpX12_has (w_a0 3) l1 (fun r2 => wpX12_brings l1 r2 w_a0 (fun r3 => vp_in ((6 + (6 * l1)) + 4) 124 ∧ (vp_in ((6 + (6 * l1)) + 5) 124 ∧ ((wlX12_stands_2 post n) (l1 + 1) (upd (upd w_a0 ((((6 + (6 * l1)) + 4)).toNatClampNeg) ((w_a0 ((((6 + (6 * l1)) + 4)).toNatClampNeg)) + r3)) ((((6 + (6 * l1)) + 5)).toNatClampNeg) 0))))))))
def wpX12_stands (v_a0 : Nat → Int32) (post : Unit → (Nat → Int32) → Prop) : Prop := wlX12_stands_2 post fu 0 v_a0
abbrev miX12_stands : MI := (yX12_stands, cX12_stands, 2, none)
theorem mfX12_stands : MF miX12_stands 1 := ⟨t5_104, t1_8, by decide +kernel⟩
abbrev rmX12_stands : Room := { frames := 1, cells := 0, slots := 0, locals := 23 }
set_option maxHeartbeats 4000000 in
set_option maxRecDepth 100000 in
theorem ccX12_stands (l : Launch) (D : va_G) (cy : Nat → ClassId) (h_a0 : Nat) (v_a0 : Nat → Int32) (post : Unit → (Nat → Int32) → Prop) (hF : wpX12_stands v_a0 post) : Ct l D cy miX12_stands rmX12_stands emV NP [.ref h_a0] [(h_a0, .inl (cy 0, 124, .inl v_a0))] (fun r w1 => ∃ (w_a0 : Nat → Int32), w1 = [(h_a0, .inl (cy 0, 124, .inl w_a0))] ∧ post r w_a0) := by
  refine Ct.of (by decide) (Nat.le_of_ble_eq_true rfl) ?_
  intro p e s m args below meth c A ls Q C hQ hA hI hP hD hS hl
  obtain ⟨hx, hb, hr, hml, hown, hts, hK, hlk, hnm⟩ := id C
  have hb : c.code = cX12_stands := hb
  have hml : c.maxLocals = 2 := hml
  have hown : s.vm.findClass RX12 = some m.cls := hown
  have hl : lv_has ls 2 [(0, .ref h_a0)] := hl
  have L_2 : ∀ (n_2 : Nat) (l1 : Int32) (w_a0 : Nat → Int32) (H : Heap) (locs : List Loc) (ls : Array Slot), va_P D CL [(h_a0, .inl (cy 0, 124, .inl w_a0))] H → va_D A [(h_a0, .inl (cy 0, 124, .inl w_a0))] → va_S A s.heap H locs → lv_has ls 2 [(0, .ref h_a0), (1, .int l1)] → wlX12_stands_2 post n_2 l1 w_a0 → W p l e rmX12_stands s m args below meth c H locs 0 0 Q (F0 m 2 ls []) := by
    intro n_2
    induction n_2 with
    | zero =>
      intro l1 w_a0 H locs ls  hP hD hS hl hF
      simp only [wlX12_stands_2] at hF
    | succ n_2 ih_2 =>
      intro l1 w_a0 H locs ls  hP hD hS hl hF
      unfold wlX12_stands_2 at hF
      refine lv_iload_n hx hb dX12_stands_2 rfl (lv_at hl 1 rfl) ?_
      refine lv_aload_n hx hb dX12_stands_3 rfl (lv_at hl 0 rfl) ?_
      refine lv_iconst (v := 1) hx hb dX12_stands_4 (by decide) ?_
      refine s_iald (j := 1) hx hb hK.1 hP 0 0 rfl rfl (vi (by decide)) (by decide) dX12_stands_5 ?_
      refine lv_icmp_ge (tgt := 53) hx hb dX12_stands_6 (by decide) (fun c_ => ?_) (fun c_ => ?_)
      · have hF := hF.1 c_
        refine lv_aload_n hx hb dX12_stands_53 rfl (lv_at hl 0 rfl) ?_
        refine lv_iconst (v := 4) hx hb dX12_stands_54 (by decide) ?_
        refine lv_iconst (v := 0) hx hb dX12_stands_55 (by decide) ?_
        refine s_iast (j := 4) hx hb hK.1 hP hD hS 0 0 rfl rfl (vi (by decide)) (by decide) dX12_stands_56 (fun H locs hP hD hS => ?_)
        have hP : va_P D CL [(h_a0, .inl (cy 0, 124, .inl (upd w_a0 4 0)))] H := hP
        have hD : va_D A [(h_a0, .inl (cy 0, 124, .inl (upd w_a0 4 0)))] := hD
        refine lv_aload_n hx hb dX12_stands_57 rfl (lv_at hl 0 rfl) ?_
        refine lv_iconst (v := 3) hx hb dX12_stands_58 (by decide) ?_
        refine lv_iconst (v := 0) hx hb dX12_stands_59 (by decide) ?_
        refine s_iast (j := 3) hx hb hK.1 hP hD hS 0 0 rfl rfl (vi (by decide)) (by decide) dX12_stands_60 (fun H locs hP hD hS => ?_)
        have hP : va_P D CL [(h_a0, .inl (cy 0, 124, .inl (upd (upd w_a0 4 0) 3 0)))] H := hP
        have hD : va_D A [(h_a0, .inl (cy 0, 124, .inl (upd (upd w_a0 4 0) 3 0)))] := hD
        exact rt_v C hQ rfl hP hD hS ⟨(upd (upd w_a0 4 0) 3 0), rfl, hF⟩ dX12_stands_61
      · have hF := hF.2 c_
        refine lv_aload_n hx hb dX12_stands_9 rfl (lv_at hl 0 rfl) ?_
        refine lv_bipush (v := 6) hx hb dX12_stands_10 (by decide) ?_
        refine lv_bipush (v := 6) hx hb dX12_stands_12 (by decide) ?_
        refine lv_iload_n hx hb dX12_stands_14 rfl (lv_at hl 1 rfl) ?_
        refine lv_imul hx hb dX12_stands_15 ?_
        refine lv_iadd hx hb dX12_stands_16 ?_
        refine lv_iconst (v := 4) hx hb dX12_stands_17 (by decide) ?_
        refine lv_iadd hx hb dX12_stands_18 ?_
        refine lv_dup2_11 hx hb dX12_stands_19 rfl rfl ?_
        obtain ⟨hi1, hF⟩ := hF
        refine s_iald (j := (((6 + (6 * l1)) + 4)).toNatClampNeg) hx hb hK.1 hP 0 0 rfl rfl hi1 rfl dX12_stands_20 ?_
        refine lv_aload_n hx hb dX12_stands_21 rfl (lv_at hl 0 rfl) ?_
        refine lv_iload_n hx hb dX12_stands_22 rfl (lv_at hl 1 rfl) ?_
        refine lv_aload_n hx hb dX12_stands_23 rfl (lv_at hl 0 rfl) ?_
        refine lv_iconst (v := 3) hx hb dX12_stands_24 (by decide) ?_
        refine s_iald (j := 3) hx hb hK.1 hP 0 0 rfl rfl (vi (by decide)) (by decide) dX12_stands_25 ?_
        refine lv_iload_n hx hb dX12_stands_26 rfl (lv_at hl 1 rfl) ?_
        refine cS_r (As := [.int (w_a0 3), .int l1]) C mfX12_has t5_93 t5_92 (ccX12_has l D cy (w_a0 3) l1 _ hF) rfl rfl (hP.sub [] rfl) PR.np rfl hl.1 rfl (Nat.le_of_ble_eq_true rfl) dX12_stands_27 ⟨Nat.le_of_ble_eq_true rfl, Nat.le_of_ble_eq_true rfl⟩ ⟨Nat.le_of_ble_eq_true rfl, Nat.le_of_ble_eq_true rfl⟩ ?_
        intro r2 hF
        refine W.eq (g2 := F0 m 30 ls [.int (bz r2), .int l1, .ref h_a0, .int (w_a0 ((((6 + (6 * l1)) + 4)).toNatClampNeg)), .int ((6 + (6 * l1)) + 4), .ref h_a0]) rfl ?_
        refine cS_r (As := [.ref h_a0, .int l1, .int (bz r2)]) C mfX12_brings t5_106 t5_105 (ccX12_brings l D cy h_a0 w_a0 l1 r2 _ hF) rfl rfl (hP.sub [0] rfl) PR.np rfl hl.1 rfl (Nat.le_of_ble_eq_true rfl) dX12_stands_30 ⟨Nat.le_of_ble_eq_true rfl, Nat.le_of_ble_eq_true rfl⟩ ⟨Nat.le_of_ble_eq_true rfl, Nat.le_of_ble_eq_true rfl⟩ ?_
        intro r3 hF
        refine W.eq (g2 := F0 m 33 ls [.int r3, .int (w_a0 ((((6 + (6 * l1)) + 4)).toNatClampNeg)), .int ((6 + (6 * l1)) + 4), .ref h_a0]) rfl ?_
        refine lv_iadd hx hb dX12_stands_33 ?_
        obtain ⟨hi4, hF⟩ := hF
        refine s_iast (j := (((6 + (6 * l1)) + 4)).toNatClampNeg) hx hb hK.1 hP hD hS 0 0 rfl rfl hi4 rfl dX12_stands_34 (fun H locs hP hD hS => ?_)
        have hP : va_P D CL [(h_a0, .inl (cy 0, 124, .inl (upd w_a0 ((((6 + (6 * l1)) + 4)).toNatClampNeg) ((w_a0 ((((6 + (6 * l1)) + 4)).toNatClampNeg)) + r3))))] H := hP
        have hD : va_D A [(h_a0, .inl (cy 0, 124, .inl (upd w_a0 ((((6 + (6 * l1)) + 4)).toNatClampNeg) ((w_a0 ((((6 + (6 * l1)) + 4)).toNatClampNeg)) + r3))))] := hD
        refine lv_aload_n hx hb dX12_stands_35 rfl (lv_at hl 0 rfl) ?_
        refine lv_bipush (v := 6) hx hb dX12_stands_36 (by decide) ?_
        refine lv_bipush (v := 6) hx hb dX12_stands_38 (by decide) ?_
        refine lv_iload_n hx hb dX12_stands_40 rfl (lv_at hl 1 rfl) ?_
        refine lv_imul hx hb dX12_stands_41 ?_
        refine lv_iadd hx hb dX12_stands_42 ?_
        refine lv_iconst (v := 5) hx hb dX12_stands_43 (by decide) ?_
        refine lv_iadd hx hb dX12_stands_44 ?_
        refine lv_iconst (v := 0) hx hb dX12_stands_45 (by decide) ?_
        obtain ⟨hi5, hF⟩ := hF
        refine s_iast (j := (((6 + (6 * l1)) + 5)).toNatClampNeg) hx hb hK.1 hP hD hS 0 0 rfl rfl hi5 rfl dX12_stands_46 (fun H locs hP hD hS => ?_)
        have hP : va_P D CL [(h_a0, .inl (cy 0, 124, .inl (upd (upd w_a0 ((((6 + (6 * l1)) + 4)).toNatClampNeg) ((w_a0 ((((6 + (6 * l1)) + 4)).toNatClampNeg)) + r3)) ((((6 + (6 * l1)) + 5)).toNatClampNeg) 0)))] H := hP
        have hD : va_D A [(h_a0, .inl (cy 0, 124, .inl (upd (upd w_a0 ((((6 + (6 * l1)) + 4)).toNatClampNeg) ((w_a0 ((((6 + (6 * l1)) + 4)).toNatClampNeg)) + r3)) ((((6 + (6 * l1)) + 5)).toNatClampNeg) 0)))] := hD
        refine lv_iinc (v := (l1 + 1)) (lv' := [(1, .int (l1 + 1)), (0, .ref h_a0)]) hx hb dX12_stands_47 hl (k := 1) rfl rfl (by decide) rfl (fun ls hl => ?_)
        refine lv_goto (tgt := 2) hx hb dX12_stands_50 (by decide) ?_
        exact ih_2 (l1 + 1) (upd (upd w_a0 ((((6 + (6 * l1)) + 4)).toNatClampNeg) ((w_a0 ((((6 + (6 * l1)) + 4)).toNatClampNeg)) + r3)) ((((6 + (6 * l1)) + 5)).toNatClampNeg) 0) _ _ ls  hP hD hS (lv_sub hl [1, 0] rfl) hF
  unfold wpX12_stands at hF
  refine lv_iconst (v := 0) hx hb dX12_stands_0 (by decide) ?_
  refine lv_istore_n (lv' := [(1, .int 0), (0, .ref h_a0)]) hx hb dX12_stands_1 rfl hl (by decide) rfl (fun ls hl => ?_)
  exact L_2 fu 0 v_a0 _ _ ls  hP hD hS (lv_sub hl [1, 0] rfl) hF

def wpX12_live (p0 : Int32) (v_acts : Int32) (v_now : Nat → Int32) (v_past : Nat → Int32) (post : Int32 → Int32 → (Nat → Int32) → (Nat → Int32) → Prop) : Prop := wpX12_isVillage v_now (fun r1 => (r1 = true → (wpX12_in p0 1 999999 (fun r2 => (r2 = true → ((¬ (v_now 4) = 1 → (wpX12_notes v_acts v_past v_now (fun _ u4_acts u5_past => wpX12_passes ((p0).toInt64) v_now (fun r6 u7_now => vp_in (24 + (u7_now 5)) 124 ∧ (vp_in (24 + (u7_now 5)) 124 ∧ (post ((upd u7_now (((24 + (u7_now 5))).toNatClampNeg) ((u7_now (((24 + (u7_now 5))).toNatClampNeg)) + 1)) 3) u4_acts (upd u7_now (((24 + (u7_now 5))).toNatClampNeg) ((u7_now (((24 + (u7_now 5))).toNatClampNeg)) + 1)) u5_past)))))) ∧ ((v_now 4) = 1 → (post (-1000002) v_acts v_now v_past)))) ∧ (r2 = false → (post (-1000001) v_acts v_now v_past))))) ∧ (r1 = false → (post (-1000002) v_acts v_now v_past)))
abbrev miX12_live : MI := (yX12_live, cX12_live, 2, (some .int))
theorem mfX12_live : MF miX12_live 1 := ⟨t5_59, t1_8, by decide +kernel⟩
abbrev rmX12_live : Room := { frames := 3, cells := 0, slots := 0, locals := 70 }
set_option maxHeartbeats 4000000 in
set_option maxRecDepth 100000 in
theorem ccX12_live (l : Launch) (D : va_G) (cy : Nat → ClassId) (h_this : Nat) (h_now : Nat) (h_past : Nat) (x_lane : Value) (x_many : Value) (x_items : Value) (x_spare : Value) (x_tape : Value) (x_draft : Value) (x_tried : Value) (x_images : Value) (x_kept : Value) (x_trace : Value) (x_comes : Value) (x_standing : Value) (x_brought : Value) (x_habit : Value) (v_status : Int32) (v_taped : Int32) (v_faultKind : Int32) (v_faultPlace : Int32) (v_at : Int32) (v_start : Int32) (v_token : Int32) (v_value : Int32) (v_acts : Int32) (v_traced : Int32) (v_livedMany : Int32) (v_now : Nat → Int32) (v_past : Nat → Int32) (p0 : Int32) (post : Int32 → Int32 → (Nat → Int32) → (Nat → Int32) → Prop) (hF : wpX12_live p0 v_acts v_now v_past post) : Ct l D cy miX12_live rmX12_live emI NP [.ref h_this, .int p0] [(h_this, .inr (11, [x_lane, x_many, x_items, x_spare, .int v_status, x_tape, .int v_taped, .int v_faultKind, .int v_faultPlace, .int v_at, .int v_start, .int v_token, .int v_value, .ref h_now, x_draft, x_tried, .ref h_past, .int v_acts, x_images, x_kept, x_trace, .int v_traced, x_comes, x_standing, x_brought, x_habit, .int v_livedMany])), (h_now, .inl (cy 0, 124, .inl v_now)), (h_past, .inl (cy 0, 264, .inl v_past))] (fun r w1 => ∃ (w_acts : Int32) (w_now : Nat → Int32) (w_past : Nat → Int32), w1 = [(h_this, .inr (11, [x_lane, x_many, x_items, x_spare, .int v_status, x_tape, .int v_taped, .int v_faultKind, .int v_faultPlace, .int v_at, .int v_start, .int v_token, .int v_value, .ref h_now, x_draft, x_tried, .ref h_past, .int w_acts, x_images, x_kept, x_trace, .int v_traced, x_comes, x_standing, x_brought, x_habit, .int v_livedMany])), (h_now, .inl (cy 0, 124, .inl w_now)), (h_past, .inl (cy 0, 264, .inl w_past))] ∧ post r w_acts w_now w_past) := by
  refine Ct.of (by decide) (Nat.le_of_ble_eq_true rfl) ?_
  intro p e s m args below meth c A ls Q C hQ hA hI hP hD hS hl
  obtain ⟨hx, hb, hr, hml, hown, hts, hK, hlk, hnm⟩ := id C
  have hb : c.code = cX12_live := hb
  have hml : c.maxLocals = 2 := hml
  have hown : s.vm.findClass RX12 = some m.cls := hown
  have hl : lv_has ls 2 [(0, .ref h_this), (1, .int p0)] := hl
  unfold wpX12_live at hF
  refine lv_aload_n hx hb dX12_live_0 rfl (lv_at hl 0 rfl) ?_
  refine cV_r (As := []) C mfX12_isVillage t5_62 ts_24 t5_60 (ccX12_isVillage l D cy h_this h_now x_lane x_many x_items x_spare x_tape x_draft x_tried (.ref h_past) x_images x_kept x_trace x_comes x_standing x_brought x_habit v_status v_taped v_faultKind v_faultPlace v_at v_start v_token v_value v_acts v_traced v_livedMany v_now _ hF) rfl rfl (hP.sub [0, 1] rfl) PR.np hP 0 11 rfl rfl rfl rfl hl.1 rfl (Nat.le_of_ble_eq_true rfl) dX12_live_1 ⟨Nat.le_of_ble_eq_true rfl, Nat.le_of_ble_eq_true rfl⟩ ⟨Nat.le_of_ble_eq_true rfl, Nat.le_of_ble_eq_true rfl⟩ ?_
  intro r1 hF
  refine W.eq (g2 := F0 m 4 ls [.int (bz r1)]) rfl ?_
  refine lv_if_ne (tgt := 10) hx hb dX12_live_4 (by decide) (fun c_ => ?_) (fun c_ => ?_)
  · have hF := hF.1 ((bz_1 _).mp c_)
    refine lv_iload_n hx hb dX12_live_10 rfl (lv_at hl 1 rfl) ?_
    refine lv_iconst (v := 1) hx hb dX12_live_11 (by decide) ?_
    refine lv_ldc hx hb hown (hts _ t5_64) dX12_live_12 ?_
    refine cS_r (As := [.int p0, .int 1, .int 999999]) C mfX12_in t4_215 t4_214 (ccX12_in l D cy p0 1 999999 _ hF) rfl rfl (hP.sub [] rfl) PR.np rfl hl.1 rfl (Nat.le_of_ble_eq_true rfl) dX12_live_14 ⟨Nat.le_of_ble_eq_true rfl, Nat.le_of_ble_eq_true rfl⟩ ⟨Nat.le_of_ble_eq_true rfl, Nat.le_of_ble_eq_true rfl⟩ ?_
    intro r2 hF
    refine W.eq (g2 := F0 m 17 ls [.int (bz r2)]) rfl ?_
    refine lv_if_ne (tgt := 23) hx hb dX12_live_17 (by decide) (fun c_ => ?_) (fun c_ => ?_)
    · have hF := hF.1 ((bz_1 _).mp c_)
      refine lv_aload_n hx hb dX12_live_23 rfl (lv_at hl 0 rfl) ?_
      refine va_get (D := D) (ci := 11) (v := .ref h_now) (C := RX12) (T := TX12) (N := 27) hx hb hts inTX12 hown hK.1 hP 0 rfl rfl 13 (by decide) (hts _ t4_137) (fun _ h9 => h9) rfl dX12_live_24 ?_
      refine lv_iconst (v := 4) hx hb dX12_live_27 (by decide) ?_
      refine s_iald (j := 4) hx hb hK.1 hP 1 0 rfl rfl (vi (by decide)) (by decide) dX12_live_28 ?_
      refine lv_iconst (v := 1) hx hb dX12_live_29 (by decide) ?_
      refine lv_icmp_ne (tgt := 36) hx hb dX12_live_30 (by decide) (fun c_ => ?_) (fun c_ => ?_)
      · have hF := hF.1 c_
        refine lv_aload_n hx hb dX12_live_36 rfl (lv_at hl 0 rfl) ?_
        refine cV_t (As := []) (wr := []) C hA hP hD hS mfX12_notes t5_67 ts_25 t5_65 (ccX12_notes l D cy h_this h_past h_now x_lane x_many x_items x_spare x_tape x_draft x_tried x_images x_kept x_trace x_comes x_standing x_brought x_habit v_status v_taped v_faultKind v_faultPlace v_at v_start v_token v_value v_acts v_traced v_livedMany v_past v_now _ hF) [0, 2, 1] [] rfl rfl (by decide) (by decide) (by decide) PO.np 0 11 rfl rfl rfl rfl hl.1 rfl (Nat.le_of_ble_eq_true rfl) dX12_live_37 ⟨Nat.le_of_ble_eq_true rfl, Nat.le_of_ble_eq_true rfl⟩ ⟨Nat.le_of_ble_eq_true rfl, Nat.le_of_ble_eq_true rfl⟩ ?_
        rintro ⟨⟩ w1 H locs ⟨u4_acts, u5_past, rfl, hF⟩ hP hD hS
        have hP : va_P D CL [(h_this, .inr (11, [x_lane, x_many, x_items, x_spare, .int v_status, x_tape, .int v_taped, .int v_faultKind, .int v_faultPlace, .int v_at, .int v_start, .int v_token, .int v_value, .ref h_now, x_draft, x_tried, .ref h_past, .int u4_acts, x_images, x_kept, x_trace, .int v_traced, x_comes, x_standing, x_brought, x_habit, .int v_livedMany])), (h_past, .inl (cy 0, 264, .inl u5_past)), (h_now, .inl (cy 0, 124, .inl v_now))] H := hP
        have hD : va_D A [(h_this, .inr (11, [x_lane, x_many, x_items, x_spare, .int v_status, x_tape, .int v_taped, .int v_faultKind, .int v_faultPlace, .int v_at, .int v_start, .int v_token, .int v_value, .ref h_now, x_draft, x_tried, .ref h_past, .int u4_acts, x_images, x_kept, x_trace, .int v_traced, x_comes, x_standing, x_brought, x_habit, .int v_livedMany])), (h_past, .inl (cy 0, 264, .inl u5_past)), (h_now, .inl (cy 0, 124, .inl v_now))] := hD
        refine W.eq (g2 := F0 m 40 ls []) rfl ?_
        refine lv_aload_n hx hb dX12_live_40 rfl (lv_at hl 0 rfl) ?_
        refine va_get (D := D) (ci := 11) (v := .ref h_now) (C := RX12) (T := TX12) (N := 27) hx hb hts inTX12 hown hK.1 hP 0 rfl rfl 13 (by decide) (hts _ t4_137) (fun _ h9 => h9) rfl dX12_live_41 ?_
        refine lv_iload_n hx hb dX12_live_44 rfl (lv_at hl 1 rfl) ?_
        refine lv_i2l hx hb dX12_live_45 rfl ?_
        refine cS_t (As := [.ref h_now, .long ((p0).toInt64)]) (wr := [(h_this, .inr (11, [x_lane, x_many, x_items, x_spare, .int v_status, x_tape, .int v_taped, .int v_faultKind, .int v_faultPlace, .int v_at, .int v_start, .int v_token, .int v_value, .ref h_now, x_draft, x_tried, .ref h_past, .int u4_acts, x_images, x_kept, x_trace, .int v_traced, x_comes, x_standing, x_brought, x_habit, .int v_livedMany])), (h_past, .inl (cy 0, 264, .inl u5_past))]) C hA hP hD hS mfX12_passes t5_70 t5_69 (ccX12_passes l D cy h_now v_now ((p0).toInt64) _ hF) [2] [0, 1] rfl rfl (by decide) (by decide) (by decide) PO.np rfl hl.1 rfl (Nat.le_of_ble_eq_true rfl) dX12_live_46 ⟨Nat.le_of_ble_eq_true rfl, Nat.le_of_ble_eq_true rfl⟩ ⟨Nat.le_of_ble_eq_true rfl, Nat.le_of_ble_eq_true rfl⟩ ?_
        rintro r6 w1 H locs ⟨u7_now, rfl, hF⟩ hP hD hS
        have hP : va_P D CL [(h_this, .inr (11, [x_lane, x_many, x_items, x_spare, .int v_status, x_tape, .int v_taped, .int v_faultKind, .int v_faultPlace, .int v_at, .int v_start, .int v_token, .int v_value, .ref h_now, x_draft, x_tried, .ref h_past, .int u4_acts, x_images, x_kept, x_trace, .int v_traced, x_comes, x_standing, x_brought, x_habit, .int v_livedMany])), (h_past, .inl (cy 0, 264, .inl u5_past)), (h_now, .inl (cy 0, 124, .inl u7_now))] H := hP
        have hD : va_D A [(h_this, .inr (11, [x_lane, x_many, x_items, x_spare, .int v_status, x_tape, .int v_taped, .int v_faultKind, .int v_faultPlace, .int v_at, .int v_start, .int v_token, .int v_value, .ref h_now, x_draft, x_tried, .ref h_past, .int u4_acts, x_images, x_kept, x_trace, .int v_traced, x_comes, x_standing, x_brought, x_habit, .int v_livedMany])), (h_past, .inl (cy 0, 264, .inl u5_past)), (h_now, .inl (cy 0, 124, .inl u7_now))] := hD
        refine W.eq (g2 := F0 m 49 ls [.long r6]) rfl ?_
        refine lv_pop2_2 hx hb dX12_live_49 rfl ?_
        refine lv_aload_n hx hb dX12_live_50 rfl (lv_at hl 0 rfl) ?_
        refine va_get (D := D) (ci := 11) (v := .ref h_now) (C := RX12) (T := TX12) (N := 27) hx hb hts inTX12 hown hK.1 hP 0 rfl rfl 13 (by decide) (hts _ t4_137) (fun _ h9 => h9) rfl dX12_live_51 ?_
        refine lv_bipush (v := 24) hx hb dX12_live_54 (by decide) ?_
        refine lv_aload_n hx hb dX12_live_56 rfl (lv_at hl 0 rfl) ?_
        refine va_get (D := D) (ci := 11) (v := .ref h_now) (C := RX12) (T := TX12) (N := 27) hx hb hts inTX12 hown hK.1 hP 0 rfl rfl 13 (by decide) (hts _ t4_137) (fun _ h9 => h9) rfl dX12_live_57 ?_
        refine lv_iconst (v := 5) hx hb dX12_live_60 (by decide) ?_
        refine s_iald (j := 5) hx hb hK.1 hP 2 0 rfl rfl (vi (by decide)) (by decide) dX12_live_61 ?_
        refine lv_iadd hx hb dX12_live_62 ?_
        refine lv_dup2_11 hx hb dX12_live_63 rfl rfl ?_
        obtain ⟨hi8, hF⟩ := hF
        refine s_iald (j := ((24 + (u7_now 5))).toNatClampNeg) hx hb hK.1 hP 2 0 rfl rfl hi8 rfl dX12_live_64 ?_
        refine lv_iconst (v := 1) hx hb dX12_live_65 (by decide) ?_
        refine lv_iadd hx hb dX12_live_66 ?_
        obtain ⟨hi9, hF⟩ := hF
        refine s_iast (j := ((24 + (u7_now 5))).toNatClampNeg) hx hb hK.1 hP hD hS 2 0 rfl rfl hi9 rfl dX12_live_67 (fun H locs hP hD hS => ?_)
        have hP : va_P D CL [(h_this, .inr (11, [x_lane, x_many, x_items, x_spare, .int v_status, x_tape, .int v_taped, .int v_faultKind, .int v_faultPlace, .int v_at, .int v_start, .int v_token, .int v_value, .ref h_now, x_draft, x_tried, .ref h_past, .int u4_acts, x_images, x_kept, x_trace, .int v_traced, x_comes, x_standing, x_brought, x_habit, .int v_livedMany])), (h_past, .inl (cy 0, 264, .inl u5_past)), (h_now, .inl (cy 0, 124, .inl (upd u7_now (((24 + (u7_now 5))).toNatClampNeg) ((u7_now (((24 + (u7_now 5))).toNatClampNeg)) + 1))))] H := hP
        have hD : va_D A [(h_this, .inr (11, [x_lane, x_many, x_items, x_spare, .int v_status, x_tape, .int v_taped, .int v_faultKind, .int v_faultPlace, .int v_at, .int v_start, .int v_token, .int v_value, .ref h_now, x_draft, x_tried, .ref h_past, .int u4_acts, x_images, x_kept, x_trace, .int v_traced, x_comes, x_standing, x_brought, x_habit, .int v_livedMany])), (h_past, .inl (cy 0, 264, .inl u5_past)), (h_now, .inl (cy 0, 124, .inl (upd u7_now (((24 + (u7_now 5))).toNatClampNeg) ((u7_now (((24 + (u7_now 5))).toNatClampNeg)) + 1))))] := hD
        refine lv_aload_n hx hb dX12_live_68 rfl (lv_at hl 0 rfl) ?_
        refine va_get (D := D) (ci := 11) (v := .ref h_now) (C := RX12) (T := TX12) (N := 27) hx hb hts inTX12 hown hK.1 hP 0 rfl rfl 13 (by decide) (hts _ t4_137) (fun _ h9 => h9) rfl dX12_live_69 ?_
        refine lv_iconst (v := 3) hx hb dX12_live_72 (by decide) ?_
        refine s_iald (j := 3) hx hb hK.1 hP 2 0 rfl rfl (vi (by decide)) (by decide) dX12_live_73 ?_
        have hP : va_P D CL [(h_this, .inr (11, [x_lane, x_many, x_items, x_spare, .int v_status, x_tape, .int v_taped, .int v_faultKind, .int v_faultPlace, .int v_at, .int v_start, .int v_token, .int v_value, .ref h_now, x_draft, x_tried, .ref h_past, .int u4_acts, x_images, x_kept, x_trace, .int v_traced, x_comes, x_standing, x_brought, x_habit, .int v_livedMany])), (h_now, .inl (cy 0, 124, .inl (upd u7_now (((24 + (u7_now 5))).toNatClampNeg) ((u7_now (((24 + (u7_now 5))).toNatClampNeg)) + 1)))), (h_past, .inl (cy 0, 264, .inl u5_past))] H := (hP.sub [0, 2, 1] rfl)
        have hD : va_D A [(h_this, .inr (11, [x_lane, x_many, x_items, x_spare, .int v_status, x_tape, .int v_taped, .int v_faultKind, .int v_faultPlace, .int v_at, .int v_start, .int v_token, .int v_value, .ref h_now, x_draft, x_tried, .ref h_past, .int u4_acts, x_images, x_kept, x_trace, .int v_traced, x_comes, x_standing, x_brought, x_habit, .int v_livedMany])), (h_now, .inl (cy 0, 124, .inl (upd u7_now (((24 + (u7_now 5))).toNatClampNeg) ((u7_now (((24 + (u7_now 5))).toNatClampNeg)) + 1)))), (h_past, .inl (cy 0, 264, .inl u5_past))] := (hD.sub [0, 2, 1] (by decide) rfl)
        exact rt_i C hQ rfl hP hD hS ⟨u4_acts, (upd u7_now (((24 + (u7_now 5))).toNatClampNeg) ((u7_now (((24 + (u7_now 5))).toNatClampNeg)) + 1)), u5_past, rfl, hF⟩ dX12_live_74
      · have hF := hF.2 c_
        refine lv_ldc hx hb hown (hts _ t5_55) dX12_live_33 ?_
        exact rt_i C hQ rfl hP hD hS ⟨v_acts, v_now, v_past, rfl, hF⟩ dX12_live_35
    · have hF := hF.2 ((bz_0 _).mp c_)
      refine lv_ldc hx hb hown (hts _ t4_217) dX12_live_20 ?_
      exact rt_i C hQ rfl hP hD hS ⟨v_acts, v_now, v_past, rfl, hF⟩ dX12_live_22
  · have hF := hF.2 ((bz_0 _).mp c_)
    refine lv_ldc hx hb hown (hts _ t5_55) dX12_live_7 ?_
    exact rt_i C hQ rfl hP hD hS ⟨v_acts, v_now, v_past, rfl, hF⟩ dX12_live_9

def wpX12_again (p0 : Int32) (v_acts : Int32) (v_now : Nat → Int32) (v_past : Nat → Int32) (post : Int32 → Int32 → (Nat → Int32) → (Nat → Int32) → Prop) : Prop := wpX12_isPerson p0 v_now (fun r1 => (r1 = true → (((v_now 4) = 0 → (post (-1000002) v_acts v_now v_past)) ∧ (¬ (v_now 4) = 0 → (wpX12_has (v_now 2) p0 (fun r2 => (r2 = false → (post (-1000002) v_acts v_now v_past)) ∧ (r2 = true → (wpX12_kindIn p0 v_now (fun r3 => (¬ r3 = 4 → (wpX12_notes v_acts v_past v_now (fun _ u5_acts u6_past => wpX12_againBy p0 v_now (fun _ u8_now => vp_in ((6 + (6 * p0)) + 5) 124 ∧ (post (u8_now ((((6 + (6 * p0)) + 5)).toNatClampNeg)) u5_acts u8_now u6_past))))) ∧ (r3 = 4 → (post (-1000002) v_acts v_now v_past)))))))))) ∧ (r1 = false → (post (-1000001) v_acts v_now v_past)))
abbrev miX12_again : MI := (yX12_again, cX12_again, 2, (some .int))
theorem mfX12_again : MF miX12_again 1 := ⟨t5_87, t1_8, by decide +kernel⟩
abbrev rmX12_again : Room := { frames := 2, cells := 0, slots := 0, locals := 43 }
set_option maxHeartbeats 4000000 in
set_option maxRecDepth 100000 in
theorem ccX12_again (l : Launch) (D : va_G) (cy : Nat → ClassId) (h_this : Nat) (h_now : Nat) (h_past : Nat) (x_lane : Value) (x_many : Value) (x_items : Value) (x_spare : Value) (x_tape : Value) (x_draft : Value) (x_tried : Value) (x_images : Value) (x_kept : Value) (x_trace : Value) (x_comes : Value) (x_standing : Value) (x_brought : Value) (x_habit : Value) (v_status : Int32) (v_taped : Int32) (v_faultKind : Int32) (v_faultPlace : Int32) (v_at : Int32) (v_start : Int32) (v_token : Int32) (v_value : Int32) (v_acts : Int32) (v_traced : Int32) (v_livedMany : Int32) (v_now : Nat → Int32) (v_past : Nat → Int32) (p0 : Int32) (post : Int32 → Int32 → (Nat → Int32) → (Nat → Int32) → Prop) (hF : wpX12_again p0 v_acts v_now v_past post) : Ct l D cy miX12_again rmX12_again emI NP [.ref h_this, .int p0] [(h_this, .inr (11, [x_lane, x_many, x_items, x_spare, .int v_status, x_tape, .int v_taped, .int v_faultKind, .int v_faultPlace, .int v_at, .int v_start, .int v_token, .int v_value, .ref h_now, x_draft, x_tried, .ref h_past, .int v_acts, x_images, x_kept, x_trace, .int v_traced, x_comes, x_standing, x_brought, x_habit, .int v_livedMany])), (h_now, .inl (cy 0, 124, .inl v_now)), (h_past, .inl (cy 0, 264, .inl v_past))] (fun r w1 => ∃ (w_acts : Int32) (w_now : Nat → Int32) (w_past : Nat → Int32), w1 = [(h_this, .inr (11, [x_lane, x_many, x_items, x_spare, .int v_status, x_tape, .int v_taped, .int v_faultKind, .int v_faultPlace, .int v_at, .int v_start, .int v_token, .int v_value, .ref h_now, x_draft, x_tried, .ref h_past, .int w_acts, x_images, x_kept, x_trace, .int v_traced, x_comes, x_standing, x_brought, x_habit, .int v_livedMany])), (h_now, .inl (cy 0, 124, .inl w_now)), (h_past, .inl (cy 0, 264, .inl w_past))] ∧ post r w_acts w_now w_past) := by
  refine Ct.of (by decide) (Nat.le_of_ble_eq_true rfl) ?_
  intro p e s m args below meth c A ls Q C hQ hA hI hP hD hS hl
  obtain ⟨hx, hb, hr, hml, hown, hts, hK, hlk, hnm⟩ := id C
  have hb : c.code = cX12_again := hb
  have hml : c.maxLocals = 2 := hml
  have hown : s.vm.findClass RX12 = some m.cls := hown
  have hl : lv_has ls 2 [(0, .ref h_this), (1, .int p0)] := hl
  unfold wpX12_again at hF
  refine lv_aload_n hx hb dX12_again_0 rfl (lv_at hl 0 rfl) ?_
  refine lv_iload_n hx hb dX12_again_1 rfl (lv_at hl 1 rfl) ?_
  refine cV_r (As := [.int p0]) C mfX12_isPerson t5_90 ts_26 t5_88 (ccX12_isPerson l D cy h_this h_now x_lane x_many x_items x_spare x_tape x_draft x_tried (.ref h_past) x_images x_kept x_trace x_comes x_standing x_brought x_habit v_status v_taped v_faultKind v_faultPlace v_at v_start v_token v_value v_acts v_traced v_livedMany v_now p0 _ hF) rfl rfl (hP.sub [0, 1] rfl) PR.np hP 0 11 rfl rfl rfl rfl hl.1 rfl (Nat.le_of_ble_eq_true rfl) dX12_again_2 ⟨Nat.le_of_ble_eq_true rfl, Nat.le_of_ble_eq_true rfl⟩ ⟨Nat.le_of_ble_eq_true rfl, Nat.le_of_ble_eq_true rfl⟩ ?_
  intro r1 hF
  refine W.eq (g2 := F0 m 5 ls [.int (bz r1)]) rfl ?_
  refine lv_if_ne (tgt := 11) hx hb dX12_again_5 (by decide) (fun c_ => ?_) (fun c_ => ?_)
  · have hF := hF.1 ((bz_1 _).mp c_)
    refine lv_aload_n hx hb dX12_again_11 rfl (lv_at hl 0 rfl) ?_
    refine va_get (D := D) (ci := 11) (v := .ref h_now) (C := RX12) (T := TX12) (N := 27) hx hb hts inTX12 hown hK.1 hP 0 rfl rfl 13 (by decide) (hts _ t4_137) (fun _ h9 => h9) rfl dX12_again_12 ?_
    refine lv_iconst (v := 4) hx hb dX12_again_15 (by decide) ?_
    refine s_iald (j := 4) hx hb hK.1 hP 1 0 rfl rfl (vi (by decide)) (by decide) dX12_again_16 ?_
    refine lv_if_eq (tgt := 45) hx hb dX12_again_17 (by decide) (fun c_ => ?_) (fun c_ => ?_)
    · have hF := hF.1 c_
      refine lv_ldc hx hb hown (hts _ t5_55) dX12_again_45 ?_
      exact rt_i C hQ rfl hP hD hS ⟨v_acts, v_now, v_past, rfl, hF⟩ dX12_again_47
    · have hF := hF.2 c_
      refine lv_aload_n hx hb dX12_again_20 rfl (lv_at hl 0 rfl) ?_
      refine va_get (D := D) (ci := 11) (v := .ref h_now) (C := RX12) (T := TX12) (N := 27) hx hb hts inTX12 hown hK.1 hP 0 rfl rfl 13 (by decide) (hts _ t4_137) (fun _ h9 => h9) rfl dX12_again_21 ?_
      refine lv_iconst (v := 2) hx hb dX12_again_24 (by decide) ?_
      refine s_iald (j := 2) hx hb hK.1 hP 1 0 rfl rfl (vi (by decide)) (by decide) dX12_again_25 ?_
      refine lv_iload_n hx hb dX12_again_26 rfl (lv_at hl 1 rfl) ?_
      refine cS_r (As := [.int (v_now 2), .int p0]) C mfX12_has t5_93 t5_92 (ccX12_has l D cy (v_now 2) p0 _ hF) rfl rfl (hP.sub [] rfl) PR.np rfl hl.1 rfl (Nat.le_of_ble_eq_true rfl) dX12_again_27 ⟨Nat.le_of_ble_eq_true rfl, Nat.le_of_ble_eq_true rfl⟩ ⟨Nat.le_of_ble_eq_true rfl, Nat.le_of_ble_eq_true rfl⟩ ?_
      intro r2 hF
      refine W.eq (g2 := F0 m 30 ls [.int (bz r2)]) rfl ?_
      refine lv_if_eq (tgt := 45) hx hb dX12_again_30 (by decide) (fun c_ => ?_) (fun c_ => ?_)
      · have hF := hF.1 ((bz_0 _).mp c_)
        refine lv_ldc hx hb hown (hts _ t5_55) dX12_again_45 ?_
        exact rt_i C hQ rfl hP hD hS ⟨v_acts, v_now, v_past, rfl, hF⟩ dX12_again_47
      · have hF := hF.2 ((bz_1 _).mp c_)
        refine lv_aload_n hx hb dX12_again_33 rfl (lv_at hl 0 rfl) ?_
        refine va_get (D := D) (ci := 11) (v := .ref h_now) (C := RX12) (T := TX12) (N := 27) hx hb hts inTX12 hown hK.1 hP 0 rfl rfl 13 (by decide) (hts _ t4_137) (fun _ h9 => h9) rfl dX12_again_34 ?_
        refine lv_iload_n hx hb dX12_again_37 rfl (lv_at hl 1 rfl) ?_
        refine cS_r (As := [.ref h_now, .int p0]) C mfX12_kindIn t5_82 t5_81 (ccX12_kindIn l D cy h_now v_now p0 _ hF) rfl rfl (hP.sub [1] rfl) PR.np rfl hl.1 rfl (Nat.le_of_ble_eq_true rfl) dX12_again_38 ⟨Nat.le_of_ble_eq_true rfl, Nat.le_of_ble_eq_true rfl⟩ ⟨Nat.le_of_ble_eq_true rfl, Nat.le_of_ble_eq_true rfl⟩ ?_
        intro r3 hF
        refine W.eq (g2 := F0 m 41 ls [.int r3]) rfl ?_
        refine lv_iconst (v := 4) hx hb dX12_again_41 (by decide) ?_
        refine lv_icmp_ne (tgt := 48) hx hb dX12_again_42 (by decide) (fun c_ => ?_) (fun c_ => ?_)
        · have hF := hF.1 c_
          refine lv_aload_n hx hb dX12_again_48 rfl (lv_at hl 0 rfl) ?_
          refine cV_t (As := []) (wr := []) C hA hP hD hS mfX12_notes t5_67 ts_25 t5_65 (ccX12_notes l D cy h_this h_past h_now x_lane x_many x_items x_spare x_tape x_draft x_tried x_images x_kept x_trace x_comes x_standing x_brought x_habit v_status v_taped v_faultKind v_faultPlace v_at v_start v_token v_value v_acts v_traced v_livedMany v_past v_now _ hF) [0, 2, 1] [] rfl rfl (by decide) (by decide) (by decide) PO.np 0 11 rfl rfl rfl rfl hl.1 rfl (Nat.le_of_ble_eq_true rfl) dX12_again_49 ⟨Nat.le_of_ble_eq_true rfl, Nat.le_of_ble_eq_true rfl⟩ ⟨Nat.le_of_ble_eq_true rfl, Nat.le_of_ble_eq_true rfl⟩ ?_
          rintro ⟨⟩ w1 H locs ⟨u5_acts, u6_past, rfl, hF⟩ hP hD hS
          have hP : va_P D CL [(h_this, .inr (11, [x_lane, x_many, x_items, x_spare, .int v_status, x_tape, .int v_taped, .int v_faultKind, .int v_faultPlace, .int v_at, .int v_start, .int v_token, .int v_value, .ref h_now, x_draft, x_tried, .ref h_past, .int u5_acts, x_images, x_kept, x_trace, .int v_traced, x_comes, x_standing, x_brought, x_habit, .int v_livedMany])), (h_past, .inl (cy 0, 264, .inl u6_past)), (h_now, .inl (cy 0, 124, .inl v_now))] H := hP
          have hD : va_D A [(h_this, .inr (11, [x_lane, x_many, x_items, x_spare, .int v_status, x_tape, .int v_taped, .int v_faultKind, .int v_faultPlace, .int v_at, .int v_start, .int v_token, .int v_value, .ref h_now, x_draft, x_tried, .ref h_past, .int u5_acts, x_images, x_kept, x_trace, .int v_traced, x_comes, x_standing, x_brought, x_habit, .int v_livedMany])), (h_past, .inl (cy 0, 264, .inl u6_past)), (h_now, .inl (cy 0, 124, .inl v_now))] := hD
          refine W.eq (g2 := F0 m 52 ls []) rfl ?_
          refine lv_aload_n hx hb dX12_again_52 rfl (lv_at hl 0 rfl) ?_
          refine va_get (D := D) (ci := 11) (v := .ref h_now) (C := RX12) (T := TX12) (N := 27) hx hb hts inTX12 hown hK.1 hP 0 rfl rfl 13 (by decide) (hts _ t4_137) (fun _ h9 => h9) rfl dX12_again_53 ?_
          refine lv_iload_n hx hb dX12_again_56 rfl (lv_at hl 1 rfl) ?_
          refine cS_t (As := [.ref h_now, .int p0]) (wr := [(h_this, .inr (11, [x_lane, x_many, x_items, x_spare, .int v_status, x_tape, .int v_taped, .int v_faultKind, .int v_faultPlace, .int v_at, .int v_start, .int v_token, .int v_value, .ref h_now, x_draft, x_tried, .ref h_past, .int u5_acts, x_images, x_kept, x_trace, .int v_traced, x_comes, x_standing, x_brought, x_habit, .int v_livedMany])), (h_past, .inl (cy 0, 264, .inl u6_past))]) C hA hP hD hS mfX12_againBy t5_96 t5_95 (ccX12_againBy l D cy h_now v_now p0 _ hF) [2] [0, 1] rfl rfl (by decide) (by decide) (by decide) PO.np rfl hl.1 rfl (Nat.le_of_ble_eq_true rfl) dX12_again_57 ⟨Nat.le_of_ble_eq_true rfl, Nat.le_of_ble_eq_true rfl⟩ ⟨Nat.le_of_ble_eq_true rfl, Nat.le_of_ble_eq_true rfl⟩ ?_
          rintro ⟨⟩ w1 H locs ⟨u8_now, rfl, hF⟩ hP hD hS
          have hP : va_P D CL [(h_this, .inr (11, [x_lane, x_many, x_items, x_spare, .int v_status, x_tape, .int v_taped, .int v_faultKind, .int v_faultPlace, .int v_at, .int v_start, .int v_token, .int v_value, .ref h_now, x_draft, x_tried, .ref h_past, .int u5_acts, x_images, x_kept, x_trace, .int v_traced, x_comes, x_standing, x_brought, x_habit, .int v_livedMany])), (h_past, .inl (cy 0, 264, .inl u6_past)), (h_now, .inl (cy 0, 124, .inl u8_now))] H := hP
          have hD : va_D A [(h_this, .inr (11, [x_lane, x_many, x_items, x_spare, .int v_status, x_tape, .int v_taped, .int v_faultKind, .int v_faultPlace, .int v_at, .int v_start, .int v_token, .int v_value, .ref h_now, x_draft, x_tried, .ref h_past, .int u5_acts, x_images, x_kept, x_trace, .int v_traced, x_comes, x_standing, x_brought, x_habit, .int v_livedMany])), (h_past, .inl (cy 0, 264, .inl u6_past)), (h_now, .inl (cy 0, 124, .inl u8_now))] := hD
          refine W.eq (g2 := F0 m 60 ls []) rfl ?_
          refine lv_aload_n hx hb dX12_again_60 rfl (lv_at hl 0 rfl) ?_
          refine va_get (D := D) (ci := 11) (v := .ref h_now) (C := RX12) (T := TX12) (N := 27) hx hb hts inTX12 hown hK.1 hP 0 rfl rfl 13 (by decide) (hts _ t4_137) (fun _ h9 => h9) rfl dX12_again_61 ?_
          refine lv_bipush (v := 6) hx hb dX12_again_64 (by decide) ?_
          refine lv_bipush (v := 6) hx hb dX12_again_66 (by decide) ?_
          refine lv_iload_n hx hb dX12_again_68 rfl (lv_at hl 1 rfl) ?_
          refine lv_imul hx hb dX12_again_69 ?_
          refine lv_iadd hx hb dX12_again_70 ?_
          refine lv_iconst (v := 5) hx hb dX12_again_71 (by decide) ?_
          refine lv_iadd hx hb dX12_again_72 ?_
          obtain ⟨hi9, hF⟩ := hF
          refine s_iald (j := (((6 + (6 * p0)) + 5)).toNatClampNeg) hx hb hK.1 hP 2 0 rfl rfl hi9 rfl dX12_again_73 ?_
          have hP : va_P D CL [(h_this, .inr (11, [x_lane, x_many, x_items, x_spare, .int v_status, x_tape, .int v_taped, .int v_faultKind, .int v_faultPlace, .int v_at, .int v_start, .int v_token, .int v_value, .ref h_now, x_draft, x_tried, .ref h_past, .int u5_acts, x_images, x_kept, x_trace, .int v_traced, x_comes, x_standing, x_brought, x_habit, .int v_livedMany])), (h_now, .inl (cy 0, 124, .inl u8_now)), (h_past, .inl (cy 0, 264, .inl u6_past))] H := (hP.sub [0, 2, 1] rfl)
          have hD : va_D A [(h_this, .inr (11, [x_lane, x_many, x_items, x_spare, .int v_status, x_tape, .int v_taped, .int v_faultKind, .int v_faultPlace, .int v_at, .int v_start, .int v_token, .int v_value, .ref h_now, x_draft, x_tried, .ref h_past, .int u5_acts, x_images, x_kept, x_trace, .int v_traced, x_comes, x_standing, x_brought, x_habit, .int v_livedMany])), (h_now, .inl (cy 0, 124, .inl u8_now)), (h_past, .inl (cy 0, 264, .inl u6_past))] := (hD.sub [0, 2, 1] (by decide) rfl)
          exact rt_i C hQ rfl hP hD hS ⟨u5_acts, u8_now, u6_past, rfl, hF⟩ dX12_again_74
        · have hF := hF.2 c_
          refine lv_ldc hx hb hown (hts _ t5_55) dX12_again_45 ?_
          exact rt_i C hQ rfl hP hD hS ⟨v_acts, v_now, v_past, rfl, hF⟩ dX12_again_47
  · have hF := hF.2 ((bz_0 _).mp c_)
    refine lv_ldc hx hb hown (hts _ t4_217) dX12_again_8 ?_
    exact rt_i C hQ rfl hP hD hS ⟨v_acts, v_now, v_past, rfl, hF⟩ dX12_again_10

def wpX12_stand (v_acts : Int32) (v_now : Nat → Int32) (v_past : Nat → Int32) (post : Int32 → Int32 → (Nat → Int32) → (Nat → Int32) → Prop) : Prop := wpX12_isVillage v_now (fun r1 => (r1 = false → (post (-1000002) v_acts v_now v_past)) ∧ (r1 = true → ((¬ (v_now 4) = 0 → ((¬ (v_now 5) = 99 → (wpX12_notes v_acts v_past v_now (fun _ u3_acts u4_past => wpX12_stands v_now (fun _ u6_now => vp_in ((24 + ((upd u6_now 5 ((u6_now 5) + 1)) 5)) - 1) 124 ∧ (post ((upd u6_now 5 ((u6_now 5) + 1)) ((((24 + ((upd u6_now 5 ((u6_now 5) + 1)) 5)) - 1)).toNatClampNeg)) u3_acts (upd u6_now 5 ((u6_now 5) + 1)) u4_past))))) ∧ ((v_now 5) = 99 → (post (-1000003) v_acts v_now v_past)))) ∧ ((v_now 4) = 0 → (post (-1000002) v_acts v_now v_past)))))
abbrev miX12_stand : MI := (yX12_stand, cX12_stand, 1, (some .int))
theorem mfX12_stand : MF miX12_stand 0 := ⟨t5_101, t1_8, by decide +kernel⟩
abbrev rmX12_stand : Room := { frames := 2, cells := 0, slots := 0, locals := 44 }
set_option maxHeartbeats 4000000 in
set_option maxRecDepth 100000 in
theorem ccX12_stand (l : Launch) (D : va_G) (cy : Nat → ClassId) (h_this : Nat) (h_now : Nat) (h_past : Nat) (x_lane : Value) (x_many : Value) (x_items : Value) (x_spare : Value) (x_tape : Value) (x_draft : Value) (x_tried : Value) (x_images : Value) (x_kept : Value) (x_trace : Value) (x_comes : Value) (x_standing : Value) (x_brought : Value) (x_habit : Value) (v_status : Int32) (v_taped : Int32) (v_faultKind : Int32) (v_faultPlace : Int32) (v_at : Int32) (v_start : Int32) (v_token : Int32) (v_value : Int32) (v_acts : Int32) (v_traced : Int32) (v_livedMany : Int32) (v_now : Nat → Int32) (v_past : Nat → Int32) (post : Int32 → Int32 → (Nat → Int32) → (Nat → Int32) → Prop) (hF : wpX12_stand v_acts v_now v_past post) : Ct l D cy miX12_stand rmX12_stand emI NP [.ref h_this] [(h_this, .inr (11, [x_lane, x_many, x_items, x_spare, .int v_status, x_tape, .int v_taped, .int v_faultKind, .int v_faultPlace, .int v_at, .int v_start, .int v_token, .int v_value, .ref h_now, x_draft, x_tried, .ref h_past, .int v_acts, x_images, x_kept, x_trace, .int v_traced, x_comes, x_standing, x_brought, x_habit, .int v_livedMany])), (h_now, .inl (cy 0, 124, .inl v_now)), (h_past, .inl (cy 0, 264, .inl v_past))] (fun r w1 => ∃ (w_acts : Int32) (w_now : Nat → Int32) (w_past : Nat → Int32), w1 = [(h_this, .inr (11, [x_lane, x_many, x_items, x_spare, .int v_status, x_tape, .int v_taped, .int v_faultKind, .int v_faultPlace, .int v_at, .int v_start, .int v_token, .int v_value, .ref h_now, x_draft, x_tried, .ref h_past, .int w_acts, x_images, x_kept, x_trace, .int v_traced, x_comes, x_standing, x_brought, x_habit, .int v_livedMany])), (h_now, .inl (cy 0, 124, .inl w_now)), (h_past, .inl (cy 0, 264, .inl w_past))] ∧ post r w_acts w_now w_past) := by
  refine Ct.of (by decide) (Nat.le_of_ble_eq_true rfl) ?_
  intro p e s m args below meth c A ls Q C hQ hA hI hP hD hS hl
  obtain ⟨hx, hb, hr, hml, hown, hts, hK, hlk, hnm⟩ := id C
  have hb : c.code = cX12_stand := hb
  have hml : c.maxLocals = 1 := hml
  have hown : s.vm.findClass RX12 = some m.cls := hown
  have hl : lv_has ls 1 [(0, .ref h_this)] := hl
  unfold wpX12_stand at hF
  refine lv_aload_n hx hb dX12_stand_0 rfl (lv_at hl 0 rfl) ?_
  refine cV_r (As := []) C mfX12_isVillage t5_62 ts_24 t5_60 (ccX12_isVillage l D cy h_this h_now x_lane x_many x_items x_spare x_tape x_draft x_tried (.ref h_past) x_images x_kept x_trace x_comes x_standing x_brought x_habit v_status v_taped v_faultKind v_faultPlace v_at v_start v_token v_value v_acts v_traced v_livedMany v_now _ hF) rfl rfl (hP.sub [0, 1] rfl) PR.np hP 0 11 rfl rfl rfl rfl hl.1 rfl (Nat.le_of_ble_eq_true rfl) dX12_stand_1 ⟨Nat.le_of_ble_eq_true rfl, Nat.le_of_ble_eq_true rfl⟩ ⟨Nat.le_of_ble_eq_true rfl, Nat.le_of_ble_eq_true rfl⟩ ?_
  intro r1 hF
  refine W.eq (g2 := F0 m 4 ls [.int (bz r1)]) rfl ?_
  refine lv_if_eq (tgt := 16) hx hb dX12_stand_4 (by decide) (fun c_ => ?_) (fun c_ => ?_)
  · have hF := hF.1 ((bz_0 _).mp c_)
    refine lv_ldc hx hb hown (hts _ t5_55) dX12_stand_16 ?_
    exact rt_i C hQ rfl hP hD hS ⟨v_acts, v_now, v_past, rfl, hF⟩ dX12_stand_18
  · have hF := hF.2 ((bz_1 _).mp c_)
    refine lv_aload_n hx hb dX12_stand_7 rfl (lv_at hl 0 rfl) ?_
    refine va_get (D := D) (ci := 11) (v := .ref h_now) (C := RX12) (T := TX12) (N := 27) hx hb hts inTX12 hown hK.1 hP 0 rfl rfl 13 (by decide) (hts _ t4_137) (fun _ h9 => h9) rfl dX12_stand_8 ?_
    refine lv_iconst (v := 4) hx hb dX12_stand_11 (by decide) ?_
    refine s_iald (j := 4) hx hb hK.1 hP 1 0 rfl rfl (vi (by decide)) (by decide) dX12_stand_12 ?_
    refine lv_if_ne (tgt := 19) hx hb dX12_stand_13 (by decide) (fun c_ => ?_) (fun c_ => ?_)
    · have hF := hF.1 c_
      refine lv_aload_n hx hb dX12_stand_19 rfl (lv_at hl 0 rfl) ?_
      refine va_get (D := D) (ci := 11) (v := .ref h_now) (C := RX12) (T := TX12) (N := 27) hx hb hts inTX12 hown hK.1 hP 0 rfl rfl 13 (by decide) (hts _ t4_137) (fun _ h9 => h9) rfl dX12_stand_20 ?_
      refine lv_iconst (v := 5) hx hb dX12_stand_23 (by decide) ?_
      refine s_iald (j := 5) hx hb hK.1 hP 1 0 rfl rfl (vi (by decide)) (by decide) dX12_stand_24 ?_
      refine lv_bipush (v := 99) hx hb dX12_stand_25 (by decide) ?_
      refine lv_icmp_ne (tgt := 33) hx hb dX12_stand_27 (by decide) (fun c_ => ?_) (fun c_ => ?_)
      · have hF := hF.1 c_
        refine lv_aload_n hx hb dX12_stand_33 rfl (lv_at hl 0 rfl) ?_
        refine cV_t (As := []) (wr := []) C hA hP hD hS mfX12_notes t5_67 ts_25 t5_65 (ccX12_notes l D cy h_this h_past h_now x_lane x_many x_items x_spare x_tape x_draft x_tried x_images x_kept x_trace x_comes x_standing x_brought x_habit v_status v_taped v_faultKind v_faultPlace v_at v_start v_token v_value v_acts v_traced v_livedMany v_past v_now _ hF) [0, 2, 1] [] rfl rfl (by decide) (by decide) (by decide) PO.np 0 11 rfl rfl rfl rfl hl.1 rfl (Nat.le_of_ble_eq_true rfl) dX12_stand_34 ⟨Nat.le_of_ble_eq_true rfl, Nat.le_of_ble_eq_true rfl⟩ ⟨Nat.le_of_ble_eq_true rfl, Nat.le_of_ble_eq_true rfl⟩ ?_
        rintro ⟨⟩ w1 H locs ⟨u3_acts, u4_past, rfl, hF⟩ hP hD hS
        have hP : va_P D CL [(h_this, .inr (11, [x_lane, x_many, x_items, x_spare, .int v_status, x_tape, .int v_taped, .int v_faultKind, .int v_faultPlace, .int v_at, .int v_start, .int v_token, .int v_value, .ref h_now, x_draft, x_tried, .ref h_past, .int u3_acts, x_images, x_kept, x_trace, .int v_traced, x_comes, x_standing, x_brought, x_habit, .int v_livedMany])), (h_past, .inl (cy 0, 264, .inl u4_past)), (h_now, .inl (cy 0, 124, .inl v_now))] H := hP
        have hD : va_D A [(h_this, .inr (11, [x_lane, x_many, x_items, x_spare, .int v_status, x_tape, .int v_taped, .int v_faultKind, .int v_faultPlace, .int v_at, .int v_start, .int v_token, .int v_value, .ref h_now, x_draft, x_tried, .ref h_past, .int u3_acts, x_images, x_kept, x_trace, .int v_traced, x_comes, x_standing, x_brought, x_habit, .int v_livedMany])), (h_past, .inl (cy 0, 264, .inl u4_past)), (h_now, .inl (cy 0, 124, .inl v_now))] := hD
        refine W.eq (g2 := F0 m 37 ls []) rfl ?_
        refine lv_aload_n hx hb dX12_stand_37 rfl (lv_at hl 0 rfl) ?_
        refine va_get (D := D) (ci := 11) (v := .ref h_now) (C := RX12) (T := TX12) (N := 27) hx hb hts inTX12 hown hK.1 hP 0 rfl rfl 13 (by decide) (hts _ t4_137) (fun _ h9 => h9) rfl dX12_stand_38 ?_
        refine cS_t (As := [.ref h_now]) (wr := [(h_this, .inr (11, [x_lane, x_many, x_items, x_spare, .int v_status, x_tape, .int v_taped, .int v_faultKind, .int v_faultPlace, .int v_at, .int v_start, .int v_token, .int v_value, .ref h_now, x_draft, x_tried, .ref h_past, .int u3_acts, x_images, x_kept, x_trace, .int v_traced, x_comes, x_standing, x_brought, x_habit, .int v_livedMany])), (h_past, .inl (cy 0, 264, .inl u4_past))]) C hA hP hD hS mfX12_stands t5_103 t5_102 (ccX12_stands l D cy h_now v_now _ hF) [2] [0, 1] rfl rfl (by decide) (by decide) (by decide) PO.np rfl hl.1 rfl (Nat.le_of_ble_eq_true rfl) dX12_stand_41 ⟨Nat.le_of_ble_eq_true rfl, Nat.le_of_ble_eq_true rfl⟩ ⟨Nat.le_of_ble_eq_true rfl, Nat.le_of_ble_eq_true rfl⟩ ?_
        rintro ⟨⟩ w1 H locs ⟨u6_now, rfl, hF⟩ hP hD hS
        have hP : va_P D CL [(h_this, .inr (11, [x_lane, x_many, x_items, x_spare, .int v_status, x_tape, .int v_taped, .int v_faultKind, .int v_faultPlace, .int v_at, .int v_start, .int v_token, .int v_value, .ref h_now, x_draft, x_tried, .ref h_past, .int u3_acts, x_images, x_kept, x_trace, .int v_traced, x_comes, x_standing, x_brought, x_habit, .int v_livedMany])), (h_past, .inl (cy 0, 264, .inl u4_past)), (h_now, .inl (cy 0, 124, .inl u6_now))] H := hP
        have hD : va_D A [(h_this, .inr (11, [x_lane, x_many, x_items, x_spare, .int v_status, x_tape, .int v_taped, .int v_faultKind, .int v_faultPlace, .int v_at, .int v_start, .int v_token, .int v_value, .ref h_now, x_draft, x_tried, .ref h_past, .int u3_acts, x_images, x_kept, x_trace, .int v_traced, x_comes, x_standing, x_brought, x_habit, .int v_livedMany])), (h_past, .inl (cy 0, 264, .inl u4_past)), (h_now, .inl (cy 0, 124, .inl u6_now))] := hD
        refine W.eq (g2 := F0 m 44 ls []) rfl ?_
        refine lv_aload_n hx hb dX12_stand_44 rfl (lv_at hl 0 rfl) ?_
        refine va_get (D := D) (ci := 11) (v := .ref h_now) (C := RX12) (T := TX12) (N := 27) hx hb hts inTX12 hown hK.1 hP 0 rfl rfl 13 (by decide) (hts _ t4_137) (fun _ h9 => h9) rfl dX12_stand_45 ?_
        refine lv_iconst (v := 5) hx hb dX12_stand_48 (by decide) ?_
        refine lv_dup2_11 hx hb dX12_stand_49 rfl rfl ?_
        refine s_iald (j := 5) hx hb hK.1 hP 2 0 rfl rfl (vi (by decide)) (by decide) dX12_stand_50 ?_
        refine lv_iconst (v := 1) hx hb dX12_stand_51 (by decide) ?_
        refine lv_iadd hx hb dX12_stand_52 ?_
        refine s_iast (j := 5) hx hb hK.1 hP hD hS 2 0 rfl rfl (vi (by decide)) (by decide) dX12_stand_53 (fun H locs hP hD hS => ?_)
        have hP : va_P D CL [(h_this, .inr (11, [x_lane, x_many, x_items, x_spare, .int v_status, x_tape, .int v_taped, .int v_faultKind, .int v_faultPlace, .int v_at, .int v_start, .int v_token, .int v_value, .ref h_now, x_draft, x_tried, .ref h_past, .int u3_acts, x_images, x_kept, x_trace, .int v_traced, x_comes, x_standing, x_brought, x_habit, .int v_livedMany])), (h_past, .inl (cy 0, 264, .inl u4_past)), (h_now, .inl (cy 0, 124, .inl (upd u6_now 5 ((u6_now 5) + 1))))] H := hP
        have hD : va_D A [(h_this, .inr (11, [x_lane, x_many, x_items, x_spare, .int v_status, x_tape, .int v_taped, .int v_faultKind, .int v_faultPlace, .int v_at, .int v_start, .int v_token, .int v_value, .ref h_now, x_draft, x_tried, .ref h_past, .int u3_acts, x_images, x_kept, x_trace, .int v_traced, x_comes, x_standing, x_brought, x_habit, .int v_livedMany])), (h_past, .inl (cy 0, 264, .inl u4_past)), (h_now, .inl (cy 0, 124, .inl (upd u6_now 5 ((u6_now 5) + 1))))] := hD
        refine lv_aload_n hx hb dX12_stand_54 rfl (lv_at hl 0 rfl) ?_
        refine va_get (D := D) (ci := 11) (v := .ref h_now) (C := RX12) (T := TX12) (N := 27) hx hb hts inTX12 hown hK.1 hP 0 rfl rfl 13 (by decide) (hts _ t4_137) (fun _ h9 => h9) rfl dX12_stand_55 ?_
        refine lv_bipush (v := 24) hx hb dX12_stand_58 (by decide) ?_
        refine lv_aload_n hx hb dX12_stand_60 rfl (lv_at hl 0 rfl) ?_
        refine va_get (D := D) (ci := 11) (v := .ref h_now) (C := RX12) (T := TX12) (N := 27) hx hb hts inTX12 hown hK.1 hP 0 rfl rfl 13 (by decide) (hts _ t4_137) (fun _ h9 => h9) rfl dX12_stand_61 ?_
        refine lv_iconst (v := 5) hx hb dX12_stand_64 (by decide) ?_
        refine s_iald (j := 5) hx hb hK.1 hP 2 0 rfl rfl (vi (by decide)) (by decide) dX12_stand_65 ?_
        refine lv_iadd hx hb dX12_stand_66 ?_
        refine lv_iconst (v := 1) hx hb dX12_stand_67 (by decide) ?_
        refine lv_isub hx hb dX12_stand_68 ?_
        obtain ⟨hi7, hF⟩ := hF
        refine s_iald (j := (((24 + ((upd u6_now 5 ((u6_now 5) + 1)) 5)) - 1)).toNatClampNeg) hx hb hK.1 hP 2 0 rfl rfl hi7 rfl dX12_stand_69 ?_
        have hP : va_P D CL [(h_this, .inr (11, [x_lane, x_many, x_items, x_spare, .int v_status, x_tape, .int v_taped, .int v_faultKind, .int v_faultPlace, .int v_at, .int v_start, .int v_token, .int v_value, .ref h_now, x_draft, x_tried, .ref h_past, .int u3_acts, x_images, x_kept, x_trace, .int v_traced, x_comes, x_standing, x_brought, x_habit, .int v_livedMany])), (h_now, .inl (cy 0, 124, .inl (upd u6_now 5 ((u6_now 5) + 1)))), (h_past, .inl (cy 0, 264, .inl u4_past))] H := (hP.sub [0, 2, 1] rfl)
        have hD : va_D A [(h_this, .inr (11, [x_lane, x_many, x_items, x_spare, .int v_status, x_tape, .int v_taped, .int v_faultKind, .int v_faultPlace, .int v_at, .int v_start, .int v_token, .int v_value, .ref h_now, x_draft, x_tried, .ref h_past, .int u3_acts, x_images, x_kept, x_trace, .int v_traced, x_comes, x_standing, x_brought, x_habit, .int v_livedMany])), (h_now, .inl (cy 0, 124, .inl (upd u6_now 5 ((u6_now 5) + 1)))), (h_past, .inl (cy 0, 264, .inl u4_past))] := (hD.sub [0, 2, 1] (by decide) rfl)
        exact rt_i C hQ rfl hP hD hS ⟨u3_acts, (upd u6_now 5 ((u6_now 5) + 1)), u4_past, rfl, hF⟩ dX12_stand_70
      · have hF := hF.2 c_
        refine lv_ldc hx hb hown (hts _ t5_14) dX12_stand_30 ?_
        exact rt_i C hQ rfl hP hD hS ⟨v_acts, v_now, v_past, rfl, hF⟩ dX12_stand_32
    · have hF := hF.2 c_
      refine lv_ldc hx hb hown (hts _ t5_55) dX12_stand_16 ?_
      exact rt_i C hQ rfl hP hD hS ⟨v_acts, v_now, v_past, rfl, hF⟩ dX12_stand_18

def wpX12_ones (p0 : Int32) (post : Int32 → Prop) : Prop := post (((p0 &&& 1) + ((p0 >>> ((1 : Int32) &&& 31)) &&& 1)) + ((p0 >>> ((2 : Int32) &&& 31)) &&& 1))
abbrev miX12_ones : MI := (yX12_ones, cX12_ones, 1, (some .int))
theorem mfX12_ones : MF miX12_ones 1 := ⟨t5_114, t1_8, by decide +kernel⟩
abbrev rmX12_ones : Room := { frames := 0, cells := 0, slots := 0, locals := 0 }
set_option maxHeartbeats 4000000 in
set_option maxRecDepth 100000 in
theorem ccX12_ones (l : Launch) (D : va_G) (cy : Nat → ClassId) (p0 : Int32) (post : Int32 → Prop) (hF : wpX12_ones p0 post) : Cr l D cy miX12_ones rmX12_ones emI NP [.int p0] [] post := by
  refine Cr.of (by decide) (Nat.le_of_ble_eq_true rfl) ?_
  intro p e s m args below meth c ls Q C hQ hO hP hl
  obtain ⟨hx, hb, hr, hml, hown, hts, hK, hlk, hnm⟩ := id C
  have hb : c.code = cX12_ones := hb
  have hml : c.maxLocals = 1 := hml
  have hown : s.vm.findClass RX12 = some m.cls := hown
  have hl : lv_has ls 1 [(0, .int p0)] := hl
  unfold wpX12_ones at hF
  refine lv_iload_n hx hb dX12_ones_0 rfl (lv_at hl 0 rfl) ?_
  refine lv_iconst (v := 1) hx hb dX12_ones_1 (by decide) ?_
  refine lv_iand hx hb dX12_ones_2 ?_
  refine lv_iload_n hx hb dX12_ones_3 rfl (lv_at hl 0 rfl) ?_
  refine lv_iconst (v := 1) hx hb dX12_ones_4 (by decide) ?_
  refine lv_ishr hx hb dX12_ones_5 ?_
  refine lv_iconst (v := 1) hx hb dX12_ones_6 (by decide) ?_
  refine lv_iand hx hb dX12_ones_7 ?_
  refine lv_iadd hx hb dX12_ones_8 ?_
  refine lv_iload_n hx hb dX12_ones_9 rfl (lv_at hl 0 rfl) ?_
  refine lv_iconst (v := 2) hx hb dX12_ones_10 (by decide) ?_
  refine lv_ishr hx hb dX12_ones_11 ?_
  refine lv_iconst (v := 1) hx hb dX12_ones_12 (by decide) ?_
  refine lv_iand hx hb dX12_ones_13 ?_
  refine lv_iadd hx hb dX12_ones_14 ?_
  exact rr_i C hQ rfl hF dX12_ones_15

def wpX12_will (p0 : Int32) (p1 : Int32) (v_acts : Int32) (v_now : Nat → Int32) (v_past : Nat → Int32) (post : Int32 → Int32 → (Nat → Int32) → (Nat → Int32) → Prop) : Prop := wpX12_isPerson p0 v_now (fun r1 => (r1 = false → (post (-1000001) v_acts v_now v_past)) ∧ (r1 = true → (wpX12_isPerson p1 v_now (fun r2 => (r2 = false → (post (-1000001) v_acts v_now v_past)) ∧ (r2 = true → ((¬ p0 = p1 → (wpX12_has (v_now 2) p0 (fun r3 => (r3 = false → (post (-1000002) v_acts v_now v_past)) ∧ (r3 = true → (wpX12_has (v_now 2) p1 (fun r4 => (r4 = false → (wpX12_notes v_acts v_past v_now (fun _ u6_acts u7_past => wpX12_ones ((upd v_now 2 ((v_now 2) ^^^ (((1 : Int32) <<< (p0 &&& 31)) ||| ((1 : Int32) <<< (p1 &&& 31))))) 2) (fun r8 => post r8 u6_acts (upd v_now 2 ((v_now 2) ^^^ (((1 : Int32) <<< (p0 &&& 31)) ||| ((1 : Int32) <<< (p1 &&& 31))))) u7_past)))) ∧ (r4 = true → (post (-1000002) v_acts v_now v_past)))))))) ∧ (p0 = p1 → (post (-1000001) v_acts v_now v_past))))))))
abbrev miX12_will : MI := (yX12_will, cX12_will, 3, (some .int))
theorem mfX12_will : MF miX12_will 2 := ⟨t5_111, t1_8, by decide +kernel⟩
abbrev rmX12_will : Room := { frames := 2, cells := 0, slots := 0, locals := 43 }
set_option maxHeartbeats 4000000 in
set_option maxRecDepth 100000 in
theorem ccX12_will (l : Launch) (D : va_G) (cy : Nat → ClassId) (h_this : Nat) (h_now : Nat) (h_past : Nat) (x_lane : Value) (x_many : Value) (x_items : Value) (x_spare : Value) (x_tape : Value) (x_draft : Value) (x_tried : Value) (x_images : Value) (x_kept : Value) (x_trace : Value) (x_comes : Value) (x_standing : Value) (x_brought : Value) (x_habit : Value) (v_status : Int32) (v_taped : Int32) (v_faultKind : Int32) (v_faultPlace : Int32) (v_at : Int32) (v_start : Int32) (v_token : Int32) (v_value : Int32) (v_acts : Int32) (v_traced : Int32) (v_livedMany : Int32) (v_now : Nat → Int32) (v_past : Nat → Int32) (p0 : Int32) (p1 : Int32) (post : Int32 → Int32 → (Nat → Int32) → (Nat → Int32) → Prop) (hF : wpX12_will p0 p1 v_acts v_now v_past post) : Ct l D cy miX12_will rmX12_will emI NP [.ref h_this, .int p0, .int p1] [(h_this, .inr (11, [x_lane, x_many, x_items, x_spare, .int v_status, x_tape, .int v_taped, .int v_faultKind, .int v_faultPlace, .int v_at, .int v_start, .int v_token, .int v_value, .ref h_now, x_draft, x_tried, .ref h_past, .int v_acts, x_images, x_kept, x_trace, .int v_traced, x_comes, x_standing, x_brought, x_habit, .int v_livedMany])), (h_now, .inl (cy 0, 124, .inl v_now)), (h_past, .inl (cy 0, 264, .inl v_past))] (fun r w1 => ∃ (w_acts : Int32) (w_now : Nat → Int32) (w_past : Nat → Int32), w1 = [(h_this, .inr (11, [x_lane, x_many, x_items, x_spare, .int v_status, x_tape, .int v_taped, .int v_faultKind, .int v_faultPlace, .int v_at, .int v_start, .int v_token, .int v_value, .ref h_now, x_draft, x_tried, .ref h_past, .int w_acts, x_images, x_kept, x_trace, .int v_traced, x_comes, x_standing, x_brought, x_habit, .int v_livedMany])), (h_now, .inl (cy 0, 124, .inl w_now)), (h_past, .inl (cy 0, 264, .inl w_past))] ∧ post r w_acts w_now w_past) := by
  refine Ct.of (by decide) (Nat.le_of_ble_eq_true rfl) ?_
  intro p e s m args below meth c A ls Q C hQ hA hI hP hD hS hl
  obtain ⟨hx, hb, hr, hml, hown, hts, hK, hlk, hnm⟩ := id C
  have hb : c.code = cX12_will := hb
  have hml : c.maxLocals = 3 := hml
  have hown : s.vm.findClass RX12 = some m.cls := hown
  have hl : lv_has ls 3 [(0, .ref h_this), (1, .int p0), (2, .int p1)] := hl
  unfold wpX12_will at hF
  refine lv_aload_n hx hb dX12_will_0 rfl (lv_at hl 0 rfl) ?_
  refine lv_iload_n hx hb dX12_will_1 rfl (lv_at hl 1 rfl) ?_
  refine cV_r (As := [.int p0]) C mfX12_isPerson t5_90 ts_26 t5_88 (ccX12_isPerson l D cy h_this h_now x_lane x_many x_items x_spare x_tape x_draft x_tried (.ref h_past) x_images x_kept x_trace x_comes x_standing x_brought x_habit v_status v_taped v_faultKind v_faultPlace v_at v_start v_token v_value v_acts v_traced v_livedMany v_now p0 _ hF) rfl rfl (hP.sub [0, 1] rfl) PR.np hP 0 11 rfl rfl rfl rfl hl.1 rfl (Nat.le_of_ble_eq_true rfl) dX12_will_2 ⟨Nat.le_of_ble_eq_true rfl, Nat.le_of_ble_eq_true rfl⟩ ⟨Nat.le_of_ble_eq_true rfl, Nat.le_of_ble_eq_true rfl⟩ ?_
  intro r1 hF
  refine W.eq (g2 := F0 m 5 ls [.int (bz r1)]) rfl ?_
  refine lv_if_eq (tgt := 21) hx hb dX12_will_5 (by decide) (fun c_ => ?_) (fun c_ => ?_)
  · have hF := hF.1 ((bz_0 _).mp c_)
    refine lv_ldc hx hb hown (hts _ t4_217) dX12_will_21 ?_
    exact rt_i C hQ rfl hP hD hS ⟨v_acts, v_now, v_past, rfl, hF⟩ dX12_will_23
  · have hF := hF.2 ((bz_1 _).mp c_)
    refine lv_aload_n hx hb dX12_will_8 rfl (lv_at hl 0 rfl) ?_
    refine lv_iload_n hx hb dX12_will_9 rfl (lv_at hl 2 rfl) ?_
    refine cV_r (As := [.int p1]) C mfX12_isPerson t5_90 ts_26 t5_88 (ccX12_isPerson l D cy h_this h_now x_lane x_many x_items x_spare x_tape x_draft x_tried (.ref h_past) x_images x_kept x_trace x_comes x_standing x_brought x_habit v_status v_taped v_faultKind v_faultPlace v_at v_start v_token v_value v_acts v_traced v_livedMany v_now p1 _ hF) rfl rfl (hP.sub [0, 1] rfl) PR.np hP 0 11 rfl rfl rfl rfl hl.1 rfl (Nat.le_of_ble_eq_true rfl) dX12_will_10 ⟨Nat.le_of_ble_eq_true rfl, Nat.le_of_ble_eq_true rfl⟩ ⟨Nat.le_of_ble_eq_true rfl, Nat.le_of_ble_eq_true rfl⟩ ?_
    intro r2 hF
    refine W.eq (g2 := F0 m 13 ls [.int (bz r2)]) rfl ?_
    refine lv_if_eq (tgt := 21) hx hb dX12_will_13 (by decide) (fun c_ => ?_) (fun c_ => ?_)
    · have hF := hF.1 ((bz_0 _).mp c_)
      refine lv_ldc hx hb hown (hts _ t4_217) dX12_will_21 ?_
      exact rt_i C hQ rfl hP hD hS ⟨v_acts, v_now, v_past, rfl, hF⟩ dX12_will_23
    · have hF := hF.2 ((bz_1 _).mp c_)
      refine lv_iload_n hx hb dX12_will_16 rfl (lv_at hl 1 rfl) ?_
      refine lv_iload_n hx hb dX12_will_17 rfl (lv_at hl 2 rfl) ?_
      refine lv_icmp_ne (tgt := 24) hx hb dX12_will_18 (by decide) (fun c_ => ?_) (fun c_ => ?_)
      · have hF := hF.1 c_
        refine lv_aload_n hx hb dX12_will_24 rfl (lv_at hl 0 rfl) ?_
        refine va_get (D := D) (ci := 11) (v := .ref h_now) (C := RX12) (T := TX12) (N := 27) hx hb hts inTX12 hown hK.1 hP 0 rfl rfl 13 (by decide) (hts _ t4_137) (fun _ h9 => h9) rfl dX12_will_25 ?_
        refine lv_iconst (v := 2) hx hb dX12_will_28 (by decide) ?_
        refine s_iald (j := 2) hx hb hK.1 hP 1 0 rfl rfl (vi (by decide)) (by decide) dX12_will_29 ?_
        refine lv_iload_n hx hb dX12_will_30 rfl (lv_at hl 1 rfl) ?_
        refine cS_r (As := [.int (v_now 2), .int p0]) C mfX12_has t5_93 t5_92 (ccX12_has l D cy (v_now 2) p0 _ hF) rfl rfl (hP.sub [] rfl) PR.np rfl hl.1 rfl (Nat.le_of_ble_eq_true rfl) dX12_will_31 ⟨Nat.le_of_ble_eq_true rfl, Nat.le_of_ble_eq_true rfl⟩ ⟨Nat.le_of_ble_eq_true rfl, Nat.le_of_ble_eq_true rfl⟩ ?_
        intro r3 hF
        refine W.eq (g2 := F0 m 34 ls [.int (bz r3)]) rfl ?_
        refine lv_if_eq (tgt := 50) hx hb dX12_will_34 (by decide) (fun c_ => ?_) (fun c_ => ?_)
        · have hF := hF.1 ((bz_0 _).mp c_)
          refine lv_ldc hx hb hown (hts _ t5_55) dX12_will_50 ?_
          exact rt_i C hQ rfl hP hD hS ⟨v_acts, v_now, v_past, rfl, hF⟩ dX12_will_52
        · have hF := hF.2 ((bz_1 _).mp c_)
          refine lv_aload_n hx hb dX12_will_37 rfl (lv_at hl 0 rfl) ?_
          refine va_get (D := D) (ci := 11) (v := .ref h_now) (C := RX12) (T := TX12) (N := 27) hx hb hts inTX12 hown hK.1 hP 0 rfl rfl 13 (by decide) (hts _ t4_137) (fun _ h9 => h9) rfl dX12_will_38 ?_
          refine lv_iconst (v := 2) hx hb dX12_will_41 (by decide) ?_
          refine s_iald (j := 2) hx hb hK.1 hP 1 0 rfl rfl (vi (by decide)) (by decide) dX12_will_42 ?_
          refine lv_iload_n hx hb dX12_will_43 rfl (lv_at hl 2 rfl) ?_
          refine cS_r (As := [.int (v_now 2), .int p1]) C mfX12_has t5_93 t5_92 (ccX12_has l D cy (v_now 2) p1 _ hF) rfl rfl (hP.sub [] rfl) PR.np rfl hl.1 rfl (Nat.le_of_ble_eq_true rfl) dX12_will_44 ⟨Nat.le_of_ble_eq_true rfl, Nat.le_of_ble_eq_true rfl⟩ ⟨Nat.le_of_ble_eq_true rfl, Nat.le_of_ble_eq_true rfl⟩ ?_
          intro r4 hF
          refine W.eq (g2 := F0 m 47 ls [.int (bz r4)]) rfl ?_
          refine lv_if_eq (tgt := 53) hx hb dX12_will_47 (by decide) (fun c_ => ?_) (fun c_ => ?_)
          · have hF := hF.1 ((bz_0 _).mp c_)
            refine lv_aload_n hx hb dX12_will_53 rfl (lv_at hl 0 rfl) ?_
            refine cV_t (As := []) (wr := []) C hA hP hD hS mfX12_notes t5_67 ts_25 t5_65 (ccX12_notes l D cy h_this h_past h_now x_lane x_many x_items x_spare x_tape x_draft x_tried x_images x_kept x_trace x_comes x_standing x_brought x_habit v_status v_taped v_faultKind v_faultPlace v_at v_start v_token v_value v_acts v_traced v_livedMany v_past v_now _ hF) [0, 2, 1] [] rfl rfl (by decide) (by decide) (by decide) PO.np 0 11 rfl rfl rfl rfl hl.1 rfl (Nat.le_of_ble_eq_true rfl) dX12_will_54 ⟨Nat.le_of_ble_eq_true rfl, Nat.le_of_ble_eq_true rfl⟩ ⟨Nat.le_of_ble_eq_true rfl, Nat.le_of_ble_eq_true rfl⟩ ?_
            rintro ⟨⟩ w1 H locs ⟨u6_acts, u7_past, rfl, hF⟩ hP hD hS
            have hP : va_P D CL [(h_this, .inr (11, [x_lane, x_many, x_items, x_spare, .int v_status, x_tape, .int v_taped, .int v_faultKind, .int v_faultPlace, .int v_at, .int v_start, .int v_token, .int v_value, .ref h_now, x_draft, x_tried, .ref h_past, .int u6_acts, x_images, x_kept, x_trace, .int v_traced, x_comes, x_standing, x_brought, x_habit, .int v_livedMany])), (h_past, .inl (cy 0, 264, .inl u7_past)), (h_now, .inl (cy 0, 124, .inl v_now))] H := hP
            have hD : va_D A [(h_this, .inr (11, [x_lane, x_many, x_items, x_spare, .int v_status, x_tape, .int v_taped, .int v_faultKind, .int v_faultPlace, .int v_at, .int v_start, .int v_token, .int v_value, .ref h_now, x_draft, x_tried, .ref h_past, .int u6_acts, x_images, x_kept, x_trace, .int v_traced, x_comes, x_standing, x_brought, x_habit, .int v_livedMany])), (h_past, .inl (cy 0, 264, .inl u7_past)), (h_now, .inl (cy 0, 124, .inl v_now))] := hD
            refine W.eq (g2 := F0 m 57 ls []) rfl ?_
            refine lv_aload_n hx hb dX12_will_57 rfl (lv_at hl 0 rfl) ?_
            refine va_get (D := D) (ci := 11) (v := .ref h_now) (C := RX12) (T := TX12) (N := 27) hx hb hts inTX12 hown hK.1 hP 0 rfl rfl 13 (by decide) (hts _ t4_137) (fun _ h9 => h9) rfl dX12_will_58 ?_
            refine lv_iconst (v := 2) hx hb dX12_will_61 (by decide) ?_
            refine lv_dup2_11 hx hb dX12_will_62 rfl rfl ?_
            refine s_iald (j := 2) hx hb hK.1 hP 2 0 rfl rfl (vi (by decide)) (by decide) dX12_will_63 ?_
            refine lv_iconst (v := 1) hx hb dX12_will_64 (by decide) ?_
            refine lv_iload_n hx hb dX12_will_65 rfl (lv_at hl 1 rfl) ?_
            refine lv_ishl hx hb dX12_will_66 ?_
            refine lv_iconst (v := 1) hx hb dX12_will_67 (by decide) ?_
            refine lv_iload_n hx hb dX12_will_68 rfl (lv_at hl 2 rfl) ?_
            refine lv_ishl hx hb dX12_will_69 ?_
            refine lv_ior hx hb dX12_will_70 ?_
            refine lv_ixor hx hb dX12_will_71 ?_
            refine s_iast (j := 2) hx hb hK.1 hP hD hS 2 0 rfl rfl (vi (by decide)) (by decide) dX12_will_72 (fun H locs hP hD hS => ?_)
            have hP : va_P D CL [(h_this, .inr (11, [x_lane, x_many, x_items, x_spare, .int v_status, x_tape, .int v_taped, .int v_faultKind, .int v_faultPlace, .int v_at, .int v_start, .int v_token, .int v_value, .ref h_now, x_draft, x_tried, .ref h_past, .int u6_acts, x_images, x_kept, x_trace, .int v_traced, x_comes, x_standing, x_brought, x_habit, .int v_livedMany])), (h_past, .inl (cy 0, 264, .inl u7_past)), (h_now, .inl (cy 0, 124, .inl (upd v_now 2 ((v_now 2) ^^^ (((1 : Int32) <<< (p0 &&& 31)) ||| ((1 : Int32) <<< (p1 &&& 31)))))))] H := hP
            have hD : va_D A [(h_this, .inr (11, [x_lane, x_many, x_items, x_spare, .int v_status, x_tape, .int v_taped, .int v_faultKind, .int v_faultPlace, .int v_at, .int v_start, .int v_token, .int v_value, .ref h_now, x_draft, x_tried, .ref h_past, .int u6_acts, x_images, x_kept, x_trace, .int v_traced, x_comes, x_standing, x_brought, x_habit, .int v_livedMany])), (h_past, .inl (cy 0, 264, .inl u7_past)), (h_now, .inl (cy 0, 124, .inl (upd v_now 2 ((v_now 2) ^^^ (((1 : Int32) <<< (p0 &&& 31)) ||| ((1 : Int32) <<< (p1 &&& 31)))))))] := hD
            refine lv_aload_n hx hb dX12_will_73 rfl (lv_at hl 0 rfl) ?_
            refine va_get (D := D) (ci := 11) (v := .ref h_now) (C := RX12) (T := TX12) (N := 27) hx hb hts inTX12 hown hK.1 hP 0 rfl rfl 13 (by decide) (hts _ t4_137) (fun _ h9 => h9) rfl dX12_will_74 ?_
            refine lv_iconst (v := 2) hx hb dX12_will_77 (by decide) ?_
            refine s_iald (j := 2) hx hb hK.1 hP 2 0 rfl rfl (vi (by decide)) (by decide) dX12_will_78 ?_
            refine cS_r (As := [.int ((upd v_now 2 ((v_now 2) ^^^ (((1 : Int32) <<< (p0 &&& 31)) ||| ((1 : Int32) <<< (p1 &&& 31))))) 2)]) C mfX12_ones t5_113 t5_112 (ccX12_ones l D cy ((upd v_now 2 ((v_now 2) ^^^ (((1 : Int32) <<< (p0 &&& 31)) ||| ((1 : Int32) <<< (p1 &&& 31))))) 2) _ hF) rfl rfl (hP.sub [] rfl) PR.np rfl hl.1 rfl (Nat.le_of_ble_eq_true rfl) dX12_will_79 ⟨Nat.le_of_ble_eq_true rfl, Nat.le_of_ble_eq_true rfl⟩ ⟨Nat.le_of_ble_eq_true rfl, Nat.le_of_ble_eq_true rfl⟩ ?_
            intro r8 hF
            refine W.eq (g2 := F0 m 82 ls [.int r8]) rfl ?_
            have hP : va_P D CL [(h_this, .inr (11, [x_lane, x_many, x_items, x_spare, .int v_status, x_tape, .int v_taped, .int v_faultKind, .int v_faultPlace, .int v_at, .int v_start, .int v_token, .int v_value, .ref h_now, x_draft, x_tried, .ref h_past, .int u6_acts, x_images, x_kept, x_trace, .int v_traced, x_comes, x_standing, x_brought, x_habit, .int v_livedMany])), (h_now, .inl (cy 0, 124, .inl (upd v_now 2 ((v_now 2) ^^^ (((1 : Int32) <<< (p0 &&& 31)) ||| ((1 : Int32) <<< (p1 &&& 31))))))), (h_past, .inl (cy 0, 264, .inl u7_past))] H := (hP.sub [0, 2, 1] rfl)
            have hD : va_D A [(h_this, .inr (11, [x_lane, x_many, x_items, x_spare, .int v_status, x_tape, .int v_taped, .int v_faultKind, .int v_faultPlace, .int v_at, .int v_start, .int v_token, .int v_value, .ref h_now, x_draft, x_tried, .ref h_past, .int u6_acts, x_images, x_kept, x_trace, .int v_traced, x_comes, x_standing, x_brought, x_habit, .int v_livedMany])), (h_now, .inl (cy 0, 124, .inl (upd v_now 2 ((v_now 2) ^^^ (((1 : Int32) <<< (p0 &&& 31)) ||| ((1 : Int32) <<< (p1 &&& 31))))))), (h_past, .inl (cy 0, 264, .inl u7_past))] := (hD.sub [0, 2, 1] (by decide) rfl)
            exact rt_i C hQ rfl hP hD hS ⟨u6_acts, (upd v_now 2 ((v_now 2) ^^^ (((1 : Int32) <<< (p0 &&& 31)) ||| ((1 : Int32) <<< (p1 &&& 31))))), u7_past, rfl, hF⟩ dX12_will_82
          · have hF := hF.2 ((bz_1 _).mp c_)
            refine lv_ldc hx hb hown (hts _ t5_55) dX12_will_50 ?_
            exact rt_i C hQ rfl hP hD hS ⟨v_acts, v_now, v_past, rfl, hF⟩ dX12_will_52
      · have hF := hF.2 c_
        refine lv_ldc hx hb hown (hts _ t4_217) dX12_will_21 ?_
        exact rt_i C hQ rfl hP hD hS ⟨v_acts, v_now, v_past, rfl, hF⟩ dX12_will_23

def wpX12_person (p0 : Int32) (p1 : Int32) (v_now : Nat → Int32) (post : Int32 → Prop) : Prop := wpX12_isPerson p0 v_now (fun r1 => (r1 = false → (post (-1000001))) ∧ (r1 = true → (wpX12_in p1 0 7 (fun r2 => (r2 = true → ((¬ p1 = 6 → ((3 ≤ p1 → ((¬ p1 = 3 → ((¬ p1 = 4 → ((¬ p1 = 5 → (vp_in ((6 + (6 * p0)) + 5) 124 ∧ (wpX12_odds p0 (v_now ((((6 + (6 * p0)) + 5)).toNatClampNeg)) v_now (fun r4 => post r4)))) ∧ (p1 = 5 → (vp_in ((6 + (6 * p0)) + 5) 124 ∧ (post (v_now ((((6 + (6 * p0)) + 5)).toNatClampNeg))))))) ∧ (p1 = 4 → (post (((v_now 2) >>> (p0 &&& 31)) &&& 1))))) ∧ (p1 = 3 → (vp_in ((6 + (6 * p0)) + 4) 124 ∧ (post (v_now ((((6 + (6 * p0)) + 4)).toNatClampNeg))))))) ∧ (¬ 3 ≤ p1 → (vp_in (((6 + (6 * p0)) + 1) + p1) 124 ∧ (post (v_now (((((6 + (6 * p0)) + 1) + p1)).toNatClampNeg))))))) ∧ (p1 = 6 → ((¬ (v_now 4) = 0 → (post (((v_now 3) >>> (p0 &&& 31)) &&& 1))) ∧ ((v_now 4) = 0 → (post (-1000000))))))) ∧ (r2 = false → (post (-1000001)))))))
abbrev miX12_person : MI := (yX12_person, cX12_person, 4, (some .int))
theorem mfX12_person : MF miX12_person 2 := ⟨t5_118, t1_8, by decide +kernel⟩
abbrev rmX12_person : Room := { frames := 2, cells := 0, slots := 0, locals := 45 }
set_option maxHeartbeats 4000000 in
set_option maxRecDepth 100000 in
theorem ccX12_person (l : Launch) (D : va_G) (cy : Nat → ClassId) (h_this : Nat) (h_now : Nat) (x_lane : Value) (x_many : Value) (x_items : Value) (x_spare : Value) (x_tape : Value) (x_draft : Value) (x_tried : Value) (x_past : Value) (x_images : Value) (x_kept : Value) (x_trace : Value) (x_comes : Value) (x_standing : Value) (x_brought : Value) (x_habit : Value) (v_status : Int32) (v_taped : Int32) (v_faultKind : Int32) (v_faultPlace : Int32) (v_at : Int32) (v_start : Int32) (v_token : Int32) (v_value : Int32) (v_acts : Int32) (v_traced : Int32) (v_livedMany : Int32) (v_now : Nat → Int32) (p0 : Int32) (p1 : Int32) (post : Int32 → Prop) (hF : wpX12_person p0 p1 v_now post) : Cr l D cy miX12_person rmX12_person emI NP [.ref h_this, .int p0, .int p1] [(h_this, .inr (11, [x_lane, x_many, x_items, x_spare, .int v_status, x_tape, .int v_taped, .int v_faultKind, .int v_faultPlace, .int v_at, .int v_start, .int v_token, .int v_value, .ref h_now, x_draft, x_tried, x_past, .int v_acts, x_images, x_kept, x_trace, .int v_traced, x_comes, x_standing, x_brought, x_habit, .int v_livedMany])), (h_now, .inl (cy 0, 124, .inl v_now))] post := by
  refine Cr.of (by decide) (Nat.le_of_ble_eq_true rfl) ?_
  intro p e s m args below meth c ls Q C hQ hO hP hl
  obtain ⟨hx, hb, hr, hml, hown, hts, hK, hlk, hnm⟩ := id C
  have hb : c.code = cX12_person := hb
  have hml : c.maxLocals = 4 := hml
  have hown : s.vm.findClass RX12 = some m.cls := hown
  have hl : lv_has ls 4 [(0, .ref h_this), (1, .int p0), (2, .int p1)] := hl
  unfold wpX12_person at hF
  refine lv_aload_n hx hb dX12_person_0 rfl (lv_at hl 0 rfl) ?_
  refine lv_iload_n hx hb dX12_person_1 rfl (lv_at hl 1 rfl) ?_
  refine cV_r (As := [.int p0]) C mfX12_isPerson t5_90 ts_26 t5_88 (ccX12_isPerson l D cy h_this h_now x_lane x_many x_items x_spare x_tape x_draft x_tried x_past x_images x_kept x_trace x_comes x_standing x_brought x_habit v_status v_taped v_faultKind v_faultPlace v_at v_start v_token v_value v_acts v_traced v_livedMany v_now p0 _ hF) rfl rfl (hP.sub [0, 1] rfl) PR.np hP 0 11 rfl rfl rfl rfl hl.1 rfl (Nat.le_of_ble_eq_true rfl) dX12_person_2 ⟨Nat.le_of_ble_eq_true rfl, Nat.le_of_ble_eq_true rfl⟩ ⟨Nat.le_of_ble_eq_true rfl, Nat.le_of_ble_eq_true rfl⟩ ?_
  intro r1 hF
  refine W.eq (g2 := F0 m 5 ls [.int (bz r1)]) rfl ?_
  refine lv_if_eq (tgt := 18) hx hb dX12_person_5 (by decide) (fun c_ => ?_) (fun c_ => ?_)
  · have hF := hF.1 ((bz_0 _).mp c_)
    refine lv_ldc hx hb hown (hts _ t4_217) dX12_person_18 ?_
    exact rr_i C hQ rfl hF dX12_person_20
  · have hF := hF.2 ((bz_1 _).mp c_)
    refine lv_iload_n hx hb dX12_person_8 rfl (lv_at hl 2 rfl) ?_
    refine lv_iconst (v := 0) hx hb dX12_person_9 (by decide) ?_
    refine lv_bipush (v := 7) hx hb dX12_person_10 (by decide) ?_
    refine cS_r (As := [.int p1, .int 0, .int 7]) C mfX12_in t4_215 t4_214 (ccX12_in l D cy p1 0 7 _ hF) rfl rfl (hP.sub [] rfl) PR.np rfl hl.1 rfl (Nat.le_of_ble_eq_true rfl) dX12_person_12 ⟨Nat.le_of_ble_eq_true rfl, Nat.le_of_ble_eq_true rfl⟩ ⟨Nat.le_of_ble_eq_true rfl, Nat.le_of_ble_eq_true rfl⟩ ?_
    intro r2 hF
    refine W.eq (g2 := F0 m 15 ls [.int (bz r2)]) rfl ?_
    refine lv_if_ne (tgt := 21) hx hb dX12_person_15 (by decide) (fun c_ => ?_) (fun c_ => ?_)
    · have hF := hF.1 ((bz_1 _).mp c_)
      refine lv_bipush (v := 6) hx hb dX12_person_21 (by decide) ?_
      refine lv_bipush (v := 6) hx hb dX12_person_23 (by decide) ?_
      refine lv_iload_n hx hb dX12_person_25 rfl (lv_at hl 1 rfl) ?_
      refine lv_imul hx hb dX12_person_26 ?_
      refine lv_iadd hx hb dX12_person_27 ?_
      refine lv_istore_n (lv' := [(3, .int (6 + (6 * p0))), (0, .ref h_this), (1, .int p0), (2, .int p1)]) hx hb dX12_person_28 rfl hl (by decide) rfl (fun ls hl => ?_)
      refine lv_iload_n hx hb dX12_person_29 rfl (lv_at hl 3 rfl) ?_
      refine lv_bipush (v := 6) hx hb dX12_person_30 (by decide) ?_
      refine lv_icmp_ne (tgt := 60) hx hb dX12_person_32 (by decide) (fun c_ => ?_) (fun c_ => ?_)
      · have hF := hF.1 c_
        refine lv_iload_n hx hb dX12_person_60 rfl (lv_at hl 3 rfl) ?_
        refine lv_iconst (v := 3) hx hb dX12_person_61 (by decide) ?_
        refine lv_icmp_ge (tgt := 78) hx hb dX12_person_62 (by decide) (fun c_ => ?_) (fun c_ => ?_)
        · have hF := hF.1 c_
          refine lv_iload_n hx hb dX12_person_78 rfl (lv_at hl 3 rfl) ?_
          refine lv_iconst (v := 3) hx hb dX12_person_79 (by decide) ?_
          refine lv_icmp_ne (tgt := 94) hx hb dX12_person_80 (by decide) (fun c_ => ?_) (fun c_ => ?_)
          · have hF := hF.1 c_
            refine lv_iload_n hx hb dX12_person_94 rfl (lv_at hl 3 rfl) ?_
            refine lv_iconst (v := 4) hx hb dX12_person_95 (by decide) ?_
            refine lv_icmp_ne (tgt := 112) hx hb dX12_person_96 (by decide) (fun c_ => ?_) (fun c_ => ?_)
            · have hF := hF.1 c_
              refine lv_iload_n hx hb dX12_person_112 rfl (lv_at hl 3 rfl) ?_
              refine lv_iconst (v := 5) hx hb dX12_person_113 (by decide) ?_
              refine lv_icmp_ne (tgt := 128) hx hb dX12_person_114 (by decide) (fun c_ => ?_) (fun c_ => ?_)
              · have hF := hF.1 c_
                refine lv_aload_n hx hb dX12_person_128 rfl (lv_at hl 1 rfl) ?_
                refine va_get (D := D) (ci := 11) (v := .ref h_now) (C := RX12) (T := TX12) (N := 27) hx hb hts inTX12 hown hK.1 hP 0 rfl rfl 13 (by decide) (hts _ t4_137) (fun _ h9 => h9) rfl dX12_person_129 ?_
                refine lv_iload_n hx hb dX12_person_132 rfl (lv_at hl 2 rfl) ?_
                refine lv_aload_n hx hb dX12_person_133 rfl (lv_at hl 1 rfl) ?_
                refine va_get (D := D) (ci := 11) (v := .ref h_now) (C := RX12) (T := TX12) (N := 27) hx hb hts inTX12 hown hK.1 hP 0 rfl rfl 13 (by decide) (hts _ t4_137) (fun _ h9 => h9) rfl dX12_person_134 ?_
                refine lv_iload_n hx hb dX12_person_137 rfl (lv_at hl 0 rfl) ?_
                refine lv_iconst (v := 5) hx hb dX12_person_138 (by decide) ?_
                refine lv_iadd hx hb dX12_person_139 ?_
                obtain ⟨hi3, hF⟩ := hF
                refine s_iald (j := (((6 + (6 * p0)) + 5)).toNatClampNeg) hx hb hK.1 hP 1 0 rfl rfl hi3 rfl dX12_person_140 ?_
                refine cS_r (As := [.ref h_now, .int p0, .int (v_now ((((6 + (6 * p0)) + 5)).toNatClampNeg))]) C mfX12_odds t5_79 t5_78 (ccX12_odds l D cy h_now v_now p0 (v_now ((((6 + (6 * p0)) + 5)).toNatClampNeg)) _ hF) rfl rfl (hP.sub [1] rfl) PR.np rfl hl.1 rfl (Nat.le_of_ble_eq_true rfl) dX12_person_141 ⟨Nat.le_of_ble_eq_true rfl, Nat.le_of_ble_eq_true rfl⟩ ⟨Nat.le_of_ble_eq_true rfl, Nat.le_of_ble_eq_true rfl⟩ ?_
                intro r4 hF
                refine W.eq (g2 := F0 m 144 ls [.int r4]) rfl ?_
                exact rr_i C hQ rfl hF dX12_person_144
              · have hF := hF.2 c_
                refine lv_aload_n hx hb dX12_person_117 rfl (lv_at hl 1 rfl) ?_
                refine va_get (D := D) (ci := 11) (v := .ref h_now) (C := RX12) (T := TX12) (N := 27) hx hb hts inTX12 hown hK.1 hP 0 rfl rfl 13 (by decide) (hts _ t4_137) (fun _ h9 => h9) rfl dX12_person_118 ?_
                refine lv_iload_n hx hb dX12_person_121 rfl (lv_at hl 0 rfl) ?_
                refine lv_iconst (v := 5) hx hb dX12_person_122 (by decide) ?_
                refine lv_iadd hx hb dX12_person_123 ?_
                obtain ⟨hi5, hF⟩ := hF
                refine s_iald (j := (((6 + (6 * p0)) + 5)).toNatClampNeg) hx hb hK.1 hP 1 0 rfl rfl hi5 rfl dX12_person_124 ?_
                refine lv_goto (tgt := 144) hx hb dX12_person_125 (by decide) ?_
                exact rr_i C hQ rfl hF dX12_person_144
            · have hF := hF.2 c_
              refine lv_aload_n hx hb dX12_person_99 rfl (lv_at hl 1 rfl) ?_
              refine va_get (D := D) (ci := 11) (v := .ref h_now) (C := RX12) (T := TX12) (N := 27) hx hb hts inTX12 hown hK.1 hP 0 rfl rfl 13 (by decide) (hts _ t4_137) (fun _ h9 => h9) rfl dX12_person_100 ?_
              refine lv_iconst (v := 2) hx hb dX12_person_103 (by decide) ?_
              refine s_iald (j := 2) hx hb hK.1 hP 1 0 rfl rfl (vi (by decide)) (by decide) dX12_person_104 ?_
              refine lv_iload_n hx hb dX12_person_105 rfl (lv_at hl 2 rfl) ?_
              refine lv_ishr hx hb dX12_person_106 ?_
              refine lv_iconst (v := 1) hx hb dX12_person_107 (by decide) ?_
              refine lv_iand hx hb dX12_person_108 ?_
              refine lv_goto (tgt := 144) hx hb dX12_person_109 (by decide) ?_
              exact rr_i C hQ rfl hF dX12_person_144
          · have hF := hF.2 c_
            refine lv_aload_n hx hb dX12_person_83 rfl (lv_at hl 1 rfl) ?_
            refine va_get (D := D) (ci := 11) (v := .ref h_now) (C := RX12) (T := TX12) (N := 27) hx hb hts inTX12 hown hK.1 hP 0 rfl rfl 13 (by decide) (hts _ t4_137) (fun _ h9 => h9) rfl dX12_person_84 ?_
            refine lv_iload_n hx hb dX12_person_87 rfl (lv_at hl 0 rfl) ?_
            refine lv_iconst (v := 4) hx hb dX12_person_88 (by decide) ?_
            refine lv_iadd hx hb dX12_person_89 ?_
            obtain ⟨hi6, hF⟩ := hF
            refine s_iald (j := (((6 + (6 * p0)) + 4)).toNatClampNeg) hx hb hK.1 hP 1 0 rfl rfl hi6 rfl dX12_person_90 ?_
            refine lv_goto (tgt := 144) hx hb dX12_person_91 (by decide) ?_
            exact rr_i C hQ rfl hF dX12_person_144
        · have hF := hF.2 c_
          refine lv_aload_n hx hb dX12_person_65 rfl (lv_at hl 1 rfl) ?_
          refine va_get (D := D) (ci := 11) (v := .ref h_now) (C := RX12) (T := TX12) (N := 27) hx hb hts inTX12 hown hK.1 hP 0 rfl rfl 13 (by decide) (hts _ t4_137) (fun _ h9 => h9) rfl dX12_person_66 ?_
          refine lv_iload_n hx hb dX12_person_69 rfl (lv_at hl 0 rfl) ?_
          refine lv_iconst (v := 1) hx hb dX12_person_70 (by decide) ?_
          refine lv_iadd hx hb dX12_person_71 ?_
          refine lv_iload_n hx hb dX12_person_72 rfl (lv_at hl 3 rfl) ?_
          refine lv_iadd hx hb dX12_person_73 ?_
          obtain ⟨hi7, hF⟩ := hF
          refine s_iald (j := ((((6 + (6 * p0)) + 1) + p1)).toNatClampNeg) hx hb hK.1 hP 1 0 rfl rfl hi7 rfl dX12_person_74 ?_
          refine lv_goto (tgt := 144) hx hb dX12_person_75 (by decide) ?_
          exact rr_i C hQ rfl hF dX12_person_144
      · have hF := hF.2 c_
        refine lv_aload_n hx hb dX12_person_35 rfl (lv_at hl 1 rfl) ?_
        refine va_get (D := D) (ci := 11) (v := .ref h_now) (C := RX12) (T := TX12) (N := 27) hx hb hts inTX12 hown hK.1 hP 0 rfl rfl 13 (by decide) (hts _ t4_137) (fun _ h9 => h9) rfl dX12_person_36 ?_
        refine lv_iconst (v := 4) hx hb dX12_person_39 (by decide) ?_
        refine s_iald (j := 4) hx hb hK.1 hP 1 0 rfl rfl (vi (by decide)) (by decide) dX12_person_40 ?_
        refine lv_if_ne (tgt := 49) hx hb dX12_person_41 (by decide) (fun c_ => ?_) (fun c_ => ?_)
        · have hF := hF.1 c_
          refine lv_aload_n hx hb dX12_person_49 rfl (lv_at hl 1 rfl) ?_
          refine va_get (D := D) (ci := 11) (v := .ref h_now) (C := RX12) (T := TX12) (N := 27) hx hb hts inTX12 hown hK.1 hP 0 rfl rfl 13 (by decide) (hts _ t4_137) (fun _ h9 => h9) rfl dX12_person_50 ?_
          refine lv_iconst (v := 3) hx hb dX12_person_53 (by decide) ?_
          refine s_iald (j := 3) hx hb hK.1 hP 1 0 rfl rfl (vi (by decide)) (by decide) dX12_person_54 ?_
          refine lv_iload_n hx hb dX12_person_55 rfl (lv_at hl 2 rfl) ?_
          refine lv_ishr hx hb dX12_person_56 ?_
          refine lv_iconst (v := 1) hx hb dX12_person_57 (by decide) ?_
          refine lv_iand hx hb dX12_person_58 ?_
          exact rr_i C hQ rfl hF dX12_person_59
        · have hF := hF.2 c_
          refine lv_ldc hx hb hown (hts _ t4_123) dX12_person_44 ?_
          refine lv_goto (tgt := 59) hx hb dX12_person_46 (by decide) ?_
          exact rr_i C hQ rfl hF dX12_person_59
    · have hF := hF.2 ((bz_0 _).mp c_)
      refine lv_ldc hx hb hown (hts _ t4_217) dX12_person_18 ?_
      exact rr_i C hQ rfl hF dX12_person_20

def wpX12_lives (p0 : Int32) (v_now : Nat → Int32) (post : Int32 → Prop) : Prop := wpX12_isVillage v_now (fun r1 => (r1 = true → (wpX12_in p0 0 99 (fun r2 => (r2 = true → ((p0 ≤ (v_now 5) → (vp_in (24 + p0) 124 ∧ (post (v_now (((24 + p0)).toNatClampNeg))))) ∧ (¬ p0 ≤ (v_now 5) → (post (-1000000))))) ∧ (r2 = false → (post (-1000001)))))) ∧ (r1 = false → (post (-1000002))))
abbrev miX12_lives : MI := (yX12_lives, cX12_lives, 2, (some .int))
theorem mfX12_lives : MF miX12_lives 1 := ⟨t5_122, t1_8, by decide +kernel⟩
abbrev rmX12_lives : Room := { frames := 1, cells := 0, slots := 0, locals := 22 }
set_option maxHeartbeats 4000000 in
set_option maxRecDepth 100000 in
theorem ccX12_lives (l : Launch) (D : va_G) (cy : Nat → ClassId) (h_this : Nat) (h_now : Nat) (x_lane : Value) (x_many : Value) (x_items : Value) (x_spare : Value) (x_tape : Value) (x_draft : Value) (x_tried : Value) (x_past : Value) (x_images : Value) (x_kept : Value) (x_trace : Value) (x_comes : Value) (x_standing : Value) (x_brought : Value) (x_habit : Value) (v_status : Int32) (v_taped : Int32) (v_faultKind : Int32) (v_faultPlace : Int32) (v_at : Int32) (v_start : Int32) (v_token : Int32) (v_value : Int32) (v_acts : Int32) (v_traced : Int32) (v_livedMany : Int32) (v_now : Nat → Int32) (p0 : Int32) (post : Int32 → Prop) (hF : wpX12_lives p0 v_now post) : Cr l D cy miX12_lives rmX12_lives emI NP [.ref h_this, .int p0] [(h_this, .inr (11, [x_lane, x_many, x_items, x_spare, .int v_status, x_tape, .int v_taped, .int v_faultKind, .int v_faultPlace, .int v_at, .int v_start, .int v_token, .int v_value, .ref h_now, x_draft, x_tried, x_past, .int v_acts, x_images, x_kept, x_trace, .int v_traced, x_comes, x_standing, x_brought, x_habit, .int v_livedMany])), (h_now, .inl (cy 0, 124, .inl v_now))] post := by
  refine Cr.of (by decide) (Nat.le_of_ble_eq_true rfl) ?_
  intro p e s m args below meth c ls Q C hQ hO hP hl
  obtain ⟨hx, hb, hr, hml, hown, hts, hK, hlk, hnm⟩ := id C
  have hb : c.code = cX12_lives := hb
  have hml : c.maxLocals = 2 := hml
  have hown : s.vm.findClass RX12 = some m.cls := hown
  have hl : lv_has ls 2 [(0, .ref h_this), (1, .int p0)] := hl
  unfold wpX12_lives at hF
  refine lv_aload_n hx hb dX12_lives_0 rfl (lv_at hl 0 rfl) ?_
  refine cV_r (As := []) C mfX12_isVillage t5_62 ts_24 t5_60 (ccX12_isVillage l D cy h_this h_now x_lane x_many x_items x_spare x_tape x_draft x_tried x_past x_images x_kept x_trace x_comes x_standing x_brought x_habit v_status v_taped v_faultKind v_faultPlace v_at v_start v_token v_value v_acts v_traced v_livedMany v_now _ hF) rfl rfl (hP.sub [0, 1] rfl) PR.np hP 0 11 rfl rfl rfl rfl hl.1 rfl (Nat.le_of_ble_eq_true rfl) dX12_lives_1 ⟨Nat.le_of_ble_eq_true rfl, Nat.le_of_ble_eq_true rfl⟩ ⟨Nat.le_of_ble_eq_true rfl, Nat.le_of_ble_eq_true rfl⟩ ?_
  intro r1 hF
  refine W.eq (g2 := F0 m 4 ls [.int (bz r1)]) rfl ?_
  refine lv_if_ne (tgt := 10) hx hb dX12_lives_4 (by decide) (fun c_ => ?_) (fun c_ => ?_)
  · have hF := hF.1 ((bz_1 _).mp c_)
    refine lv_iload_n hx hb dX12_lives_10 rfl (lv_at hl 1 rfl) ?_
    refine lv_iconst (v := 0) hx hb dX12_lives_11 (by decide) ?_
    refine lv_bipush (v := 99) hx hb dX12_lives_12 (by decide) ?_
    refine cS_r (As := [.int p0, .int 0, .int 99]) C mfX12_in t4_215 t4_214 (ccX12_in l D cy p0 0 99 _ hF) rfl rfl (hP.sub [] rfl) PR.np rfl hl.1 rfl (Nat.le_of_ble_eq_true rfl) dX12_lives_14 ⟨Nat.le_of_ble_eq_true rfl, Nat.le_of_ble_eq_true rfl⟩ ⟨Nat.le_of_ble_eq_true rfl, Nat.le_of_ble_eq_true rfl⟩ ?_
    intro r2 hF
    refine W.eq (g2 := F0 m 17 ls [.int (bz r2)]) rfl ?_
    refine lv_if_ne (tgt := 23) hx hb dX12_lives_17 (by decide) (fun c_ => ?_) (fun c_ => ?_)
    · have hF := hF.1 ((bz_1 _).mp c_)
      refine lv_iload_n hx hb dX12_lives_23 rfl (lv_at hl 1 rfl) ?_
      refine lv_aload_n hx hb dX12_lives_24 rfl (lv_at hl 0 rfl) ?_
      refine va_get (D := D) (ci := 11) (v := .ref h_now) (C := RX12) (T := TX12) (N := 27) hx hb hts inTX12 hown hK.1 hP 0 rfl rfl 13 (by decide) (hts _ t4_137) (fun _ h9 => h9) rfl dX12_lives_25 ?_
      refine lv_iconst (v := 5) hx hb dX12_lives_28 (by decide) ?_
      refine s_iald (j := 5) hx hb hK.1 hP 1 0 rfl rfl (vi (by decide)) (by decide) dX12_lives_29 ?_
      refine lv_icmp_le (tgt := 38) hx hb dX12_lives_30 (by decide) (fun c_ => ?_) (fun c_ => ?_)
      · have hF := hF.1 c_
        refine lv_aload_n hx hb dX12_lives_38 rfl (lv_at hl 0 rfl) ?_
        refine va_get (D := D) (ci := 11) (v := .ref h_now) (C := RX12) (T := TX12) (N := 27) hx hb hts inTX12 hown hK.1 hP 0 rfl rfl 13 (by decide) (hts _ t4_137) (fun _ h9 => h9) rfl dX12_lives_39 ?_
        refine lv_bipush (v := 24) hx hb dX12_lives_42 (by decide) ?_
        refine lv_iload_n hx hb dX12_lives_44 rfl (lv_at hl 1 rfl) ?_
        refine lv_iadd hx hb dX12_lives_45 ?_
        obtain ⟨hi3, hF⟩ := hF
        refine s_iald (j := ((24 + p0)).toNatClampNeg) hx hb hK.1 hP 1 0 rfl rfl hi3 rfl dX12_lives_46 ?_
        exact rr_i C hQ rfl hF dX12_lives_47
      · have hF := hF.2 c_
        refine lv_ldc hx hb hown (hts _ t4_123) dX12_lives_33 ?_
        refine lv_goto (tgt := 47) hx hb dX12_lives_35 (by decide) ?_
        exact rr_i C hQ rfl hF dX12_lives_47
    · have hF := hF.2 ((bz_0 _).mp c_)
      refine lv_ldc hx hb hown (hts _ t4_217) dX12_lives_20 ?_
      exact rr_i C hQ rfl hF dX12_lives_22
  · have hF := hF.2 ((bz_0 _).mp c_)
    refine lv_ldc hx hb hown (hts _ t5_55) dX12_lives_7 ?_
    exact rr_i C hQ rfl hF dX12_lives_9
