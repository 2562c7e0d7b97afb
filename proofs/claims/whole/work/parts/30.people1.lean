def wpX8_leave (p0 : Int32) (v_left : Int32) (v_numbers : Nat → Int32) (post : Unit → Int32 → (Nat → Int32) → Prop) : Prop := (16 ≤ v_left → (post () v_left v_numbers)) ∧ (¬ 16 ≤ v_left → (vp_in v_left 16 ∧ (post () (v_left + 1) (upd v_numbers ((v_left).toNatClampNeg) p0))))
abbrev miX8_leave : MI := (yX8_leave, cX8_leave, 2, none)
theorem mfX8_leave : MF miX8_leave 1 := ⟨t4_53, t1_7, by decide +kernel⟩
abbrev rmX8_leave : Room := { frames := 0, cells := 0, slots := 0, locals := 0 }
set_option maxHeartbeats 4000000 in
set_option maxRecDepth 100000 in
theorem ccX8_leave (l : Launch) (D : va_G) (cy : Nat → ClassId) (h_this : Nat) (h_numbers : Nat) (v_left : Int32) (v_purse : Int32) (v_memory : Int32) (v_numbers : Nat → Int32) (p0 : Int32) (post : Unit → Int32 → (Nat → Int32) → Prop) (hF : wpX8_leave p0 v_left v_numbers post) : Ct l D cy miX8_leave rmX8_leave emV NP [.ref h_this, .int p0] [(h_this, .inr (7, [.ref h_numbers, .int v_left, .int v_purse, .int v_memory])), (h_numbers, .inl (cy 0, 16, .inl v_numbers))] (fun r w1 => ∃ (w_left : Int32) (w_numbers : Nat → Int32), w1 = [(h_this, .inr (7, [.ref h_numbers, .int w_left, .int v_purse, .int v_memory])), (h_numbers, .inl (cy 0, 16, .inl w_numbers))] ∧ post r w_left w_numbers) := by
  refine Ct.of (by decide) (Nat.le_of_ble_eq_true rfl) ?_
  intro p e s m args below meth c A ls Q C hQ hA hI hP hD hS hl
  obtain ⟨hx, hb, hr, hml, hown, hts, hK, hlk, hnm⟩ := id C
  have hb : c.code = cX8_leave := hb
  have hml : c.maxLocals = 2 := hml
  have hown : s.vm.findClass RX8 = some m.cls := hown
  have hl : lv_has ls 2 [(0, .ref h_this), (1, .int p0)] := hl
  unfold wpX8_leave at hF
  refine lv_aload_n hx hb dX8_leave_0 rfl (lv_at hl 0 rfl) ?_
  refine va_get (D := D) (ci := 7) (v := .int v_left) (C := RX8) (T := TX8) (N := 4) hx hb hts inTX8 hown hK.1 hP 0 rfl rfl 1 (by decide) (hts _ t1_163) (fun _ h9 => h9) rfl dX8_leave_1 ?_
  refine lv_bipush (v := 16) hx hb dX8_leave_4 (by decide) ?_
  refine lv_icmp_ge (tgt := 29) hx hb dX8_leave_6 (by decide) (fun c_ => ?_) (fun c_ => ?_)
  · have hF := hF.1 c_
    exact rt_v C hQ rfl hP hD hS ⟨v_left, v_numbers, rfl, hF⟩ dX8_leave_29
  · have hF := hF.2 c_
    refine lv_aload_n hx hb dX8_leave_9 rfl (lv_at hl 0 rfl) ?_
    refine va_get (D := D) (ci := 7) (v := .ref h_numbers) (C := RX8) (T := TX8) (N := 4) hx hb hts inTX8 hown hK.1 hP 0 rfl rfl 0 (by decide) (hts _ t1_162) (fun _ h9 => h9) rfl dX8_leave_10 ?_
    refine lv_aload_n hx hb dX8_leave_13 rfl (lv_at hl 0 rfl) ?_
    refine va_get (D := D) (ci := 7) (v := .int v_left) (C := RX8) (T := TX8) (N := 4) hx hb hts inTX8 hown hK.1 hP 0 rfl rfl 1 (by decide) (hts _ t1_163) (fun _ h9 => h9) rfl dX8_leave_14 ?_
    refine lv_iload_n hx hb dX8_leave_17 rfl (lv_at hl 1 rfl) ?_
    obtain ⟨hi1, hF⟩ := hF
    refine s_iast (j := (v_left).toNatClampNeg) hx hb hK.1 hP hD hS 1 0 rfl rfl hi1 rfl dX8_leave_18 (fun H locs hP hD hS => ?_)
    have hP : va_P D CL [(h_this, .inr (7, [.ref h_numbers, .int v_left, .int v_purse, .int v_memory])), (h_numbers, .inl (cy 0, 16, .inl (upd v_numbers ((v_left).toNatClampNeg) p0)))] H := hP
    have hD : va_D A [(h_this, .inr (7, [.ref h_numbers, .int v_left, .int v_purse, .int v_memory])), (h_numbers, .inl (cy 0, 16, .inl (upd v_numbers ((v_left).toNatClampNeg) p0)))] := hD
    refine lv_aload_n hx hb dX8_leave_19 rfl (lv_at hl 0 rfl) ?_
    refine lv_dup hx hb dX8_leave_20 rfl ?_
    refine va_get (D := D) (ci := 7) (v := .int v_left) (C := RX8) (T := TX8) (N := 4) hx hb hts inTX8 hown hK.1 hP 0 rfl rfl 1 (by decide) (hts _ t1_163) (fun _ h9 => h9) rfl dX8_leave_21 ?_
    refine lv_iconst (v := 1) hx hb dX8_leave_24 (by decide) ?_
    refine lv_iadd hx hb dX8_leave_25 ?_
    refine va_put (D := D) (ci := 7) (v := .int (v_left + 1)) (ty := .int) (C := RX8) (T := TX8) (N := 4) hx hb hts inTX8 tyX8 tyX8_ok nmX8 hown hK.1 hP hD hS 0 rfl rfl 1 (by decide) (hts _ t1_163) (fun _ h9 => h9) rfl (tyX8_ok 1 (by decide)) rfl rfl (Nat.le_of_ble_eq_true rfl) dX8_leave_26 (fun H locs hP hD hS => ?_)
    have hP : va_P D CL [(h_this, .inr (7, [.ref h_numbers, .int (v_left + 1), .int v_purse, .int v_memory])), (h_numbers, .inl (cy 0, 16, .inl (upd v_numbers ((v_left).toNatClampNeg) p0)))] H := hP
    have hD : va_D A [(h_this, .inr (7, [.ref h_numbers, .int (v_left + 1), .int v_purse, .int v_memory])), (h_numbers, .inl (cy 0, 16, .inl (upd v_numbers ((v_left).toNatClampNeg) p0)))] := hD
    exact rt_v C hQ rfl hP hD hS ⟨(v_left + 1), (upd v_numbers ((v_left).toNatClampNeg) p0), rfl, hF⟩ dX8_leave_29

def wpX3_helpOf_k1 (p0 : Int32) (pt : PT) (post : Int32 → Prop) : Prop := post p0
abbrev miX3_helpOf : MI := (yX3_helpOf, cX3_helpOf, 2, (some .int))
theorem mfX3_helpOf : MF miX3_helpOf 1 := ⟨t2_220, t1_10, by decide +kernel⟩
abbrev rmX3_helpOf_k1 : Room := { frames := 0, cells := 0, slots := 0, locals := 0 }
set_option maxHeartbeats 4000000 in
set_option maxRecDepth 100000 in
theorem ccX3_helpOf_k1 (l : Launch) (D : va_G) (cy : Nat → ClassId) (pe : Pe) (a : Nat) (ha : a ∈ pe.1) (hk : (pe.2 a).1 = 1) (p0 : Int32) (post : Int32 → Prop) (hF : wpX3_helpOf_k1 p0 (pe.2 a) post) : Cr l D cy miX3_helpOf rmX3_helpOf_k1 emI pe [.ref a, .int p0] [] post := by
  refine Cr.of (by decide) (Nat.le_of_ble_eq_true rfl) ?_
  intro p e s m args below meth c ls Q C hQ hO hP hl
  obtain ⟨hx, hb, hr, hml, hown, hts, hK, hlk, hnm⟩ := id C
  have hb : c.code = cX3_helpOf := hb
  have hml : c.maxLocals = 2 := hml
  have hown : s.vm.findClass RX3 = some m.cls := hown
  have hl : lv_has ls 2 [(0, .ref a), (1, .int p0)] := hl
  unfold wpX3_helpOf_k1 at hF
  refine lv_iload_n hx hb dX3_helpOf_0 rfl (lv_at hl 1 rfl) ?_
  exact rr_i C hQ rfl hF dX3_helpOf_1

def wpX3_bringsBy_k1 (p0 : Bool) (pt : PT) (post : Int32 → Prop) : Prop := (p0 = false → (post (-pt.2.2.2.2))) ∧ (p0 = true → (post pt.2.2.2.1))
abbrev miX3_bringsBy : MI := (yX3_bringsBy, cX3_bringsBy, 2, (some .int))
theorem mfX3_bringsBy : MF miX3_bringsBy 1 := ⟨t3_35, t1_10, by decide +kernel⟩
abbrev rmX3_bringsBy_k1 : Room := { frames := 0, cells := 0, slots := 0, locals := 0 }
set_option maxHeartbeats 4000000 in
set_option maxRecDepth 100000 in
theorem ccX3_bringsBy_k1 (l : Launch) (D : va_G) (cy : Nat → ClassId) (pe : Pe) (a : Nat) (ha : a ∈ pe.1) (hk : (pe.2 a).1 = 1) (p0 : Bool) (post : Int32 → Prop) (hF : wpX3_bringsBy_k1 p0 (pe.2 a) post) : Cr l D cy miX3_bringsBy rmX3_bringsBy_k1 emI pe [.ref a, .int (bz p0)] [] post := by
  refine Cr.of (by decide) (Nat.le_of_ble_eq_true rfl) ?_
  intro p e s m args below meth c ls Q C hQ hO hP hl
  obtain ⟨hx, hb, hr, hml, hown, hts, hK, hlk, hnm⟩ := id C
  have hb : c.code = cX3_bringsBy := hb
  have hml : c.maxLocals = 2 := hml
  have hown : s.vm.findClass RX3 = some m.cls := hown
  have hl : lv_has ls 2 [(0, .ref a), (1, .int (bz p0))] := hl
  unfold wpX3_bringsBy_k1 at hF
  refine lv_iload_n hx hb dX3_bringsBy_0 rfl (lv_at hl 1 rfl) ?_
  refine lv_if_eq (tgt := 11) hx hb dX3_bringsBy_1 (by decide) (fun c_ => ?_) (fun c_ => ?_)
  · have hF := hF.1 ((bz_0 _).mp c_)
    refine lv_aload_n hx hb dX3_bringsBy_11 rfl (lv_at hl 0 rfl) ?_
    refine pe_get3 C hO ha (hts _ t2_92) (fun _ h9 => h9) dX3_bringsBy_12 ?_
    refine lv_ineg hx hb dX3_bringsBy_15 ?_
    exact rr_i C hQ rfl hF dX3_bringsBy_16
  · have hF := hF.2 ((bz_1 _).mp c_)
    refine lv_aload_n hx hb dX3_bringsBy_4 rfl (lv_at hl 0 rfl) ?_
    refine pe_get2 C hO ha (hts _ t2_88) (fun _ h9 => h9) dX3_bringsBy_5 ?_
    refine lv_goto (tgt := 16) hx hb dX3_bringsBy_8 (by decide) ?_
    exact rr_i C hQ rfl hF dX3_bringsBy_16

def wpX3_beginsWithRight_k1 (pt : PT) (post : Bool → Prop) : Prop := post true
abbrev miX3_beginsWithRight : MI := (yX3_beginsWithRight, cX3_beginsWithRight, 1, (some .boolean))
theorem mfX3_beginsWithRight : MF miX3_beginsWithRight 0 := ⟨t2_166, t1_10, by decide +kernel⟩
abbrev rmX3_beginsWithRight_k1 : Room := { frames := 0, cells := 0, slots := 0, locals := 0 }
set_option maxHeartbeats 4000000 in
set_option maxRecDepth 100000 in
theorem ccX3_beginsWithRight_k1 (l : Launch) (D : va_G) (cy : Nat → ClassId) (pe : Pe) (a : Nat) (ha : a ∈ pe.1) (hk : (pe.2 a).1 = 1) (post : Bool → Prop) (hF : wpX3_beginsWithRight_k1 (pe.2 a) post) : Cr l D cy miX3_beginsWithRight rmX3_beginsWithRight_k1 emB pe [.ref a] [] post := by
  refine Cr.of (by decide) (Nat.le_of_ble_eq_true rfl) ?_
  intro p e s m args below meth c ls Q C hQ hO hP hl
  obtain ⟨hx, hb, hr, hml, hown, hts, hK, hlk, hnm⟩ := id C
  have hb : c.code = cX3_beginsWithRight := hb
  have hml : c.maxLocals = 1 := hml
  have hown : s.vm.findClass RX3 = some m.cls := hown
  have hl : lv_has ls 1 [(0, .ref a)] := hl
  unfold wpX3_beginsWithRight_k1 at hF
  refine lv_iconst (v := 1) hx hb dX3_beginsWithRight_0 (by decide) ?_
  refine W.eq (g2 := F0 m 1 ls [.int (bz true)]) rfl ?_
  exact rr_b C hQ rfl hF dX3_beginsWithRight_1

def wpX3_mayUseRight_k1 (pt : PT) (post : Bool → Prop) : Prop := post true
abbrev miX3_mayUseRight : MI := (yX3_mayUseRight, cX3_mayUseRight, 1, (some .boolean))
theorem mfX3_mayUseRight : MF miX3_mayUseRight 0 := ⟨t3_7, t1_10, by decide +kernel⟩
abbrev rmX3_mayUseRight_k1 : Room := { frames := 0, cells := 0, slots := 0, locals := 0 }
set_option maxHeartbeats 4000000 in
set_option maxRecDepth 100000 in
theorem ccX3_mayUseRight_k1 (l : Launch) (D : va_G) (cy : Nat → ClassId) (pe : Pe) (a : Nat) (ha : a ∈ pe.1) (hk : (pe.2 a).1 = 1) (post : Bool → Prop) (hF : wpX3_mayUseRight_k1 (pe.2 a) post) : Cr l D cy miX3_mayUseRight rmX3_mayUseRight_k1 emB pe [.ref a] [] post := by
  refine Cr.of (by decide) (Nat.le_of_ble_eq_true rfl) ?_
  intro p e s m args below meth c ls Q C hQ hO hP hl
  obtain ⟨hx, hb, hr, hml, hown, hts, hK, hlk, hnm⟩ := id C
  have hb : c.code = cX3_mayUseRight := hb
  have hml : c.maxLocals = 1 := hml
  have hown : s.vm.findClass RX3 = some m.cls := hown
  have hl : lv_has ls 1 [(0, .ref a)] := hl
  unfold wpX3_mayUseRight_k1 at hF
  refine lv_iconst (v := 1) hx hb dX3_mayUseRight_0 (by decide) ?_
  refine W.eq (g2 := F0 m 1 ls [.int (bz true)]) rfl ?_
  exact rr_b C hQ rfl hF dX3_mayUseRight_1

def wpX0_ownKind_k1 (pt : PT) (post : Int32 → Prop) : Prop := post 1
abbrev miX0_ownKind : MI := (yX0_ownKind, cX0_ownKind, 1, (some .int))
theorem mfX0_ownKind : MF miX0_ownKind 0 := ⟨t4_11, t1_11, by decide +kernel⟩
abbrev rmX0_ownKind_k1 : Room := { frames := 0, cells := 0, slots := 0, locals := 0 }
set_option maxHeartbeats 4000000 in
set_option maxRecDepth 100000 in
theorem ccX0_ownKind_k1 (l : Launch) (D : va_G) (cy : Nat → ClassId) (pe : Pe) (a : Nat) (ha : a ∈ pe.1) (hk : (pe.2 a).1 = 1) (post : Int32 → Prop) (hF : wpX0_ownKind_k1 (pe.2 a) post) : Cr l D cy miX0_ownKind rmX0_ownKind_k1 emI pe [.ref a] [] post := by
  refine Cr.of (by decide) (Nat.le_of_ble_eq_true rfl) ?_
  intro p e s m args below meth c ls Q C hQ hO hP hl
  obtain ⟨hx, hb, hr, hml, hown, hts, hK, hlk, hnm⟩ := id C
  have hb : c.code = cX0_ownKind := hb
  have hml : c.maxLocals = 1 := hml
  have hown : s.vm.findClass RX0 = some m.cls := hown
  have hl : lv_has ls 1 [(0, .ref a)] := hl
  unfold wpX0_ownKind_k1 at hF
  refine lv_iconst (v := 1) hx hb dX0_ownKind_0 (by decide) ?_
  exact rr_i C hQ rfl hF dX0_ownKind_1

def wpX3_oddsBy_k1 (p0 : Int32) (pt : PT) (post : Int32 → Prop) : Prop := wpX3_helpOf_k1 p0 pt (fun r1 => post (if (pt.2.2.1 + r1) < 10 then (pt.2.2.1 + r1) else 10))
abbrev miX3_oddsBy : MI := (yX3_oddsBy, cX3_oddsBy, 2, (some .int))
theorem mfX3_oddsBy : MF miX3_oddsBy 1 := ⟨t2_209, t1_10, by decide +kernel⟩
abbrev rmX3_oddsBy_k1 : Room := { frames := 1, cells := 0, slots := 0, locals := 21 }
set_option maxHeartbeats 4000000 in
set_option maxRecDepth 100000 in
theorem ccX3_oddsBy_k1 (l : Launch) (D : va_G) (cy : Nat → ClassId) (pe : Pe) (a : Nat) (ha : a ∈ pe.1) (hk : (pe.2 a).1 = 1) (p0 : Int32) (post : Int32 → Prop) (hF : wpX3_oddsBy_k1 p0 (pe.2 a) post) : Cr l D cy miX3_oddsBy rmX3_oddsBy_k1 emI pe [.ref a, .int p0] [] post := by
  refine Cr.of (by decide) (Nat.le_of_ble_eq_true rfl) ?_
  intro p e s m args below meth c ls Q C hQ hO hP hl
  obtain ⟨hx, hb, hr, hml, hown, hts, hK, hlk, hnm⟩ := id C
  have hb : c.code = cX3_oddsBy := hb
  have hml : c.maxLocals = 2 := hml
  have hown : s.vm.findClass RX3 = some m.cls := hown
  have hl : lv_has ls 2 [(0, .ref a), (1, .int p0)] := hl
  unfold wpX3_oddsBy_k1 at hF
  refine lv_bipush (v := 10) hx hb dX3_oddsBy_0 (by decide) ?_
  refine lv_aload_n hx hb dX3_oddsBy_2 rfl (lv_at hl 0 rfl) ?_
  refine pe_get1 C hO ha (hts _ t2_86) (fun _ h9 => h9) dX3_oddsBy_3 ?_
  refine lv_aload_n hx hb dX3_oddsBy_6 rfl (lv_at hl 0 rfl) ?_
  refine lv_iload_n hx hb dX3_oddsBy_7 rfl (lv_at hl 1 rfl) ?_
  refine cU_r (As := [.int p0]) C hO ha hk ⟨"LivedAgain$Person", "helpOf", "(I)I"⟩ "LivedAgain$Person" mfX3_helpOf t2_211 t2_210 t2_212 (va_Decl.of (hts _ t2_211) (hts _ t2_220)) t2_213 (by decide +kernel) (ccX3_helpOf_k1 l D cy pe a ha hk p0 _ hF) rfl rfl rfl hl.1 rfl (Nat.le_of_ble_eq_true rfl) dX3_oddsBy_8 ⟨Nat.le_of_ble_eq_true rfl, Nat.le_of_ble_eq_true rfl⟩ ⟨Nat.le_of_ble_eq_true rfl, Nat.le_of_ble_eq_true rfl⟩ ?_
  intro r1 hF
  refine W.eq (g2 := F0 m 11 ls [.int r1, .int ((pe.2 a).2.2.1), .int 10]) rfl ?_
  refine lv_iadd hx hb dX3_oddsBy_11 ?_
  refine va_mmin hx hb (hml.trans hl.1.symm) hown (hts _ t2_221) (hts _ t2_153) (hts _ t1_16) (hts _ t2_154) (by decide) (Nat.le_of_ble_eq_true rfl) (by decide) (by decide) dX3_oddsBy_12 ?_
  exact rr_i C hQ rfl hF dX3_oddsBy_15

def wpX3_waysToGo_k1 (p0 : Int32) (p1 : Bool) (pt : PT) (post : Int32 → Prop) : Prop := wpX3_oddsBy_k1 p0 pt (fun r1 => (p1 = false → (post (10 - r1))) ∧ (p1 = true → (post r1)))
abbrev miX3_waysToGo : MI := (yX3_waysToGo, cX3_waysToGo, 4, (some .int))
theorem mfX3_waysToGo : MF miX3_waysToGo 2 := ⟨t3_104, t1_10, by decide +kernel⟩
abbrev rmX3_waysToGo_k1 : Room := { frames := 2, cells := 0, slots := 0, locals := 42 }
set_option maxHeartbeats 4000000 in
set_option maxRecDepth 100000 in
theorem ccX3_waysToGo_k1 (l : Launch) (D : va_G) (cy : Nat → ClassId) (pe : Pe) (a : Nat) (ha : a ∈ pe.1) (hk : (pe.2 a).1 = 1) (p0 : Int32) (p1 : Bool) (post : Int32 → Prop) (hF : wpX3_waysToGo_k1 p0 p1 (pe.2 a) post) : Cr l D cy miX3_waysToGo rmX3_waysToGo_k1 emI pe [.ref a, .int p0, .int (bz p1)] [] post := by
  refine Cr.of (by decide) (Nat.le_of_ble_eq_true rfl) ?_
  intro p e s m args below meth c ls Q C hQ hO hP hl
  obtain ⟨hx, hb, hr, hml, hown, hts, hK, hlk, hnm⟩ := id C
  have hb : c.code = cX3_waysToGo := hb
  have hml : c.maxLocals = 4 := hml
  have hown : s.vm.findClass RX3 = some m.cls := hown
  have hl : lv_has ls 4 [(0, .ref a), (1, .int p0), (2, .int (bz p1))] := hl
  unfold wpX3_waysToGo_k1 at hF
  refine lv_aload_n hx hb dX3_waysToGo_0 rfl (lv_at hl 0 rfl) ?_
  refine lv_iload_n hx hb dX3_waysToGo_1 rfl (lv_at hl 1 rfl) ?_
  refine cU_r (As := [.int p0]) C hO ha hk ⟨"LivedAgain$Person", "oddsBy", "(I)I"⟩ "LivedAgain$Person" mfX3_oddsBy t2_202 t3_105 t2_203 (va_Decl.of (hts _ t2_202) (hts _ t2_209)) t2_204 (by decide +kernel) (ccX3_oddsBy_k1 l D cy pe a ha hk p0 _ hF) rfl rfl rfl hl.1 rfl (Nat.le_of_ble_eq_true rfl) dX3_waysToGo_2 ⟨Nat.le_of_ble_eq_true rfl, Nat.le_of_ble_eq_true rfl⟩ ⟨Nat.le_of_ble_eq_true rfl, Nat.le_of_ble_eq_true rfl⟩ ?_
  intro r1 hF
  refine W.eq (g2 := F0 m 5 ls [.int r1]) rfl ?_
  refine lv_istore_n (lv' := [(3, .int r1), (0, .ref a), (1, .int p0), (2, .int (bz p1))]) hx hb dX3_waysToGo_5 rfl hl (by decide) rfl (fun ls hl => ?_)
  refine lv_iload_n hx hb dX3_waysToGo_6 rfl (lv_at hl 3 rfl) ?_
  refine lv_if_eq (tgt := 14) hx hb dX3_waysToGo_7 (by decide) (fun c_ => ?_) (fun c_ => ?_)
  · have hF := hF.1 ((bz_0 _).mp c_)
    refine lv_bipush (v := 10) hx hb dX3_waysToGo_14 (by decide) ?_
    refine lv_iload_n hx hb dX3_waysToGo_16 rfl (lv_at hl 0 rfl) ?_
    refine lv_isub hx hb dX3_waysToGo_17 ?_
    exact rr_i C hQ rfl hF dX3_waysToGo_18
  · have hF := hF.2 ((bz_1 _).mp c_)
    refine lv_iload_n hx hb dX3_waysToGo_10 rfl (lv_at hl 0 rfl) ?_
    refine lv_goto (tgt := 18) hx hb dX3_waysToGo_11 (by decide) ?_
    exact rr_i C hQ rfl hF dX3_waysToGo_18

def wpX3_meanTenths_k1 (p0 : Int32) (pt : PT) (post : Int64 → Prop) : Prop := wpX3_waysToGo_k1 p0 true pt (fun r1 => wpX3_bringsBy_k1 true pt (fun r2 => wpX3_waysToGo_k1 p0 false pt (fun r3 => wpX3_bringsBy_k1 false pt (fun r4 => post ((((r1).toInt64) * ((r2).toInt64)) + (((r3).toInt64) * ((r4).toInt64)))))))
abbrev miX3_meanTenths : MI := (yX3_meanTenths, cX3_meanTenths, 2, (some .long))
theorem mfX3_meanTenths : MF miX3_meanTenths 1 := ⟨t3_187, t1_10, by decide +kernel⟩
abbrev rmX3_meanTenths_k1 : Room := { frames := 3, cells := 0, slots := 0, locals := 65 }
set_option maxHeartbeats 4000000 in
set_option maxRecDepth 100000 in
theorem ccX3_meanTenths_k1 (l : Launch) (D : va_G) (cy : Nat → ClassId) (pe : Pe) (a : Nat) (ha : a ∈ pe.1) (hk : (pe.2 a).1 = 1) (p0 : Int32) (post : Int64 → Prop) (hF : wpX3_meanTenths_k1 p0 (pe.2 a) post) : Cr l D cy miX3_meanTenths rmX3_meanTenths_k1 emL pe [.ref a, .int p0] [] post := by
  refine Cr.of (by decide) (Nat.le_of_ble_eq_true rfl) ?_
  intro p e s m args below meth c ls Q C hQ hO hP hl
  obtain ⟨hx, hb, hr, hml, hown, hts, hK, hlk, hnm⟩ := id C
  have hb : c.code = cX3_meanTenths := hb
  have hml : c.maxLocals = 2 := hml
  have hown : s.vm.findClass RX3 = some m.cls := hown
  have hl : lv_has ls 2 [(0, .ref a), (1, .int p0)] := hl
  unfold wpX3_meanTenths_k1 at hF
  refine lv_aload_n hx hb dX3_meanTenths_0 rfl (lv_at hl 0 rfl) ?_
  refine lv_iload_n hx hb dX3_meanTenths_1 rfl (lv_at hl 1 rfl) ?_
  refine lv_iconst (v := 1) hx hb dX3_meanTenths_2 (by decide) ?_
  refine cU_r (As := [.int p0, .int (bz true)]) C hO ha hk ⟨"LivedAgain$Person", "waysToGo", "(IZ)I"⟩ "LivedAgain$Person" mfX3_waysToGo t3_97 t3_188 t3_98 (va_Decl.of (hts _ t3_97) (hts _ t3_104)) t3_99 (by decide +kernel) (ccX3_waysToGo_k1 l D cy pe a ha hk p0 true _ hF) rfl rfl rfl hl.1 rfl (Nat.le_of_ble_eq_true rfl) dX3_meanTenths_3 ⟨Nat.le_of_ble_eq_true rfl, Nat.le_of_ble_eq_true rfl⟩ ⟨Nat.le_of_ble_eq_true rfl, Nat.le_of_ble_eq_true rfl⟩ ?_
  intro r1 hF
  refine W.eq (g2 := F0 m 6 ls [.int r1]) rfl ?_
  refine lv_i2l hx hb dX3_meanTenths_6 rfl ?_
  refine lv_aload_n hx hb dX3_meanTenths_7 rfl (lv_at hl 0 rfl) ?_
  refine lv_iconst (v := 1) hx hb dX3_meanTenths_8 (by decide) ?_
  refine cU_r (As := [.int (bz true)]) C hO ha hk ⟨"LivedAgain$Person", "bringsBy", "(Z)I"⟩ "LivedAgain$Person" mfX3_bringsBy t3_21 t3_189 t3_22 (va_Decl.of (hts _ t3_21) (hts _ t3_35)) t3_23 (by decide +kernel) (ccX3_bringsBy_k1 l D cy pe a ha hk true _ hF) rfl rfl rfl hl.1 rfl (Nat.le_of_ble_eq_true rfl) dX3_meanTenths_9 ⟨Nat.le_of_ble_eq_true rfl, Nat.le_of_ble_eq_true rfl⟩ ⟨Nat.le_of_ble_eq_true rfl, Nat.le_of_ble_eq_true rfl⟩ ?_
  intro r2 hF
  refine W.eq (g2 := F0 m 12 ls [.int r2, .long ((r1).toInt64)]) rfl ?_
  refine lv_i2l hx hb dX3_meanTenths_12 rfl ?_
  refine lv_lmul hx hb dX3_meanTenths_13 ?_
  refine lv_aload_n hx hb dX3_meanTenths_14 rfl (lv_at hl 0 rfl) ?_
  refine lv_iload_n hx hb dX3_meanTenths_15 rfl (lv_at hl 1 rfl) ?_
  refine lv_iconst (v := 0) hx hb dX3_meanTenths_16 (by decide) ?_
  refine cU_r (As := [.int p0, .int (bz false)]) C hO ha hk ⟨"LivedAgain$Person", "waysToGo", "(IZ)I"⟩ "LivedAgain$Person" mfX3_waysToGo t3_97 t3_188 t3_98 (va_Decl.of (hts _ t3_97) (hts _ t3_104)) t3_99 (by decide +kernel) (ccX3_waysToGo_k1 l D cy pe a ha hk p0 false _ hF) rfl rfl rfl hl.1 rfl (Nat.le_of_ble_eq_true rfl) dX3_meanTenths_17 ⟨Nat.le_of_ble_eq_true rfl, Nat.le_of_ble_eq_true rfl⟩ ⟨Nat.le_of_ble_eq_true rfl, Nat.le_of_ble_eq_true rfl⟩ ?_
  intro r3 hF
  refine W.eq (g2 := F0 m 20 ls [.int r3, .long (((r1).toInt64) * ((r2).toInt64))]) rfl ?_
  refine lv_i2l hx hb dX3_meanTenths_20 rfl ?_
  refine lv_aload_n hx hb dX3_meanTenths_21 rfl (lv_at hl 0 rfl) ?_
  refine lv_iconst (v := 0) hx hb dX3_meanTenths_22 (by decide) ?_
  refine cU_r (As := [.int (bz false)]) C hO ha hk ⟨"LivedAgain$Person", "bringsBy", "(Z)I"⟩ "LivedAgain$Person" mfX3_bringsBy t3_21 t3_189 t3_22 (va_Decl.of (hts _ t3_21) (hts _ t3_35)) t3_23 (by decide +kernel) (ccX3_bringsBy_k1 l D cy pe a ha hk false _ hF) rfl rfl rfl hl.1 rfl (Nat.le_of_ble_eq_true rfl) dX3_meanTenths_23 ⟨Nat.le_of_ble_eq_true rfl, Nat.le_of_ble_eq_true rfl⟩ ⟨Nat.le_of_ble_eq_true rfl, Nat.le_of_ble_eq_true rfl⟩ ?_
  intro r4 hF
  refine W.eq (g2 := F0 m 26 ls [.int r4, .long ((r3).toInt64), .long (((r1).toInt64) * ((r2).toInt64))]) rfl ?_
  refine lv_i2l hx hb dX3_meanTenths_26 rfl ?_
  refine lv_lmul hx hb dX3_meanTenths_27 ?_
  refine lv_ladd hx hb dX3_meanTenths_28 ?_
  exact rr_l C hQ rfl hF dX3_meanTenths_29

def wlX3_worthOfRight_k1_36 (pt : PT) (post : Int64 → Prop) : Nat → Int32 → Int64 → Int64 → Int64 → Int32 → Prop
  | 0, _, _, _, _, _ => False
  | n + 1, l1, l2, l4, l6, l8 => (l1 ≤ l8 → (post l6)) ∧ (¬ l1 ≤ l8 → (wpX3_bringsBy_k1 true pt (fun r1 => wpX3_bringsBy_k1 false pt (fun r2 => wpX3_waysToGo_k1 0 true pt (fun r3 => wpX3_waysToGo_k1 0 false pt (fun r4 => (wlX3_worthOfRight_k1_36 pt post n) l1 l2 l4 ((((((r3).toInt64) * (if l2 < ((((r1).toInt64) * 10000) + l6) then ((((r1).toInt64) * 10000) + l6) else l2)) + (((r4).toInt64) * (if l2 < ((((r2).toInt64) * 10000) + l6) then ((((r2).toInt64) * 10000) + l6) else l2))) / 10) - l4) (l8 + 1)))))))
def wpX3_worthOfRight_k1 (p0 : Int32) (pt : PT) (post : Int64 → Prop) : Prop := wpX3_mayUseRight_k1 pt (fun r1 => (r1 = true → (wpX3_meanTenths_k1 1 pt (fun r2 => wpX3_meanTenths_k1 0 pt (fun r3 => wlX3_worthOfRight_k1_36 pt post fu p0 (r2 * 1000) (r3 * 1000) 0 0)))) ∧ (r1 = false → (post 0)))
abbrev miX3_worthOfRight : MI := (yX3_worthOfRight, cX3_worthOfRight, 13, (some .long))
theorem mfX3_worthOfRight : MF miX3_worthOfRight 1 := ⟨t3_177, t1_10, by decide +kernel⟩
abbrev rmX3_worthOfRight_k1 : Room := { frames := 4, cells := 0, slots := 0, locals := 86 }
set_option maxHeartbeats 4000000 in
set_option maxRecDepth 100000 in
theorem ccX3_worthOfRight_k1 (l : Launch) (D : va_G) (cy : Nat → ClassId) (pe : Pe) (a : Nat) (ha : a ∈ pe.1) (hk : (pe.2 a).1 = 1) (p0 : Int32) (post : Int64 → Prop) (hF : wpX3_worthOfRight_k1 p0 (pe.2 a) post) : Cr l D cy miX3_worthOfRight rmX3_worthOfRight_k1 emL pe [.ref a, .int p0] [] post := by
  refine Cr.of (by decide) (Nat.le_of_ble_eq_true rfl) ?_
  intro p e s m args below meth c ls Q C hQ hO hP hl
  obtain ⟨hx, hb, hr, hml, hown, hts, hK, hlk, hnm⟩ := id C
  have hb : c.code = cX3_worthOfRight := hb
  have hml : c.maxLocals = 13 := hml
  have hown : s.vm.findClass RX3 = some m.cls := hown
  have hl : lv_has ls 13 [(0, .ref a), (1, .int p0)] := hl
  have L_36 : ∀ (n_36 : Nat) (l1 : Int32) (l2 : Int64) (l4 : Int64) (l6 : Int64) (l8 : Int32) (ls : Array Slot), lv_has ls 13 [(0, .ref a), (1, .int l1), (2, .long l2), (4, .long l4), (6, .long l6), (8, .int l8)] → wlX3_worthOfRight_k1_36 (pe.2 a) post n_36 l1 l2 l4 l6 l8 → W p l e rmX3_worthOfRight_k1 s m args below meth c s.heap [] 0 0 Q (F0 m 36 ls []) := by
    intro n_36
    induction n_36 with
    | zero =>
      intro l1 l2 l4 l6 l8 ls  hl hF
      simp only [wlX3_worthOfRight_k1_36] at hF
    | succ n_36 ih_36 =>
      intro l1 l2 l4 l6 l8 ls  hl hF
      unfold wlX3_worthOfRight_k1_36 at hF
      refine lv_iload hx hb dX3_worthOfRight_36 (lv_at hl 5 rfl) ?_
      refine lv_iload_n hx hb dX3_worthOfRight_38 rfl (lv_at hl 1 rfl) ?_
      refine lv_icmp_ge (tgt := 116) hx hb dX3_worthOfRight_39 (by decide) (fun c_ => ?_) (fun c_ => ?_)
      · have hF := hF.1 c_
        refine lv_lload hx hb dX3_worthOfRight_116 (lv_at hl 4 rfl) ?_
        exact rr_l C hQ rfl hF dX3_worthOfRight_118
      · have hF := hF.2 c_
        refine lv_aload_n hx hb dX3_worthOfRight_42 rfl (lv_at hl 0 rfl) ?_
        refine lv_iconst (v := 1) hx hb dX3_worthOfRight_43 (by decide) ?_
        refine cU_r (As := [.int (bz true)]) C hO ha hk ⟨"LivedAgain$Person", "bringsBy", "(Z)I"⟩ "LivedAgain$Person" mfX3_bringsBy t3_21 t3_189 t3_22 (va_Decl.of (hts _ t3_21) (hts _ t3_35)) t3_23 (by decide +kernel) (ccX3_bringsBy_k1 l D cy pe a ha hk true _ hF) rfl rfl rfl hl.1 rfl (Nat.le_of_ble_eq_true rfl) dX3_worthOfRight_44 ⟨Nat.le_of_ble_eq_true rfl, Nat.le_of_ble_eq_true rfl⟩ ⟨Nat.le_of_ble_eq_true rfl, Nat.le_of_ble_eq_true rfl⟩ ?_
        intro r1 hF
        refine W.eq (g2 := F0 m 47 ls [.int r1]) rfl ?_
        refine lv_i2l hx hb dX3_worthOfRight_47 rfl ?_
        refine lv_ldc2 hx hb hown (hts _ t3_191) dX3_worthOfRight_48 ?_
        refine lv_lmul hx hb dX3_worthOfRight_51 ?_
        refine lv_lload hx hb dX3_worthOfRight_52 (lv_at hl 4 rfl) ?_
        refine lv_ladd hx hb dX3_worthOfRight_54 ?_
        refine lv_lload_n hx hb dX3_worthOfRight_55 rfl (lv_at hl 2 rfl) ?_
        refine va_mmax_long hx hb (hml.trans hl.1.symm) hown (hts _ t3_192) (hts _ t3_193) (hts _ t1_16) (hts _ t3_194) (by decide) (Nat.le_of_ble_eq_true rfl) (by decide) (by decide) dX3_worthOfRight_56 ?_
        refine lv_lstore (lv' := [(9, .long (if l2 < ((((r1).toInt64) * 10000) + l6) then ((((r1).toInt64) * 10000) + l6) else l2)), (0, .ref a), (1, .int l1), (2, .long l2), (4, .long l4), (6, .long l6), (8, .int l8)]) hx hb dX3_worthOfRight_59 hl (by decide) rfl (fun ls hl => ?_)
        refine lv_aload_n hx hb dX3_worthOfRight_61 rfl (lv_at hl 1 rfl) ?_
        refine lv_iconst (v := 0) hx hb dX3_worthOfRight_62 (by decide) ?_
        refine cU_r (As := [.int (bz false)]) C hO ha hk ⟨"LivedAgain$Person", "bringsBy", "(Z)I"⟩ "LivedAgain$Person" mfX3_bringsBy t3_21 t3_189 t3_22 (va_Decl.of (hts _ t3_21) (hts _ t3_35)) t3_23 (by decide +kernel) (ccX3_bringsBy_k1 l D cy pe a ha hk false _ hF) rfl rfl rfl hl.1 rfl (Nat.le_of_ble_eq_true rfl) dX3_worthOfRight_63 ⟨Nat.le_of_ble_eq_true rfl, Nat.le_of_ble_eq_true rfl⟩ ⟨Nat.le_of_ble_eq_true rfl, Nat.le_of_ble_eq_true rfl⟩ ?_
        intro r2 hF
        refine W.eq (g2 := F0 m 66 ls [.int r2]) rfl ?_
        refine lv_i2l hx hb dX3_worthOfRight_66 rfl ?_
        refine lv_ldc2 hx hb hown (hts _ t3_191) dX3_worthOfRight_67 ?_
        refine lv_lmul hx hb dX3_worthOfRight_70 ?_
        refine lv_lload hx hb dX3_worthOfRight_71 (lv_at hl 5 rfl) ?_
        refine lv_ladd hx hb dX3_worthOfRight_73 ?_
        refine lv_lload_n hx hb dX3_worthOfRight_74 rfl (lv_at hl 3 rfl) ?_
        refine va_mmax_long hx hb (hml.trans hl.1.symm) hown (hts _ t3_192) (hts _ t3_193) (hts _ t1_16) (hts _ t3_194) (by decide) (Nat.le_of_ble_eq_true rfl) (by decide) (by decide) dX3_worthOfRight_75 ?_
        refine lv_lstore (lv' := [(11, .long (if l2 < ((((r2).toInt64) * 10000) + l6) then ((((r2).toInt64) * 10000) + l6) else l2)), (9, .long (if l2 < ((((r1).toInt64) * 10000) + l6) then ((((r1).toInt64) * 10000) + l6) else l2)), (0, .ref a), (1, .int l1), (2, .long l2), (4, .long l4), (6, .long l6), (8, .int l8)]) hx hb dX3_worthOfRight_78 hl (by decide) rfl (fun ls hl => ?_)
        refine lv_aload_n hx hb dX3_worthOfRight_80 rfl (lv_at hl 2 rfl) ?_
        refine lv_iconst (v := 0) hx hb dX3_worthOfRight_81 (by decide) ?_
        refine lv_iconst (v := 1) hx hb dX3_worthOfRight_82 (by decide) ?_
        refine cU_r (As := [.int 0, .int (bz true)]) C hO ha hk ⟨"LivedAgain$Person", "waysToGo", "(IZ)I"⟩ "LivedAgain$Person" mfX3_waysToGo t3_97 t3_188 t3_98 (va_Decl.of (hts _ t3_97) (hts _ t3_104)) t3_99 (by decide +kernel) (ccX3_waysToGo_k1 l D cy pe a ha hk 0 true _ hF) rfl rfl rfl hl.1 rfl (Nat.le_of_ble_eq_true rfl) dX3_worthOfRight_83 ⟨Nat.le_of_ble_eq_true rfl, Nat.le_of_ble_eq_true rfl⟩ ⟨Nat.le_of_ble_eq_true rfl, Nat.le_of_ble_eq_true rfl⟩ ?_
        intro r3 hF
        refine W.eq (g2 := F0 m 86 ls [.int r3]) rfl ?_
        refine lv_i2l hx hb dX3_worthOfRight_86 rfl ?_
        refine lv_lload hx hb dX3_worthOfRight_87 (lv_at hl 1 rfl) ?_
        refine lv_lmul hx hb dX3_worthOfRight_89 ?_
        refine lv_aload_n hx hb dX3_worthOfRight_90 rfl (lv_at hl 2 rfl) ?_
        refine lv_iconst (v := 0) hx hb dX3_worthOfRight_91 (by decide) ?_
        refine lv_iconst (v := 0) hx hb dX3_worthOfRight_92 (by decide) ?_
        refine cU_r (As := [.int 0, .int (bz false)]) C hO ha hk ⟨"LivedAgain$Person", "waysToGo", "(IZ)I"⟩ "LivedAgain$Person" mfX3_waysToGo t3_97 t3_188 t3_98 (va_Decl.of (hts _ t3_97) (hts _ t3_104)) t3_99 (by decide +kernel) (ccX3_waysToGo_k1 l D cy pe a ha hk 0 false _ hF) rfl rfl rfl hl.1 rfl (Nat.le_of_ble_eq_true rfl) dX3_worthOfRight_93 ⟨Nat.le_of_ble_eq_true rfl, Nat.le_of_ble_eq_true rfl⟩ ⟨Nat.le_of_ble_eq_true rfl, Nat.le_of_ble_eq_true rfl⟩ ?_
        intro r4 hF
        refine W.eq (g2 := F0 m 96 ls [.int r4, .long (((r3).toInt64) * (if l2 < ((((r1).toInt64) * 10000) + l6) then ((((r1).toInt64) * 10000) + l6) else l2))]) rfl ?_
        refine lv_i2l hx hb dX3_worthOfRight_96 rfl ?_
        refine lv_lload hx hb dX3_worthOfRight_97 (lv_at hl 0 rfl) ?_
        refine lv_lmul hx hb dX3_worthOfRight_99 ?_
        refine lv_ladd hx hb dX3_worthOfRight_100 ?_
        refine lv_ldc2 hx hb hown (hts _ t3_195) dX3_worthOfRight_101 ?_
        refine lv_ldiv hx hb dX3_worthOfRight_104 (by decide) ?_
        refine lv_lload hx hb dX3_worthOfRight_105 (lv_at hl 5 rfl) ?_
        refine lv_lsub hx hb dX3_worthOfRight_107 ?_
        refine lv_lstore (lv' := [(6, .long ((((((r3).toInt64) * (if l2 < ((((r1).toInt64) * 10000) + l6) then ((((r1).toInt64) * 10000) + l6) else l2)) + (((r4).toInt64) * (if l2 < ((((r2).toInt64) * 10000) + l6) then ((((r2).toInt64) * 10000) + l6) else l2))) / 10) - l4)), (11, .long (if l2 < ((((r2).toInt64) * 10000) + l6) then ((((r2).toInt64) * 10000) + l6) else l2)), (9, .long (if l2 < ((((r1).toInt64) * 10000) + l6) then ((((r1).toInt64) * 10000) + l6) else l2)), (0, .ref a), (1, .int l1), (2, .long l2), (4, .long l4), (8, .int l8)]) hx hb dX3_worthOfRight_108 hl (by decide) rfl (fun ls hl => ?_)
        refine lv_iinc (v := (l8 + 1)) (lv' := [(8, .int (l8 + 1)), (6, .long ((((((r3).toInt64) * (if l2 < ((((r1).toInt64) * 10000) + l6) then ((((r1).toInt64) * 10000) + l6) else l2)) + (((r4).toInt64) * (if l2 < ((((r2).toInt64) * 10000) + l6) then ((((r2).toInt64) * 10000) + l6) else l2))) / 10) - l4)), (11, .long (if l2 < ((((r2).toInt64) * 10000) + l6) then ((((r2).toInt64) * 10000) + l6) else l2)), (9, .long (if l2 < ((((r1).toInt64) * 10000) + l6) then ((((r1).toInt64) * 10000) + l6) else l2)), (0, .ref a), (1, .int l1), (2, .long l2), (4, .long l4)]) hx hb dX3_worthOfRight_110 hl (k := 7) rfl rfl (by decide) rfl (fun ls hl => ?_)
        refine lv_goto (tgt := 36) hx hb dX3_worthOfRight_113 (by decide) ?_
        exact ih_36 l1 l2 l4 ((((((r3).toInt64) * (if l2 < ((((r1).toInt64) * 10000) + l6) then ((((r1).toInt64) * 10000) + l6) else l2)) + (((r4).toInt64) * (if l2 < ((((r2).toInt64) * 10000) + l6) then ((((r2).toInt64) * 10000) + l6) else l2))) / 10) - l4) (l8 + 1) ls  (lv_sub hl [4, 5, 6, 7, 1, 0] rfl) hF
  unfold wpX3_worthOfRight_k1 at hF
  refine lv_aload_n hx hb dX3_worthOfRight_0 rfl (lv_at hl 0 rfl) ?_
  refine cU_r (As := []) C hO ha hk ⟨"LivedAgain$Person", "mayUseRight", "()Z"⟩ "LivedAgain$Person" mfX3_mayUseRight t2_236 t3_178 t2_237 (va_Decl.of (hts _ t2_236) (hts _ t3_7)) t2_238 (by decide +kernel) (ccX3_mayUseRight_k1 l D cy pe a ha hk _ hF) rfl rfl rfl hl.1 rfl (Nat.le_of_ble_eq_true rfl) dX3_worthOfRight_1 ⟨Nat.le_of_ble_eq_true rfl, Nat.le_of_ble_eq_true rfl⟩ ⟨Nat.le_of_ble_eq_true rfl, Nat.le_of_ble_eq_true rfl⟩ ?_
  intro r1 hF
  refine W.eq (g2 := F0 m 4 ls [.int (bz r1)]) rfl ?_
  refine lv_if_ne (tgt := 9) hx hb dX3_worthOfRight_4 (by decide) (fun c_ => ?_) (fun c_ => ?_)
  · have hF := hF.1 ((bz_1 _).mp c_)
    refine lv_aload_n hx hb dX3_worthOfRight_9 rfl (lv_at hl 0 rfl) ?_
    refine lv_iconst (v := 1) hx hb dX3_worthOfRight_10 (by decide) ?_
    refine cU_r (As := [.int 1]) C hO ha hk ⟨"LivedAgain$Person", "meanTenths", "(I)J"⟩ "LivedAgain$Person" mfX3_meanTenths t3_180 t3_179 t3_181 (va_Decl.of (hts _ t3_180) (hts _ t3_187)) t3_182 (by decide +kernel) (ccX3_meanTenths_k1 l D cy pe a ha hk 1 _ hF) rfl rfl rfl hl.1 rfl (Nat.le_of_ble_eq_true rfl) dX3_worthOfRight_11 ⟨Nat.le_of_ble_eq_true rfl, Nat.le_of_ble_eq_true rfl⟩ ⟨Nat.le_of_ble_eq_true rfl, Nat.le_of_ble_eq_true rfl⟩ ?_
    intro r2 hF
    refine W.eq (g2 := F0 m 14 ls [.long r2]) rfl ?_
    refine lv_ldc2 hx hb hown (hts _ t3_190) dX3_worthOfRight_14 ?_
    refine lv_lmul hx hb dX3_worthOfRight_17 ?_
    refine lv_lstore_n (lv' := [(2, .long (r2 * 1000)), (0, .ref a), (1, .int p0)]) hx hb dX3_worthOfRight_18 rfl hl (by decide) rfl (fun ls hl => ?_)
    refine lv_aload_n hx hb dX3_worthOfRight_19 rfl (lv_at hl 1 rfl) ?_
    refine lv_iconst (v := 0) hx hb dX3_worthOfRight_20 (by decide) ?_
    refine cU_r (As := [.int 0]) C hO ha hk ⟨"LivedAgain$Person", "meanTenths", "(I)J"⟩ "LivedAgain$Person" mfX3_meanTenths t3_180 t3_179 t3_181 (va_Decl.of (hts _ t3_180) (hts _ t3_187)) t3_182 (by decide +kernel) (ccX3_meanTenths_k1 l D cy pe a ha hk 0 _ hF) rfl rfl rfl hl.1 rfl (Nat.le_of_ble_eq_true rfl) dX3_worthOfRight_21 ⟨Nat.le_of_ble_eq_true rfl, Nat.le_of_ble_eq_true rfl⟩ ⟨Nat.le_of_ble_eq_true rfl, Nat.le_of_ble_eq_true rfl⟩ ?_
    intro r3 hF
    refine W.eq (g2 := F0 m 24 ls [.long r3]) rfl ?_
    refine lv_ldc2 hx hb hown (hts _ t3_190) dX3_worthOfRight_24 ?_
    refine lv_lmul hx hb dX3_worthOfRight_27 ?_
    refine lv_lstore (lv' := [(4, .long (r3 * 1000)), (2, .long (r2 * 1000)), (0, .ref a), (1, .int p0)]) hx hb dX3_worthOfRight_28 hl (by decide) rfl (fun ls hl => ?_)
    refine lv_lconst (v := 0) hx hb dX3_worthOfRight_30 (by decide) ?_
    refine lv_lstore (lv' := [(6, .long 0), (4, .long (r3 * 1000)), (2, .long (r2 * 1000)), (0, .ref a), (1, .int p0)]) hx hb dX3_worthOfRight_31 hl (by decide) rfl (fun ls hl => ?_)
    refine lv_iconst (v := 0) hx hb dX3_worthOfRight_33 (by decide) ?_
    refine lv_istore (lv' := [(8, .int 0), (6, .long 0), (4, .long (r3 * 1000)), (2, .long (r2 * 1000)), (0, .ref a), (1, .int p0)]) hx hb dX3_worthOfRight_34 hl (by decide) rfl (fun ls hl => ?_)
    exact L_36 fu p0 (r2 * 1000) (r3 * 1000) 0 0 ls  (lv_sub hl [4, 5, 3, 2, 1, 0] rfl) hF
  · have hF := hF.2 ((bz_0 _).mp c_)
    refine lv_lconst (v := 0) hx hb dX3_worthOfRight_7 (by decide) ?_
    exact rr_l C hQ rfl hF dX3_worthOfRight_8

def wpX3_sizeBy_k1 (v_a0_left : Int32) (v_a0_purse : Int32) (v_a0_numbers : Nat → Int32) (pt : PT) (post : Int32 → Int32 → (Nat → Int32) → Prop) : Prop := wpX8_leave 10 v_a0_left v_a0_numbers (fun _ u2_a0_left u3_a0_numbers => post v_a0_purse u2_a0_left u3_a0_numbers)
abbrev miX3_sizeBy : MI := (yX3_sizeBy, cX3_sizeBy, 2, (some .int))
theorem mfX3_sizeBy : MF miX3_sizeBy 1 := ⟨t4_89, t1_10, by decide +kernel⟩
abbrev rmX3_sizeBy_k1 : Room := { frames := 1, cells := 0, slots := 0, locals := 21 }
set_option maxHeartbeats 4000000 in
set_option maxRecDepth 100000 in
theorem ccX3_sizeBy_k1 (l : Launch) (D : va_G) (cy : Nat → ClassId) (pe : Pe) (a : Nat) (ha : a ∈ pe.1) (hk : (pe.2 a).1 = 1) (h_a0 : Nat) (h_a0_numbers : Nat) (v_a0_left : Int32) (v_a0_purse : Int32) (v_a0_memory : Int32) (v_a0_numbers : Nat → Int32) (post : Int32 → Int32 → (Nat → Int32) → Prop) (hF : wpX3_sizeBy_k1 v_a0_left v_a0_purse v_a0_numbers (pe.2 a) post) : Ct l D cy miX3_sizeBy rmX3_sizeBy_k1 emI pe [.ref a, .ref h_a0] [(h_a0, .inr (7, [.ref h_a0_numbers, .int v_a0_left, .int v_a0_purse, .int v_a0_memory])), (h_a0_numbers, .inl (cy 0, 16, .inl v_a0_numbers))] (fun r w1 => ∃ (w_a0_left : Int32) (w_a0_numbers : Nat → Int32), w1 = [(h_a0, .inr (7, [.ref h_a0_numbers, .int w_a0_left, .int v_a0_purse, .int v_a0_memory])), (h_a0_numbers, .inl (cy 0, 16, .inl w_a0_numbers))] ∧ post r w_a0_left w_a0_numbers) := by
  refine Ct.of (by decide) (Nat.le_of_ble_eq_true rfl) ?_
  intro p e s m args below meth c A ls Q C hQ hA hI hP hD hS hl
  obtain ⟨hx, hb, hr, hml, hown, hts, hK, hlk, hnm⟩ := id C
  have hb : c.code = cX3_sizeBy := hb
  have hml : c.maxLocals = 2 := hml
  have hown : s.vm.findClass RX3 = some m.cls := hown
  have hl : lv_has ls 2 [(0, .ref a), (1, .ref h_a0)] := hl
  unfold wpX3_sizeBy_k1 at hF
  refine lv_aload_n hx hb dX3_sizeBy_0 rfl (lv_at hl 1 rfl) ?_
  refine lv_bipush (v := 10) hx hb dX3_sizeBy_1 (by decide) ?_
  refine cV_t (As := [.int 10]) (wr := []) C hA hP hD hS mfX8_leave t4_51 t4_52 t4_73 (ccX8_leave l D cy h_a0 h_a0_numbers v_a0_left v_a0_purse v_a0_memory v_a0_numbers 10 _ hF) [0, 1] [] rfl rfl (by decide) (by decide) (by decide) PO.np 0 7 rfl rfl rfl rfl hl.1 rfl (Nat.le_of_ble_eq_true rfl) dX3_sizeBy_3 ⟨Nat.le_of_ble_eq_true rfl, Nat.le_of_ble_eq_true rfl⟩ ⟨Nat.le_of_ble_eq_true rfl, Nat.le_of_ble_eq_true rfl⟩ ?_
  rintro ⟨⟩ w1 H locs ⟨u2_a0_left, u3_a0_numbers, rfl, hF⟩ hP hD hS
  have hP : va_P D CL [(h_a0, .inr (7, [.ref h_a0_numbers, .int u2_a0_left, .int v_a0_purse, .int v_a0_memory])), (h_a0_numbers, .inl (cy 0, 16, .inl u3_a0_numbers))] H := hP
  have hD : va_D A [(h_a0, .inr (7, [.ref h_a0_numbers, .int u2_a0_left, .int v_a0_purse, .int v_a0_memory])), (h_a0_numbers, .inl (cy 0, 16, .inl u3_a0_numbers))] := hD
  refine W.eq (g2 := F0 m 6 ls []) rfl ?_
  refine lv_aload_n hx hb dX3_sizeBy_6 rfl (lv_at hl 1 rfl) ?_
  refine va_get (D := D) (ci := 7) (v := .int v_a0_purse) (C := RX8) (T := TX8) (N := 4) hx hb hts inTX8 hown hK.1 hP 0 rfl rfl 2 (by decide) (hts _ t1_165) (fun _ h9 => h9) rfl dX3_sizeBy_7 ?_
  exact rt_i C hQ rfl hP hD hS ⟨u2_a0_left, u3_a0_numbers, rfl, hF⟩ dX3_sizeBy_10

def wpX3_markBy_k1 (v_a0_left : Int32) (v_a0_numbers : Nat → Int32) (pt : PT) (post : Int32 → Int32 → (Nat → Int32) → Prop) : Prop := wpX8_leave 20 v_a0_left v_a0_numbers (fun _ u2_a0_left u3_a0_numbers => post pt.2.1 u2_a0_left u3_a0_numbers)
abbrev miX3_markBy : MI := (yX3_markBy, cX3_markBy, 2, (some .int))
theorem mfX3_markBy : MF miX3_markBy 1 := ⟨t4_72, t1_10, by decide +kernel⟩
abbrev rmX3_markBy_k1 : Room := { frames := 1, cells := 0, slots := 0, locals := 21 }
set_option maxHeartbeats 4000000 in
set_option maxRecDepth 100000 in
theorem ccX3_markBy_k1 (l : Launch) (D : va_G) (cy : Nat → ClassId) (pe : Pe) (a : Nat) (ha : a ∈ pe.1) (hk : (pe.2 a).1 = 1) (h_a0 : Nat) (h_a0_numbers : Nat) (v_a0_left : Int32) (v_a0_purse : Int32) (v_a0_memory : Int32) (v_a0_numbers : Nat → Int32) (post : Int32 → Int32 → (Nat → Int32) → Prop) (hF : wpX3_markBy_k1 v_a0_left v_a0_numbers (pe.2 a) post) : Ct l D cy miX3_markBy rmX3_markBy_k1 emI pe [.ref a, .ref h_a0] [(h_a0, .inr (7, [.ref h_a0_numbers, .int v_a0_left, .int v_a0_purse, .int v_a0_memory])), (h_a0_numbers, .inl (cy 0, 16, .inl v_a0_numbers))] (fun r w1 => ∃ (w_a0_left : Int32) (w_a0_numbers : Nat → Int32), w1 = [(h_a0, .inr (7, [.ref h_a0_numbers, .int w_a0_left, .int v_a0_purse, .int v_a0_memory])), (h_a0_numbers, .inl (cy 0, 16, .inl w_a0_numbers))] ∧ post r w_a0_left w_a0_numbers) := by
  refine Ct.of (by decide) (Nat.le_of_ble_eq_true rfl) ?_
  intro p e s m args below meth c A ls Q C hQ hA hI hP hD hS hl
  obtain ⟨hx, hb, hr, hml, hown, hts, hK, hlk, hnm⟩ := id C
  have hb : c.code = cX3_markBy := hb
  have hml : c.maxLocals = 2 := hml
  have hown : s.vm.findClass RX3 = some m.cls := hown
  have hl : lv_has ls 2 [(0, .ref a), (1, .ref h_a0)] := hl
  unfold wpX3_markBy_k1 at hF
  refine lv_aload_n hx hb dX3_markBy_0 rfl (lv_at hl 1 rfl) ?_
  refine lv_bipush (v := 20) hx hb dX3_markBy_1 (by decide) ?_
  refine cV_t (As := [.int 20]) (wr := []) C hA hP hD hS mfX8_leave t4_51 t4_52 t4_73 (ccX8_leave l D cy h_a0 h_a0_numbers v_a0_left v_a0_purse v_a0_memory v_a0_numbers 20 _ hF) [0, 1] [] rfl rfl (by decide) (by decide) (by decide) PO.np 0 7 rfl rfl rfl rfl hl.1 rfl (Nat.le_of_ble_eq_true rfl) dX3_markBy_3 ⟨Nat.le_of_ble_eq_true rfl, Nat.le_of_ble_eq_true rfl⟩ ⟨Nat.le_of_ble_eq_true rfl, Nat.le_of_ble_eq_true rfl⟩ ?_
  rintro ⟨⟩ w1 H locs ⟨u2_a0_left, u3_a0_numbers, rfl, hF⟩ hP hD hS
  have hP : va_P D CL [(h_a0, .inr (7, [.ref h_a0_numbers, .int u2_a0_left, .int v_a0_purse, .int v_a0_memory])), (h_a0_numbers, .inl (cy 0, 16, .inl u3_a0_numbers))] H := hP
  have hD : va_D A [(h_a0, .inr (7, [.ref h_a0_numbers, .int u2_a0_left, .int v_a0_purse, .int v_a0_memory])), (h_a0_numbers, .inl (cy 0, 16, .inl u3_a0_numbers))] := hD
  refine W.eq (g2 := F0 m 6 ls []) rfl ?_
  refine lv_aload_n hx hb dX3_markBy_6 rfl (lv_at hl 0 rfl) ?_
  refine pe_get0 C (hI.at hS) ha (hts _ t2_85) (fun _ h9 => h9) dX3_markBy_7 ?_
  exact rt_i C hQ rfl hP hD hS ⟨u2_a0_left, u3_a0_numbers, rfl, hF⟩ dX3_markBy_10

def wpX0_markBy_k1 (v_a0_left : Int32) (v_a0_memory : Int32) (v_a0_numbers : Nat → Int32) (pt : PT) (post : Int32 → Int32 → (Nat → Int32) → Prop) : Prop := wpX8_leave 21 v_a0_left v_a0_numbers (fun _ u2_a0_left u3_a0_numbers => wpX3_markBy_k1 u2_a0_left u3_a0_numbers pt (fun r4 u5_a0_left u6_a0_numbers => post (r4 + v_a0_memory) u5_a0_left u6_a0_numbers))
abbrev miX0_markBy : MI := (yX0_markBy, cX0_markBy, 2, (some .int))
theorem mfX0_markBy : MF miX0_markBy 1 := ⟨t4_69, t1_11, by decide +kernel⟩
abbrev rmX0_markBy_k1 : Room := { frames := 2, cells := 0, slots := 0, locals := 42 }
set_option maxHeartbeats 4000000 in
set_option maxRecDepth 100000 in
theorem ccX0_markBy_k1 (l : Launch) (D : va_G) (cy : Nat → ClassId) (pe : Pe) (a : Nat) (ha : a ∈ pe.1) (hk : (pe.2 a).1 = 1) (h_a0 : Nat) (h_a0_numbers : Nat) (v_a0_left : Int32) (v_a0_purse : Int32) (v_a0_memory : Int32) (v_a0_numbers : Nat → Int32) (post : Int32 → Int32 → (Nat → Int32) → Prop) (hF : wpX0_markBy_k1 v_a0_left v_a0_memory v_a0_numbers (pe.2 a) post) : Ct l D cy miX0_markBy rmX0_markBy_k1 emI pe [.ref a, .ref h_a0] [(h_a0, .inr (7, [.ref h_a0_numbers, .int v_a0_left, .int v_a0_purse, .int v_a0_memory])), (h_a0_numbers, .inl (cy 0, 16, .inl v_a0_numbers))] (fun r w1 => ∃ (w_a0_left : Int32) (w_a0_numbers : Nat → Int32), w1 = [(h_a0, .inr (7, [.ref h_a0_numbers, .int w_a0_left, .int v_a0_purse, .int v_a0_memory])), (h_a0_numbers, .inl (cy 0, 16, .inl w_a0_numbers))] ∧ post r w_a0_left w_a0_numbers) := by
  refine Ct.of (by decide) (Nat.le_of_ble_eq_true rfl) ?_
  intro p e s m args below meth c A ls Q C hQ hA hI hP hD hS hl
  obtain ⟨hx, hb, hr, hml, hown, hts, hK, hlk, hnm⟩ := id C
  have hb : c.code = cX0_markBy := hb
  have hml : c.maxLocals = 2 := hml
  have hown : s.vm.findClass RX0 = some m.cls := hown
  have hl : lv_has ls 2 [(0, .ref a), (1, .ref h_a0)] := hl
  unfold wpX0_markBy_k1 at hF
  refine lv_aload_n hx hb dX0_markBy_0 rfl (lv_at hl 1 rfl) ?_
  refine lv_bipush (v := 21) hx hb dX0_markBy_1 (by decide) ?_
  refine cV_t (As := [.int 21]) (wr := []) C hA hP hD hS mfX8_leave t4_51 t4_52 t4_50 (ccX8_leave l D cy h_a0 h_a0_numbers v_a0_left v_a0_purse v_a0_memory v_a0_numbers 21 _ hF) [0, 1] [] rfl rfl (by decide) (by decide) (by decide) PO.np 0 7 rfl rfl rfl rfl hl.1 rfl (Nat.le_of_ble_eq_true rfl) dX0_markBy_3 ⟨Nat.le_of_ble_eq_true rfl, Nat.le_of_ble_eq_true rfl⟩ ⟨Nat.le_of_ble_eq_true rfl, Nat.le_of_ble_eq_true rfl⟩ ?_
  rintro ⟨⟩ w1 H locs ⟨u2_a0_left, u3_a0_numbers, rfl, hF⟩ hP hD hS
  have hP : va_P D CL [(h_a0, .inr (7, [.ref h_a0_numbers, .int u2_a0_left, .int v_a0_purse, .int v_a0_memory])), (h_a0_numbers, .inl (cy 0, 16, .inl u3_a0_numbers))] H := hP
  have hD : va_D A [(h_a0, .inr (7, [.ref h_a0_numbers, .int u2_a0_left, .int v_a0_purse, .int v_a0_memory])), (h_a0_numbers, .inl (cy 0, 16, .inl u3_a0_numbers))] := hD
  refine W.eq (g2 := F0 m 6 ls []) rfl ?_
  refine lv_aload_n hx hb dX0_markBy_6 rfl (lv_at hl 0 rfl) ?_
  refine lv_aload_n hx hb dX0_markBy_7 rfl (lv_at hl 1 rfl) ?_
  refine cX_t (As := [.ref h_a0]) (wr := []) C hA hP hD hS (hI.at hS) ha mfX3_markBy t4_71 t4_70 t6_11 t2_102 (by decide) (ccX3_markBy_k1 l D cy pe a ha hk h_a0 h_a0_numbers u2_a0_left v_a0_purse v_a0_memory u3_a0_numbers _ hF) [0, 1] [] rfl rfl (by decide) (by decide) (by decide) (hI.po hS hD [0, 1] rfl) rfl hl.1 rfl (Nat.le_of_ble_eq_true rfl) dX0_markBy_8 ⟨Nat.le_of_ble_eq_true rfl, Nat.le_of_ble_eq_true rfl⟩ ⟨Nat.le_of_ble_eq_true rfl, Nat.le_of_ble_eq_true rfl⟩ ?_
  rintro r4 w1 H locs ⟨u5_a0_left, u6_a0_numbers, rfl, hF⟩ hP hD hS
  have hP : va_P D CL [(h_a0, .inr (7, [.ref h_a0_numbers, .int u5_a0_left, .int v_a0_purse, .int v_a0_memory])), (h_a0_numbers, .inl (cy 0, 16, .inl u6_a0_numbers))] H := hP
  have hD : va_D A [(h_a0, .inr (7, [.ref h_a0_numbers, .int u5_a0_left, .int v_a0_purse, .int v_a0_memory])), (h_a0_numbers, .inl (cy 0, 16, .inl u6_a0_numbers))] := hD
  refine W.eq (g2 := F0 m 11 ls [.int r4]) rfl ?_
  refine lv_aload_n hx hb dX0_markBy_11 rfl (lv_at hl 1 rfl) ?_
  refine va_get (D := D) (ci := 7) (v := .int v_a0_memory) (C := RX8) (T := TX8) (N := 4) hx hb hts inTX8 hown hK.1 hP 0 rfl rfl 3 (by decide) (hts _ t1_167) (fun _ h9 => h9) rfl dX0_markBy_12 ?_
  refine lv_iadd hx hb dX0_markBy_15 ?_
  exact rt_i C hQ rfl hP hD hS ⟨u5_a0_left, u6_a0_numbers, rfl, hF⟩ dX0_markBy_16

def wpX0_sizeBy_k1 (v_a0_left : Int32) (v_a0_purse : Int32) (v_a0_memory : Int32) (v_a0_numbers : Nat → Int32) (pt : PT) (post : Int32 → Int32 → (Nat → Int32) → Prop) : Prop := wpX8_leave 11 v_a0_left v_a0_numbers (fun _ u2_a0_left u3_a0_numbers => wpX3_sizeBy_k1 u2_a0_left v_a0_purse u3_a0_numbers pt (fun r4 u5_a0_left u6_a0_numbers => wpX0_markBy_k1 u5_a0_left v_a0_memory u6_a0_numbers pt (fun r7 u8_a0_left u9_a0_numbers => post (r4 + r7) u8_a0_left u9_a0_numbers)))
abbrev miX0_sizeBy : MI := (yX0_sizeBy, cX0_sizeBy, 3, (some .int))
theorem mfX0_sizeBy : MF miX0_sizeBy 1 := ⟨t4_49, t1_11, by decide +kernel⟩
abbrev rmX0_sizeBy_k1 : Room := { frames := 3, cells := 0, slots := 0, locals := 63 }
set_option maxHeartbeats 4000000 in
set_option maxRecDepth 100000 in
theorem ccX0_sizeBy_k1 (l : Launch) (D : va_G) (cy : Nat → ClassId) (pe : Pe) (a : Nat) (ha : a ∈ pe.1) (hk : (pe.2 a).1 = 1) (h_a0 : Nat) (h_a0_numbers : Nat) (v_a0_left : Int32) (v_a0_purse : Int32) (v_a0_memory : Int32) (v_a0_numbers : Nat → Int32) (post : Int32 → Int32 → (Nat → Int32) → Prop) (hF : wpX0_sizeBy_k1 v_a0_left v_a0_purse v_a0_memory v_a0_numbers (pe.2 a) post) : Ct l D cy miX0_sizeBy rmX0_sizeBy_k1 emI pe [.ref a, .ref h_a0] [(h_a0, .inr (7, [.ref h_a0_numbers, .int v_a0_left, .int v_a0_purse, .int v_a0_memory])), (h_a0_numbers, .inl (cy 0, 16, .inl v_a0_numbers))] (fun r w1 => ∃ (w_a0_left : Int32) (w_a0_numbers : Nat → Int32), w1 = [(h_a0, .inr (7, [.ref h_a0_numbers, .int w_a0_left, .int v_a0_purse, .int v_a0_memory])), (h_a0_numbers, .inl (cy 0, 16, .inl w_a0_numbers))] ∧ post r w_a0_left w_a0_numbers) := by
  refine Ct.of (by decide) (Nat.le_of_ble_eq_true rfl) ?_
  intro p e s m args below meth c A ls Q C hQ hA hI hP hD hS hl
  obtain ⟨hx, hb, hr, hml, hown, hts, hK, hlk, hnm⟩ := id C
  have hb : c.code = cX0_sizeBy := hb
  have hml : c.maxLocals = 3 := hml
  have hown : s.vm.findClass RX0 = some m.cls := hown
  have hl : lv_has ls 3 [(0, .ref a), (1, .ref h_a0)] := hl
  unfold wpX0_sizeBy_k1 at hF
  refine lv_aload_n hx hb dX0_sizeBy_0 rfl (lv_at hl 1 rfl) ?_
  refine lv_bipush (v := 11) hx hb dX0_sizeBy_1 (by decide) ?_
  refine cV_t (As := [.int 11]) (wr := []) C hA hP hD hS mfX8_leave t4_51 t4_52 t4_50 (ccX8_leave l D cy h_a0 h_a0_numbers v_a0_left v_a0_purse v_a0_memory v_a0_numbers 11 _ hF) [0, 1] [] rfl rfl (by decide) (by decide) (by decide) PO.np 0 7 rfl rfl rfl rfl hl.1 rfl (Nat.le_of_ble_eq_true rfl) dX0_sizeBy_3 ⟨Nat.le_of_ble_eq_true rfl, Nat.le_of_ble_eq_true rfl⟩ ⟨Nat.le_of_ble_eq_true rfl, Nat.le_of_ble_eq_true rfl⟩ ?_
  rintro ⟨⟩ w1 H locs ⟨u2_a0_left, u3_a0_numbers, rfl, hF⟩ hP hD hS
  have hP : va_P D CL [(h_a0, .inr (7, [.ref h_a0_numbers, .int u2_a0_left, .int v_a0_purse, .int v_a0_memory])), (h_a0_numbers, .inl (cy 0, 16, .inl u3_a0_numbers))] H := hP
  have hD : va_D A [(h_a0, .inr (7, [.ref h_a0_numbers, .int u2_a0_left, .int v_a0_purse, .int v_a0_memory])), (h_a0_numbers, .inl (cy 0, 16, .inl u3_a0_numbers))] := hD
  refine W.eq (g2 := F0 m 6 ls []) rfl ?_
  refine lv_aload_n hx hb dX0_sizeBy_6 rfl (lv_at hl 0 rfl) ?_
  refine lv_aload_n hx hb dX0_sizeBy_7 rfl (lv_at hl 1 rfl) ?_
  refine cX_t (As := [.ref h_a0]) (wr := []) C hA hP hD hS (hI.at hS) ha mfX3_sizeBy t4_45 t4_54 t4_46 t2_102 (by decide) (ccX3_sizeBy_k1 l D cy pe a ha hk h_a0 h_a0_numbers u2_a0_left v_a0_purse v_a0_memory u3_a0_numbers _ hF) [0, 1] [] rfl rfl (by decide) (by decide) (by decide) (hI.po hS hD [0, 1] rfl) rfl hl.1 rfl (Nat.le_of_ble_eq_true rfl) dX0_sizeBy_8 ⟨Nat.le_of_ble_eq_true rfl, Nat.le_of_ble_eq_true rfl⟩ ⟨Nat.le_of_ble_eq_true rfl, Nat.le_of_ble_eq_true rfl⟩ ?_
  rintro r4 w1 H locs ⟨u5_a0_left, u6_a0_numbers, rfl, hF⟩ hP hD hS
  have hP : va_P D CL [(h_a0, .inr (7, [.ref h_a0_numbers, .int u5_a0_left, .int v_a0_purse, .int v_a0_memory])), (h_a0_numbers, .inl (cy 0, 16, .inl u6_a0_numbers))] H := hP
  have hD : va_D A [(h_a0, .inr (7, [.ref h_a0_numbers, .int u5_a0_left, .int v_a0_purse, .int v_a0_memory])), (h_a0_numbers, .inl (cy 0, 16, .inl u6_a0_numbers))] := hD
  refine W.eq (g2 := F0 m 11 ls [.int r4]) rfl ?_
  refine lv_istore_n (lv' := [(2, .int r4), (0, .ref a), (1, .ref h_a0)]) hx hb dX0_sizeBy_11 rfl hl (by decide) rfl (fun ls hl => ?_)
  refine lv_iload_n hx hb dX0_sizeBy_12 rfl (lv_at hl 0 rfl) ?_
  refine lv_aload_n hx hb dX0_sizeBy_13 rfl (lv_at hl 1 rfl) ?_
  refine lv_aload_n hx hb dX0_sizeBy_14 rfl (lv_at hl 2 rfl) ?_
  refine cU_t (As := [.ref h_a0]) (wr := []) C hA hP hD hS (hI.at hS) ha hk ⟨"LivedAgain$Farmer", "markBy", "(LLivedAgain$Trace;)I"⟩ "LivedAgain$Farmer" mfX0_markBy t4_56 t4_55 t4_58 (va_Decl.of (hts _ t4_56) (hts _ t4_69)) t4_57 (by decide +kernel) (ccX0_markBy_k1 l D cy pe a ha hk h_a0 h_a0_numbers u5_a0_left v_a0_purse v_a0_memory u6_a0_numbers _ hF) [0, 1] [] rfl rfl (by decide) (by decide) (by decide) (hI.po hS hD [0, 1] rfl) rfl hl.1 rfl (Nat.le_of_ble_eq_true rfl) dX0_sizeBy_15 ⟨Nat.le_of_ble_eq_true rfl, Nat.le_of_ble_eq_true rfl⟩ ⟨Nat.le_of_ble_eq_true rfl, Nat.le_of_ble_eq_true rfl⟩ ?_
  rintro r7 w1 H locs ⟨u8_a0_left, u9_a0_numbers, rfl, hF⟩ hP hD hS
  have hP : va_P D CL [(h_a0, .inr (7, [.ref h_a0_numbers, .int u8_a0_left, .int v_a0_purse, .int v_a0_memory])), (h_a0_numbers, .inl (cy 0, 16, .inl u9_a0_numbers))] H := hP
  have hD : va_D A [(h_a0, .inr (7, [.ref h_a0_numbers, .int u8_a0_left, .int v_a0_purse, .int v_a0_memory])), (h_a0_numbers, .inl (cy 0, 16, .inl u9_a0_numbers))] := hD
  refine W.eq (g2 := F0 m 18 ls [.int r7, .int r4]) rfl ?_
  refine lv_iadd hx hb dX0_sizeBy_18 ?_
  exact rt_i C hQ rfl hP hD hS ⟨u8_a0_left, u9_a0_numbers, rfl, hF⟩ dX0_sizeBy_19

def wpX3_helpOf_k2 (p0 : Int32) (pt : PT) (post : Int32 → Prop) : Prop := post p0
abbrev rmX3_helpOf_k2 : Room := { frames := 0, cells := 0, slots := 0, locals := 0 }
set_option maxHeartbeats 4000000 in
set_option maxRecDepth 100000 in
theorem ccX3_helpOf_k2 (l : Launch) (D : va_G) (cy : Nat → ClassId) (pe : Pe) (a : Nat) (ha : a ∈ pe.1) (hk : (pe.2 a).1 = 2) (p0 : Int32) (post : Int32 → Prop) (hF : wpX3_helpOf_k2 p0 (pe.2 a) post) : Cr l D cy miX3_helpOf rmX3_helpOf_k2 emI pe [.ref a, .int p0] [] post := by
  refine Cr.of (by decide) (Nat.le_of_ble_eq_true rfl) ?_
  intro p e s m args below meth c ls Q C hQ hO hP hl
  obtain ⟨hx, hb, hr, hml, hown, hts, hK, hlk, hnm⟩ := id C
  have hb : c.code = cX3_helpOf := hb
  have hml : c.maxLocals = 2 := hml
  have hown : s.vm.findClass RX3 = some m.cls := hown
  have hl : lv_has ls 2 [(0, .ref a), (1, .int p0)] := hl
  unfold wpX3_helpOf_k2 at hF
  refine lv_iload_n hx hb dX3_helpOf_0 rfl (lv_at hl 1 rfl) ?_
  exact rr_i C hQ rfl hF dX3_helpOf_1

def wpX3_bringsBy_k2 (p0 : Bool) (pt : PT) (post : Int32 → Prop) : Prop := (p0 = false → (post (-pt.2.2.2.2))) ∧ (p0 = true → (post pt.2.2.2.1))
abbrev rmX3_bringsBy_k2 : Room := { frames := 0, cells := 0, slots := 0, locals := 0 }
set_option maxHeartbeats 4000000 in
set_option maxRecDepth 100000 in
theorem ccX3_bringsBy_k2 (l : Launch) (D : va_G) (cy : Nat → ClassId) (pe : Pe) (a : Nat) (ha : a ∈ pe.1) (hk : (pe.2 a).1 = 2) (p0 : Bool) (post : Int32 → Prop) (hF : wpX3_bringsBy_k2 p0 (pe.2 a) post) : Cr l D cy miX3_bringsBy rmX3_bringsBy_k2 emI pe [.ref a, .int (bz p0)] [] post := by
  refine Cr.of (by decide) (Nat.le_of_ble_eq_true rfl) ?_
  intro p e s m args below meth c ls Q C hQ hO hP hl
  obtain ⟨hx, hb, hr, hml, hown, hts, hK, hlk, hnm⟩ := id C
  have hb : c.code = cX3_bringsBy := hb
  have hml : c.maxLocals = 2 := hml
  have hown : s.vm.findClass RX3 = some m.cls := hown
  have hl : lv_has ls 2 [(0, .ref a), (1, .int (bz p0))] := hl
  unfold wpX3_bringsBy_k2 at hF
  refine lv_iload_n hx hb dX3_bringsBy_0 rfl (lv_at hl 1 rfl) ?_
  refine lv_if_eq (tgt := 11) hx hb dX3_bringsBy_1 (by decide) (fun c_ => ?_) (fun c_ => ?_)
  · have hF := hF.1 ((bz_0 _).mp c_)
    refine lv_aload_n hx hb dX3_bringsBy_11 rfl (lv_at hl 0 rfl) ?_
    refine pe_get3 C hO ha (hts _ t2_92) (fun _ h9 => h9) dX3_bringsBy_12 ?_
    refine lv_ineg hx hb dX3_bringsBy_15 ?_
    exact rr_i C hQ rfl hF dX3_bringsBy_16
  · have hF := hF.2 ((bz_1 _).mp c_)
    refine lv_aload_n hx hb dX3_bringsBy_4 rfl (lv_at hl 0 rfl) ?_
    refine pe_get2 C hO ha (hts _ t2_88) (fun _ h9 => h9) dX3_bringsBy_5 ?_
    refine lv_goto (tgt := 16) hx hb dX3_bringsBy_8 (by decide) ?_
    exact rr_i C hQ rfl hF dX3_bringsBy_16

def wpX2_bringsBy_k2 (p0 : Bool) (pt : PT) (post : Int32 → Prop) : Prop := wpX3_bringsBy_k2 p0 pt (fun r1 => post (2 * r1))
abbrev miX2_bringsBy : MI := (yX2_bringsBy, cX2_bringsBy, 2, (some .int))
theorem mfX2_bringsBy : MF miX2_bringsBy 1 := ⟨t3_26, t1_12, by decide +kernel⟩
abbrev rmX2_bringsBy_k2 : Room := { frames := 1, cells := 0, slots := 0, locals := 21 }
set_option maxHeartbeats 4000000 in
set_option maxRecDepth 100000 in
theorem ccX2_bringsBy_k2 (l : Launch) (D : va_G) (cy : Nat → ClassId) (pe : Pe) (a : Nat) (ha : a ∈ pe.1) (hk : (pe.2 a).1 = 2) (p0 : Bool) (post : Int32 → Prop) (hF : wpX2_bringsBy_k2 p0 (pe.2 a) post) : Cr l D cy miX2_bringsBy rmX2_bringsBy_k2 emI pe [.ref a, .int (bz p0)] [] post := by
  refine Cr.of (by decide) (Nat.le_of_ble_eq_true rfl) ?_
  intro p e s m args below meth c ls Q C hQ hO hP hl
  obtain ⟨hx, hb, hr, hml, hown, hts, hK, hlk, hnm⟩ := id C
  have hb : c.code = cX2_bringsBy := hb
  have hml : c.maxLocals = 2 := hml
  have hown : s.vm.findClass RX2 = some m.cls := hown
  have hl : lv_has ls 2 [(0, .ref a), (1, .int (bz p0))] := hl
  unfold wpX2_bringsBy_k2 at hF
  refine lv_iconst (v := 2) hx hb dX2_bringsBy_0 (by decide) ?_
  refine lv_aload_n hx hb dX2_bringsBy_1 rfl (lv_at hl 0 rfl) ?_
  refine lv_iload_n hx hb dX2_bringsBy_2 rfl (lv_at hl 1 rfl) ?_
  refine cY_r (As := [.int (bz p0)]) C hO ha ⟨"LivedAgain$Farmer", "bringsBy", "(Z)I"⟩ mfX3_bringsBy t3_21 t3_27 t3_28 rfl t2_113 t2_102 (by decide) (ccX3_bringsBy_k2 l D cy pe a ha hk p0 _ hF) rfl rfl rfl hl.1 rfl (Nat.le_of_ble_eq_true rfl) dX2_bringsBy_3 ⟨Nat.le_of_ble_eq_true rfl, Nat.le_of_ble_eq_true rfl⟩ ⟨Nat.le_of_ble_eq_true rfl, Nat.le_of_ble_eq_true rfl⟩ ?_
  intro r1 hF
  refine W.eq (g2 := F0 m 6 ls [.int r1, .int 2]) rfl ?_
  refine lv_imul hx hb dX2_bringsBy_6 ?_
  exact rr_i C hQ rfl hF dX2_bringsBy_7

def wpX3_beginsWithRight_k2 (pt : PT) (post : Bool → Prop) : Prop := post true
abbrev rmX3_beginsWithRight_k2 : Room := { frames := 0, cells := 0, slots := 0, locals := 0 }
set_option maxHeartbeats 4000000 in
set_option maxRecDepth 100000 in
theorem ccX3_beginsWithRight_k2 (l : Launch) (D : va_G) (cy : Nat → ClassId) (pe : Pe) (a : Nat) (ha : a ∈ pe.1) (hk : (pe.2 a).1 = 2) (post : Bool → Prop) (hF : wpX3_beginsWithRight_k2 (pe.2 a) post) : Cr l D cy miX3_beginsWithRight rmX3_beginsWithRight_k2 emB pe [.ref a] [] post := by
  refine Cr.of (by decide) (Nat.le_of_ble_eq_true rfl) ?_
  intro p e s m args below meth c ls Q C hQ hO hP hl
  obtain ⟨hx, hb, hr, hml, hown, hts, hK, hlk, hnm⟩ := id C
  have hb : c.code = cX3_beginsWithRight := hb
  have hml : c.maxLocals = 1 := hml
  have hown : s.vm.findClass RX3 = some m.cls := hown
  have hl : lv_has ls 1 [(0, .ref a)] := hl
  unfold wpX3_beginsWithRight_k2 at hF
  refine lv_iconst (v := 1) hx hb dX3_beginsWithRight_0 (by decide) ?_
  refine W.eq (g2 := F0 m 1 ls [.int (bz true)]) rfl ?_
  exact rr_b C hQ rfl hF dX3_beginsWithRight_1

def wpX3_mayUseRight_k2 (pt : PT) (post : Bool → Prop) : Prop := post true
abbrev rmX3_mayUseRight_k2 : Room := { frames := 0, cells := 0, slots := 0, locals := 0 }
set_option maxHeartbeats 4000000 in
set_option maxRecDepth 100000 in
theorem ccX3_mayUseRight_k2 (l : Launch) (D : va_G) (cy : Nat → ClassId) (pe : Pe) (a : Nat) (ha : a ∈ pe.1) (hk : (pe.2 a).1 = 2) (post : Bool → Prop) (hF : wpX3_mayUseRight_k2 (pe.2 a) post) : Cr l D cy miX3_mayUseRight rmX3_mayUseRight_k2 emB pe [.ref a] [] post := by
  refine Cr.of (by decide) (Nat.le_of_ble_eq_true rfl) ?_
  intro p e s m args below meth c ls Q C hQ hO hP hl
  obtain ⟨hx, hb, hr, hml, hown, hts, hK, hlk, hnm⟩ := id C
  have hb : c.code = cX3_mayUseRight := hb
  have hml : c.maxLocals = 1 := hml
  have hown : s.vm.findClass RX3 = some m.cls := hown
  have hl : lv_has ls 1 [(0, .ref a)] := hl
  unfold wpX3_mayUseRight_k2 at hF
  refine lv_iconst (v := 1) hx hb dX3_mayUseRight_0 (by decide) ?_
  refine W.eq (g2 := F0 m 1 ls [.int (bz true)]) rfl ?_
  exact rr_b C hQ rfl hF dX3_mayUseRight_1

def wpX2_ownKind_k2 (pt : PT) (post : Int32 → Prop) : Prop := post 2
abbrev miX2_ownKind : MI := (yX2_ownKind, cX2_ownKind, 1, (some .int))
theorem mfX2_ownKind : MF miX2_ownKind 0 := ⟨t4_14, t1_12, by decide +kernel⟩
abbrev rmX2_ownKind_k2 : Room := { frames := 0, cells := 0, slots := 0, locals := 0 }
set_option maxHeartbeats 4000000 in
set_option maxRecDepth 100000 in
theorem ccX2_ownKind_k2 (l : Launch) (D : va_G) (cy : Nat → ClassId) (pe : Pe) (a : Nat) (ha : a ∈ pe.1) (hk : (pe.2 a).1 = 2) (post : Int32 → Prop) (hF : wpX2_ownKind_k2 (pe.2 a) post) : Cr l D cy miX2_ownKind rmX2_ownKind_k2 emI pe [.ref a] [] post := by
  refine Cr.of (by decide) (Nat.le_of_ble_eq_true rfl) ?_
  intro p e s m args below meth c ls Q C hQ hO hP hl
  obtain ⟨hx, hb, hr, hml, hown, hts, hK, hlk, hnm⟩ := id C
  have hb : c.code = cX2_ownKind := hb
  have hml : c.maxLocals = 1 := hml
  have hown : s.vm.findClass RX2 = some m.cls := hown
  have hl : lv_has ls 1 [(0, .ref a)] := hl
  unfold wpX2_ownKind_k2 at hF
  refine lv_iconst (v := 2) hx hb dX2_ownKind_0 (by decide) ?_
  exact rr_i C hQ rfl hF dX2_ownKind_1

def wpX3_oddsBy_k2 (p0 : Int32) (pt : PT) (post : Int32 → Prop) : Prop := wpX3_helpOf_k2 p0 pt (fun r1 => post (if (pt.2.2.1 + r1) < 10 then (pt.2.2.1 + r1) else 10))
abbrev rmX3_oddsBy_k2 : Room := { frames := 1, cells := 0, slots := 0, locals := 21 }
set_option maxHeartbeats 4000000 in
set_option maxRecDepth 100000 in
theorem ccX3_oddsBy_k2 (l : Launch) (D : va_G) (cy : Nat → ClassId) (pe : Pe) (a : Nat) (ha : a ∈ pe.1) (hk : (pe.2 a).1 = 2) (p0 : Int32) (post : Int32 → Prop) (hF : wpX3_oddsBy_k2 p0 (pe.2 a) post) : Cr l D cy miX3_oddsBy rmX3_oddsBy_k2 emI pe [.ref a, .int p0] [] post := by
  refine Cr.of (by decide) (Nat.le_of_ble_eq_true rfl) ?_
  intro p e s m args below meth c ls Q C hQ hO hP hl
  obtain ⟨hx, hb, hr, hml, hown, hts, hK, hlk, hnm⟩ := id C
  have hb : c.code = cX3_oddsBy := hb
  have hml : c.maxLocals = 2 := hml
  have hown : s.vm.findClass RX3 = some m.cls := hown
  have hl : lv_has ls 2 [(0, .ref a), (1, .int p0)] := hl
  unfold wpX3_oddsBy_k2 at hF
  refine lv_bipush (v := 10) hx hb dX3_oddsBy_0 (by decide) ?_
  refine lv_aload_n hx hb dX3_oddsBy_2 rfl (lv_at hl 0 rfl) ?_
  refine pe_get1 C hO ha (hts _ t2_86) (fun _ h9 => h9) dX3_oddsBy_3 ?_
  refine lv_aload_n hx hb dX3_oddsBy_6 rfl (lv_at hl 0 rfl) ?_
  refine lv_iload_n hx hb dX3_oddsBy_7 rfl (lv_at hl 1 rfl) ?_
  refine cU_r (As := [.int p0]) C hO ha hk ⟨"LivedAgain$Person", "helpOf", "(I)I"⟩ "LivedAgain$Person" mfX3_helpOf t2_211 t2_210 t2_212 (va_Decl.of (hts _ t2_211) (hts _ t2_220)) t2_214 (by decide +kernel) (ccX3_helpOf_k2 l D cy pe a ha hk p0 _ hF) rfl rfl rfl hl.1 rfl (Nat.le_of_ble_eq_true rfl) dX3_oddsBy_8 ⟨Nat.le_of_ble_eq_true rfl, Nat.le_of_ble_eq_true rfl⟩ ⟨Nat.le_of_ble_eq_true rfl, Nat.le_of_ble_eq_true rfl⟩ ?_
  intro r1 hF
  refine W.eq (g2 := F0 m 11 ls [.int r1, .int ((pe.2 a).2.2.1), .int 10]) rfl ?_
  refine lv_iadd hx hb dX3_oddsBy_11 ?_
  refine va_mmin hx hb (hml.trans hl.1.symm) hown (hts _ t2_221) (hts _ t2_153) (hts _ t1_16) (hts _ t2_154) (by decide) (Nat.le_of_ble_eq_true rfl) (by decide) (by decide) dX3_oddsBy_12 ?_
  exact rr_i C hQ rfl hF dX3_oddsBy_15

def wpX3_waysToGo_k2 (p0 : Int32) (p1 : Bool) (pt : PT) (post : Int32 → Prop) : Prop := wpX3_oddsBy_k2 p0 pt (fun r1 => (p1 = false → (post (10 - r1))) ∧ (p1 = true → (post r1)))
abbrev rmX3_waysToGo_k2 : Room := { frames := 2, cells := 0, slots := 0, locals := 42 }
set_option maxHeartbeats 4000000 in
set_option maxRecDepth 100000 in
theorem ccX3_waysToGo_k2 (l : Launch) (D : va_G) (cy : Nat → ClassId) (pe : Pe) (a : Nat) (ha : a ∈ pe.1) (hk : (pe.2 a).1 = 2) (p0 : Int32) (p1 : Bool) (post : Int32 → Prop) (hF : wpX3_waysToGo_k2 p0 p1 (pe.2 a) post) : Cr l D cy miX3_waysToGo rmX3_waysToGo_k2 emI pe [.ref a, .int p0, .int (bz p1)] [] post := by
  refine Cr.of (by decide) (Nat.le_of_ble_eq_true rfl) ?_
  intro p e s m args below meth c ls Q C hQ hO hP hl
  obtain ⟨hx, hb, hr, hml, hown, hts, hK, hlk, hnm⟩ := id C
  have hb : c.code = cX3_waysToGo := hb
  have hml : c.maxLocals = 4 := hml
  have hown : s.vm.findClass RX3 = some m.cls := hown
  have hl : lv_has ls 4 [(0, .ref a), (1, .int p0), (2, .int (bz p1))] := hl
  unfold wpX3_waysToGo_k2 at hF
  refine lv_aload_n hx hb dX3_waysToGo_0 rfl (lv_at hl 0 rfl) ?_
  refine lv_iload_n hx hb dX3_waysToGo_1 rfl (lv_at hl 1 rfl) ?_
  refine cU_r (As := [.int p0]) C hO ha hk ⟨"LivedAgain$Person", "oddsBy", "(I)I"⟩ "LivedAgain$Person" mfX3_oddsBy t2_202 t3_105 t2_203 (va_Decl.of (hts _ t2_202) (hts _ t2_209)) t2_205 (by decide +kernel) (ccX3_oddsBy_k2 l D cy pe a ha hk p0 _ hF) rfl rfl rfl hl.1 rfl (Nat.le_of_ble_eq_true rfl) dX3_waysToGo_2 ⟨Nat.le_of_ble_eq_true rfl, Nat.le_of_ble_eq_true rfl⟩ ⟨Nat.le_of_ble_eq_true rfl, Nat.le_of_ble_eq_true rfl⟩ ?_
  intro r1 hF
  refine W.eq (g2 := F0 m 5 ls [.int r1]) rfl ?_
  refine lv_istore_n (lv' := [(3, .int r1), (0, .ref a), (1, .int p0), (2, .int (bz p1))]) hx hb dX3_waysToGo_5 rfl hl (by decide) rfl (fun ls hl => ?_)
  refine lv_iload_n hx hb dX3_waysToGo_6 rfl (lv_at hl 3 rfl) ?_
  refine lv_if_eq (tgt := 14) hx hb dX3_waysToGo_7 (by decide) (fun c_ => ?_) (fun c_ => ?_)
  · have hF := hF.1 ((bz_0 _).mp c_)
    refine lv_bipush (v := 10) hx hb dX3_waysToGo_14 (by decide) ?_
    refine lv_iload_n hx hb dX3_waysToGo_16 rfl (lv_at hl 0 rfl) ?_
    refine lv_isub hx hb dX3_waysToGo_17 ?_
    exact rr_i C hQ rfl hF dX3_waysToGo_18
  · have hF := hF.2 ((bz_1 _).mp c_)
    refine lv_iload_n hx hb dX3_waysToGo_10 rfl (lv_at hl 0 rfl) ?_
    refine lv_goto (tgt := 18) hx hb dX3_waysToGo_11 (by decide) ?_
    exact rr_i C hQ rfl hF dX3_waysToGo_18

def wpX3_meanTenths_k2 (p0 : Int32) (pt : PT) (post : Int64 → Prop) : Prop := wpX3_waysToGo_k2 p0 true pt (fun r1 => wpX2_bringsBy_k2 true pt (fun r2 => wpX3_waysToGo_k2 p0 false pt (fun r3 => wpX2_bringsBy_k2 false pt (fun r4 => post ((((r1).toInt64) * ((r2).toInt64)) + (((r3).toInt64) * ((r4).toInt64)))))))
abbrev rmX3_meanTenths_k2 : Room := { frames := 3, cells := 0, slots := 0, locals := 65 }
set_option maxHeartbeats 4000000 in
set_option maxRecDepth 100000 in
theorem ccX3_meanTenths_k2 (l : Launch) (D : va_G) (cy : Nat → ClassId) (pe : Pe) (a : Nat) (ha : a ∈ pe.1) (hk : (pe.2 a).1 = 2) (p0 : Int32) (post : Int64 → Prop) (hF : wpX3_meanTenths_k2 p0 (pe.2 a) post) : Cr l D cy miX3_meanTenths rmX3_meanTenths_k2 emL pe [.ref a, .int p0] [] post := by
  refine Cr.of (by decide) (Nat.le_of_ble_eq_true rfl) ?_
  intro p e s m args below meth c ls Q C hQ hO hP hl
  obtain ⟨hx, hb, hr, hml, hown, hts, hK, hlk, hnm⟩ := id C
  have hb : c.code = cX3_meanTenths := hb
  have hml : c.maxLocals = 2 := hml
  have hown : s.vm.findClass RX3 = some m.cls := hown
  have hl : lv_has ls 2 [(0, .ref a), (1, .int p0)] := hl
  unfold wpX3_meanTenths_k2 at hF
  refine lv_aload_n hx hb dX3_meanTenths_0 rfl (lv_at hl 0 rfl) ?_
  refine lv_iload_n hx hb dX3_meanTenths_1 rfl (lv_at hl 1 rfl) ?_
  refine lv_iconst (v := 1) hx hb dX3_meanTenths_2 (by decide) ?_
  refine cU_r (As := [.int p0, .int (bz true)]) C hO ha hk ⟨"LivedAgain$Person", "waysToGo", "(IZ)I"⟩ "LivedAgain$Person" mfX3_waysToGo t3_97 t3_188 t3_98 (va_Decl.of (hts _ t3_97) (hts _ t3_104)) t3_100 (by decide +kernel) (ccX3_waysToGo_k2 l D cy pe a ha hk p0 true _ hF) rfl rfl rfl hl.1 rfl (Nat.le_of_ble_eq_true rfl) dX3_meanTenths_3 ⟨Nat.le_of_ble_eq_true rfl, Nat.le_of_ble_eq_true rfl⟩ ⟨Nat.le_of_ble_eq_true rfl, Nat.le_of_ble_eq_true rfl⟩ ?_
  intro r1 hF
  refine W.eq (g2 := F0 m 6 ls [.int r1]) rfl ?_
  refine lv_i2l hx hb dX3_meanTenths_6 rfl ?_
  refine lv_aload_n hx hb dX3_meanTenths_7 rfl (lv_at hl 0 rfl) ?_
  refine lv_iconst (v := 1) hx hb dX3_meanTenths_8 (by decide) ?_
  refine cU_r (As := [.int (bz true)]) C hO ha hk ⟨"LivedAgain$Person", "bringsBy", "(Z)I"⟩ "LivedAgain$Person" mfX2_bringsBy t3_25 t3_189 t3_22 (va_Decl.of (hts _ t3_21) (hts _ t3_35)) t3_24 (by decide +kernel) (ccX2_bringsBy_k2 l D cy pe a ha hk true _ hF) rfl rfl rfl hl.1 rfl (Nat.le_of_ble_eq_true rfl) dX3_meanTenths_9 ⟨Nat.le_of_ble_eq_true rfl, Nat.le_of_ble_eq_true rfl⟩ ⟨Nat.le_of_ble_eq_true rfl, Nat.le_of_ble_eq_true rfl⟩ ?_
  intro r2 hF
  refine W.eq (g2 := F0 m 12 ls [.int r2, .long ((r1).toInt64)]) rfl ?_
  refine lv_i2l hx hb dX3_meanTenths_12 rfl ?_
  refine lv_lmul hx hb dX3_meanTenths_13 ?_
  refine lv_aload_n hx hb dX3_meanTenths_14 rfl (lv_at hl 0 rfl) ?_
  refine lv_iload_n hx hb dX3_meanTenths_15 rfl (lv_at hl 1 rfl) ?_
  refine lv_iconst (v := 0) hx hb dX3_meanTenths_16 (by decide) ?_
  refine cU_r (As := [.int p0, .int (bz false)]) C hO ha hk ⟨"LivedAgain$Person", "waysToGo", "(IZ)I"⟩ "LivedAgain$Person" mfX3_waysToGo t3_97 t3_188 t3_98 (va_Decl.of (hts _ t3_97) (hts _ t3_104)) t3_100 (by decide +kernel) (ccX3_waysToGo_k2 l D cy pe a ha hk p0 false _ hF) rfl rfl rfl hl.1 rfl (Nat.le_of_ble_eq_true rfl) dX3_meanTenths_17 ⟨Nat.le_of_ble_eq_true rfl, Nat.le_of_ble_eq_true rfl⟩ ⟨Nat.le_of_ble_eq_true rfl, Nat.le_of_ble_eq_true rfl⟩ ?_
  intro r3 hF
  refine W.eq (g2 := F0 m 20 ls [.int r3, .long (((r1).toInt64) * ((r2).toInt64))]) rfl ?_
  refine lv_i2l hx hb dX3_meanTenths_20 rfl ?_
  refine lv_aload_n hx hb dX3_meanTenths_21 rfl (lv_at hl 0 rfl) ?_
  refine lv_iconst (v := 0) hx hb dX3_meanTenths_22 (by decide) ?_
  refine cU_r (As := [.int (bz false)]) C hO ha hk ⟨"LivedAgain$Person", "bringsBy", "(Z)I"⟩ "LivedAgain$Person" mfX2_bringsBy t3_25 t3_189 t3_22 (va_Decl.of (hts _ t3_21) (hts _ t3_35)) t3_24 (by decide +kernel) (ccX2_bringsBy_k2 l D cy pe a ha hk false _ hF) rfl rfl rfl hl.1 rfl (Nat.le_of_ble_eq_true rfl) dX3_meanTenths_23 ⟨Nat.le_of_ble_eq_true rfl, Nat.le_of_ble_eq_true rfl⟩ ⟨Nat.le_of_ble_eq_true rfl, Nat.le_of_ble_eq_true rfl⟩ ?_
  intro r4 hF
  refine W.eq (g2 := F0 m 26 ls [.int r4, .long ((r3).toInt64), .long (((r1).toInt64) * ((r2).toInt64))]) rfl ?_
  refine lv_i2l hx hb dX3_meanTenths_26 rfl ?_
  refine lv_lmul hx hb dX3_meanTenths_27 ?_
  refine lv_ladd hx hb dX3_meanTenths_28 ?_
  exact rr_l C hQ rfl hF dX3_meanTenths_29

def wlX3_worthOfRight_k2_36 (pt : PT) (post : Int64 → Prop) : Nat → Int32 → Int64 → Int64 → Int64 → Int32 → Prop
  | 0, _, _, _, _, _ => False
  | n + 1, l1, l2, l4, l6, l8 => (l1 ≤ l8 → (post l6)) ∧ (¬ l1 ≤ l8 → (wpX2_bringsBy_k2 true pt (fun r1 => wpX2_bringsBy_k2 false pt (fun r2 => wpX3_waysToGo_k2 0 true pt (fun r3 => wpX3_waysToGo_k2 0 false pt (fun r4 => (wlX3_worthOfRight_k2_36 pt post n) l1 l2 l4 ((((((r3).toInt64) * (if l2 < ((((r1).toInt64) * 10000) + l6) then ((((r1).toInt64) * 10000) + l6) else l2)) + (((r4).toInt64) * (if l2 < ((((r2).toInt64) * 10000) + l6) then ((((r2).toInt64) * 10000) + l6) else l2))) / 10) - l4) (l8 + 1)))))))
def wpX3_worthOfRight_k2 (p0 : Int32) (pt : PT) (post : Int64 → Prop) : Prop := wpX3_mayUseRight_k2 pt (fun r1 => (r1 = true → (wpX3_meanTenths_k2 1 pt (fun r2 => wpX3_meanTenths_k2 0 pt (fun r3 => wlX3_worthOfRight_k2_36 pt post fu p0 (r2 * 1000) (r3 * 1000) 0 0)))) ∧ (r1 = false → (post 0)))
abbrev rmX3_worthOfRight_k2 : Room := { frames := 4, cells := 0, slots := 0, locals := 86 }
set_option maxHeartbeats 4000000 in
set_option maxRecDepth 100000 in
theorem ccX3_worthOfRight_k2 (l : Launch) (D : va_G) (cy : Nat → ClassId) (pe : Pe) (a : Nat) (ha : a ∈ pe.1) (hk : (pe.2 a).1 = 2) (p0 : Int32) (post : Int64 → Prop) (hF : wpX3_worthOfRight_k2 p0 (pe.2 a) post) : Cr l D cy miX3_worthOfRight rmX3_worthOfRight_k2 emL pe [.ref a, .int p0] [] post := by
  refine Cr.of (by decide) (Nat.le_of_ble_eq_true rfl) ?_
  intro p e s m args below meth c ls Q C hQ hO hP hl
  obtain ⟨hx, hb, hr, hml, hown, hts, hK, hlk, hnm⟩ := id C
  have hb : c.code = cX3_worthOfRight := hb
  have hml : c.maxLocals = 13 := hml
  have hown : s.vm.findClass RX3 = some m.cls := hown
  have hl : lv_has ls 13 [(0, .ref a), (1, .int p0)] := hl
  have L_36 : ∀ (n_36 : Nat) (l1 : Int32) (l2 : Int64) (l4 : Int64) (l6 : Int64) (l8 : Int32) (ls : Array Slot), lv_has ls 13 [(0, .ref a), (1, .int l1), (2, .long l2), (4, .long l4), (6, .long l6), (8, .int l8)] → wlX3_worthOfRight_k2_36 (pe.2 a) post n_36 l1 l2 l4 l6 l8 → W p l e rmX3_worthOfRight_k2 s m args below meth c s.heap [] 0 0 Q (F0 m 36 ls []) := by
    intro n_36
    induction n_36 with
    | zero =>
      intro l1 l2 l4 l6 l8 ls  hl hF
      simp only [wlX3_worthOfRight_k2_36] at hF
    | succ n_36 ih_36 =>
      intro l1 l2 l4 l6 l8 ls  hl hF
      unfold wlX3_worthOfRight_k2_36 at hF
      refine lv_iload hx hb dX3_worthOfRight_36 (lv_at hl 5 rfl) ?_
      refine lv_iload_n hx hb dX3_worthOfRight_38 rfl (lv_at hl 1 rfl) ?_
      refine lv_icmp_ge (tgt := 116) hx hb dX3_worthOfRight_39 (by decide) (fun c_ => ?_) (fun c_ => ?_)
      · have hF := hF.1 c_
        refine lv_lload hx hb dX3_worthOfRight_116 (lv_at hl 4 rfl) ?_
        exact rr_l C hQ rfl hF dX3_worthOfRight_118
      · have hF := hF.2 c_
        refine lv_aload_n hx hb dX3_worthOfRight_42 rfl (lv_at hl 0 rfl) ?_
        refine lv_iconst (v := 1) hx hb dX3_worthOfRight_43 (by decide) ?_
        refine cU_r (As := [.int (bz true)]) C hO ha hk ⟨"LivedAgain$Person", "bringsBy", "(Z)I"⟩ "LivedAgain$Person" mfX2_bringsBy t3_25 t3_189 t3_22 (va_Decl.of (hts _ t3_21) (hts _ t3_35)) t3_24 (by decide +kernel) (ccX2_bringsBy_k2 l D cy pe a ha hk true _ hF) rfl rfl rfl hl.1 rfl (Nat.le_of_ble_eq_true rfl) dX3_worthOfRight_44 ⟨Nat.le_of_ble_eq_true rfl, Nat.le_of_ble_eq_true rfl⟩ ⟨Nat.le_of_ble_eq_true rfl, Nat.le_of_ble_eq_true rfl⟩ ?_
        intro r1 hF
        refine W.eq (g2 := F0 m 47 ls [.int r1]) rfl ?_
        refine lv_i2l hx hb dX3_worthOfRight_47 rfl ?_
        refine lv_ldc2 hx hb hown (hts _ t3_191) dX3_worthOfRight_48 ?_
        refine lv_lmul hx hb dX3_worthOfRight_51 ?_
        refine lv_lload hx hb dX3_worthOfRight_52 (lv_at hl 4 rfl) ?_
        refine lv_ladd hx hb dX3_worthOfRight_54 ?_
        refine lv_lload_n hx hb dX3_worthOfRight_55 rfl (lv_at hl 2 rfl) ?_
        refine va_mmax_long hx hb (hml.trans hl.1.symm) hown (hts _ t3_192) (hts _ t3_193) (hts _ t1_16) (hts _ t3_194) (by decide) (Nat.le_of_ble_eq_true rfl) (by decide) (by decide) dX3_worthOfRight_56 ?_
        refine lv_lstore (lv' := [(9, .long (if l2 < ((((r1).toInt64) * 10000) + l6) then ((((r1).toInt64) * 10000) + l6) else l2)), (0, .ref a), (1, .int l1), (2, .long l2), (4, .long l4), (6, .long l6), (8, .int l8)]) hx hb dX3_worthOfRight_59 hl (by decide) rfl (fun ls hl => ?_)
        refine lv_aload_n hx hb dX3_worthOfRight_61 rfl (lv_at hl 1 rfl) ?_
        refine lv_iconst (v := 0) hx hb dX3_worthOfRight_62 (by decide) ?_
        refine cU_r (As := [.int (bz false)]) C hO ha hk ⟨"LivedAgain$Person", "bringsBy", "(Z)I"⟩ "LivedAgain$Person" mfX2_bringsBy t3_25 t3_189 t3_22 (va_Decl.of (hts _ t3_21) (hts _ t3_35)) t3_24 (by decide +kernel) (ccX2_bringsBy_k2 l D cy pe a ha hk false _ hF) rfl rfl rfl hl.1 rfl (Nat.le_of_ble_eq_true rfl) dX3_worthOfRight_63 ⟨Nat.le_of_ble_eq_true rfl, Nat.le_of_ble_eq_true rfl⟩ ⟨Nat.le_of_ble_eq_true rfl, Nat.le_of_ble_eq_true rfl⟩ ?_
        intro r2 hF
        refine W.eq (g2 := F0 m 66 ls [.int r2]) rfl ?_
        refine lv_i2l hx hb dX3_worthOfRight_66 rfl ?_
        refine lv_ldc2 hx hb hown (hts _ t3_191) dX3_worthOfRight_67 ?_
        refine lv_lmul hx hb dX3_worthOfRight_70 ?_
        refine lv_lload hx hb dX3_worthOfRight_71 (lv_at hl 5 rfl) ?_
        refine lv_ladd hx hb dX3_worthOfRight_73 ?_
        refine lv_lload_n hx hb dX3_worthOfRight_74 rfl (lv_at hl 3 rfl) ?_
        refine va_mmax_long hx hb (hml.trans hl.1.symm) hown (hts _ t3_192) (hts _ t3_193) (hts _ t1_16) (hts _ t3_194) (by decide) (Nat.le_of_ble_eq_true rfl) (by decide) (by decide) dX3_worthOfRight_75 ?_
        refine lv_lstore (lv' := [(11, .long (if l2 < ((((r2).toInt64) * 10000) + l6) then ((((r2).toInt64) * 10000) + l6) else l2)), (9, .long (if l2 < ((((r1).toInt64) * 10000) + l6) then ((((r1).toInt64) * 10000) + l6) else l2)), (0, .ref a), (1, .int l1), (2, .long l2), (4, .long l4), (6, .long l6), (8, .int l8)]) hx hb dX3_worthOfRight_78 hl (by decide) rfl (fun ls hl => ?_)
        refine lv_aload_n hx hb dX3_worthOfRight_80 rfl (lv_at hl 2 rfl) ?_
        refine lv_iconst (v := 0) hx hb dX3_worthOfRight_81 (by decide) ?_
        refine lv_iconst (v := 1) hx hb dX3_worthOfRight_82 (by decide) ?_
        refine cU_r (As := [.int 0, .int (bz true)]) C hO ha hk ⟨"LivedAgain$Person", "waysToGo", "(IZ)I"⟩ "LivedAgain$Person" mfX3_waysToGo t3_97 t3_188 t3_98 (va_Decl.of (hts _ t3_97) (hts _ t3_104)) t3_100 (by decide +kernel) (ccX3_waysToGo_k2 l D cy pe a ha hk 0 true _ hF) rfl rfl rfl hl.1 rfl (Nat.le_of_ble_eq_true rfl) dX3_worthOfRight_83 ⟨Nat.le_of_ble_eq_true rfl, Nat.le_of_ble_eq_true rfl⟩ ⟨Nat.le_of_ble_eq_true rfl, Nat.le_of_ble_eq_true rfl⟩ ?_
        intro r3 hF
        refine W.eq (g2 := F0 m 86 ls [.int r3]) rfl ?_
        refine lv_i2l hx hb dX3_worthOfRight_86 rfl ?_
        refine lv_lload hx hb dX3_worthOfRight_87 (lv_at hl 1 rfl) ?_
        refine lv_lmul hx hb dX3_worthOfRight_89 ?_
        refine lv_aload_n hx hb dX3_worthOfRight_90 rfl (lv_at hl 2 rfl) ?_
        refine lv_iconst (v := 0) hx hb dX3_worthOfRight_91 (by decide) ?_
        refine lv_iconst (v := 0) hx hb dX3_worthOfRight_92 (by decide) ?_
        refine cU_r (As := [.int 0, .int (bz false)]) C hO ha hk ⟨"LivedAgain$Person", "waysToGo", "(IZ)I"⟩ "LivedAgain$Person" mfX3_waysToGo t3_97 t3_188 t3_98 (va_Decl.of (hts _ t3_97) (hts _ t3_104)) t3_100 (by decide +kernel) (ccX3_waysToGo_k2 l D cy pe a ha hk 0 false _ hF) rfl rfl rfl hl.1 rfl (Nat.le_of_ble_eq_true rfl) dX3_worthOfRight_93 ⟨Nat.le_of_ble_eq_true rfl, Nat.le_of_ble_eq_true rfl⟩ ⟨Nat.le_of_ble_eq_true rfl, Nat.le_of_ble_eq_true rfl⟩ ?_
        intro r4 hF
        refine W.eq (g2 := F0 m 96 ls [.int r4, .long (((r3).toInt64) * (if l2 < ((((r1).toInt64) * 10000) + l6) then ((((r1).toInt64) * 10000) + l6) else l2))]) rfl ?_
        refine lv_i2l hx hb dX3_worthOfRight_96 rfl ?_
        refine lv_lload hx hb dX3_worthOfRight_97 (lv_at hl 0 rfl) ?_
        refine lv_lmul hx hb dX3_worthOfRight_99 ?_
        refine lv_ladd hx hb dX3_worthOfRight_100 ?_
        refine lv_ldc2 hx hb hown (hts _ t3_195) dX3_worthOfRight_101 ?_
        refine lv_ldiv hx hb dX3_worthOfRight_104 (by decide) ?_
        refine lv_lload hx hb dX3_worthOfRight_105 (lv_at hl 5 rfl) ?_
        refine lv_lsub hx hb dX3_worthOfRight_107 ?_
        refine lv_lstore (lv' := [(6, .long ((((((r3).toInt64) * (if l2 < ((((r1).toInt64) * 10000) + l6) then ((((r1).toInt64) * 10000) + l6) else l2)) + (((r4).toInt64) * (if l2 < ((((r2).toInt64) * 10000) + l6) then ((((r2).toInt64) * 10000) + l6) else l2))) / 10) - l4)), (11, .long (if l2 < ((((r2).toInt64) * 10000) + l6) then ((((r2).toInt64) * 10000) + l6) else l2)), (9, .long (if l2 < ((((r1).toInt64) * 10000) + l6) then ((((r1).toInt64) * 10000) + l6) else l2)), (0, .ref a), (1, .int l1), (2, .long l2), (4, .long l4), (8, .int l8)]) hx hb dX3_worthOfRight_108 hl (by decide) rfl (fun ls hl => ?_)
        refine lv_iinc (v := (l8 + 1)) (lv' := [(8, .int (l8 + 1)), (6, .long ((((((r3).toInt64) * (if l2 < ((((r1).toInt64) * 10000) + l6) then ((((r1).toInt64) * 10000) + l6) else l2)) + (((r4).toInt64) * (if l2 < ((((r2).toInt64) * 10000) + l6) then ((((r2).toInt64) * 10000) + l6) else l2))) / 10) - l4)), (11, .long (if l2 < ((((r2).toInt64) * 10000) + l6) then ((((r2).toInt64) * 10000) + l6) else l2)), (9, .long (if l2 < ((((r1).toInt64) * 10000) + l6) then ((((r1).toInt64) * 10000) + l6) else l2)), (0, .ref a), (1, .int l1), (2, .long l2), (4, .long l4)]) hx hb dX3_worthOfRight_110 hl (k := 7) rfl rfl (by decide) rfl (fun ls hl => ?_)
        refine lv_goto (tgt := 36) hx hb dX3_worthOfRight_113 (by decide) ?_
        exact ih_36 l1 l2 l4 ((((((r3).toInt64) * (if l2 < ((((r1).toInt64) * 10000) + l6) then ((((r1).toInt64) * 10000) + l6) else l2)) + (((r4).toInt64) * (if l2 < ((((r2).toInt64) * 10000) + l6) then ((((r2).toInt64) * 10000) + l6) else l2))) / 10) - l4) (l8 + 1) ls  (lv_sub hl [4, 5, 6, 7, 1, 0] rfl) hF
  unfold wpX3_worthOfRight_k2 at hF
  refine lv_aload_n hx hb dX3_worthOfRight_0 rfl (lv_at hl 0 rfl) ?_
  refine cU_r (As := []) C hO ha hk ⟨"LivedAgain$Person", "mayUseRight", "()Z"⟩ "LivedAgain$Person" mfX3_mayUseRight t2_236 t3_178 t2_237 (va_Decl.of (hts _ t2_236) (hts _ t3_7)) t2_239 (by decide +kernel) (ccX3_mayUseRight_k2 l D cy pe a ha hk _ hF) rfl rfl rfl hl.1 rfl (Nat.le_of_ble_eq_true rfl) dX3_worthOfRight_1 ⟨Nat.le_of_ble_eq_true rfl, Nat.le_of_ble_eq_true rfl⟩ ⟨Nat.le_of_ble_eq_true rfl, Nat.le_of_ble_eq_true rfl⟩ ?_
  intro r1 hF
  refine W.eq (g2 := F0 m 4 ls [.int (bz r1)]) rfl ?_
  refine lv_if_ne (tgt := 9) hx hb dX3_worthOfRight_4 (by decide) (fun c_ => ?_) (fun c_ => ?_)
  · have hF := hF.1 ((bz_1 _).mp c_)
    refine lv_aload_n hx hb dX3_worthOfRight_9 rfl (lv_at hl 0 rfl) ?_
    refine lv_iconst (v := 1) hx hb dX3_worthOfRight_10 (by decide) ?_
    refine cU_r (As := [.int 1]) C hO ha hk ⟨"LivedAgain$Person", "meanTenths", "(I)J"⟩ "LivedAgain$Person" mfX3_meanTenths t3_180 t3_179 t3_181 (va_Decl.of (hts _ t3_180) (hts _ t3_187)) t3_183 (by decide +kernel) (ccX3_meanTenths_k2 l D cy pe a ha hk 1 _ hF) rfl rfl rfl hl.1 rfl (Nat.le_of_ble_eq_true rfl) dX3_worthOfRight_11 ⟨Nat.le_of_ble_eq_true rfl, Nat.le_of_ble_eq_true rfl⟩ ⟨Nat.le_of_ble_eq_true rfl, Nat.le_of_ble_eq_true rfl⟩ ?_
    intro r2 hF
    refine W.eq (g2 := F0 m 14 ls [.long r2]) rfl ?_
    refine lv_ldc2 hx hb hown (hts _ t3_190) dX3_worthOfRight_14 ?_
    refine lv_lmul hx hb dX3_worthOfRight_17 ?_
    refine lv_lstore_n (lv' := [(2, .long (r2 * 1000)), (0, .ref a), (1, .int p0)]) hx hb dX3_worthOfRight_18 rfl hl (by decide) rfl (fun ls hl => ?_)
    refine lv_aload_n hx hb dX3_worthOfRight_19 rfl (lv_at hl 1 rfl) ?_
    refine lv_iconst (v := 0) hx hb dX3_worthOfRight_20 (by decide) ?_
    refine cU_r (As := [.int 0]) C hO ha hk ⟨"LivedAgain$Person", "meanTenths", "(I)J"⟩ "LivedAgain$Person" mfX3_meanTenths t3_180 t3_179 t3_181 (va_Decl.of (hts _ t3_180) (hts _ t3_187)) t3_183 (by decide +kernel) (ccX3_meanTenths_k2 l D cy pe a ha hk 0 _ hF) rfl rfl rfl hl.1 rfl (Nat.le_of_ble_eq_true rfl) dX3_worthOfRight_21 ⟨Nat.le_of_ble_eq_true rfl, Nat.le_of_ble_eq_true rfl⟩ ⟨Nat.le_of_ble_eq_true rfl, Nat.le_of_ble_eq_true rfl⟩ ?_
    intro r3 hF
    refine W.eq (g2 := F0 m 24 ls [.long r3]) rfl ?_
    refine lv_ldc2 hx hb hown (hts _ t3_190) dX3_worthOfRight_24 ?_
    refine lv_lmul hx hb dX3_worthOfRight_27 ?_
    refine lv_lstore (lv' := [(4, .long (r3 * 1000)), (2, .long (r2 * 1000)), (0, .ref a), (1, .int p0)]) hx hb dX3_worthOfRight_28 hl (by decide) rfl (fun ls hl => ?_)
    refine lv_lconst (v := 0) hx hb dX3_worthOfRight_30 (by decide) ?_
    refine lv_lstore (lv' := [(6, .long 0), (4, .long (r3 * 1000)), (2, .long (r2 * 1000)), (0, .ref a), (1, .int p0)]) hx hb dX3_worthOfRight_31 hl (by decide) rfl (fun ls hl => ?_)
    refine lv_iconst (v := 0) hx hb dX3_worthOfRight_33 (by decide) ?_
    refine lv_istore (lv' := [(8, .int 0), (6, .long 0), (4, .long (r3 * 1000)), (2, .long (r2 * 1000)), (0, .ref a), (1, .int p0)]) hx hb dX3_worthOfRight_34 hl (by decide) rfl (fun ls hl => ?_)
    exact L_36 fu p0 (r2 * 1000) (r3 * 1000) 0 0 ls  (lv_sub hl [4, 5, 3, 2, 1, 0] rfl) hF
  · have hF := hF.2 ((bz_0 _).mp c_)
    refine lv_lconst (v := 0) hx hb dX3_worthOfRight_7 (by decide) ?_
    exact rr_l C hQ rfl hF dX3_worthOfRight_8

def wpX3_sizeBy_k2 (v_a0_left : Int32) (v_a0_purse : Int32) (v_a0_numbers : Nat → Int32) (pt : PT) (post : Int32 → Int32 → (Nat → Int32) → Prop) : Prop := wpX8_leave 10 v_a0_left v_a0_numbers (fun _ u2_a0_left u3_a0_numbers => post v_a0_purse u2_a0_left u3_a0_numbers)
abbrev rmX3_sizeBy_k2 : Room := { frames := 1, cells := 0, slots := 0, locals := 21 }
set_option maxHeartbeats 4000000 in
set_option maxRecDepth 100000 in
theorem ccX3_sizeBy_k2 (l : Launch) (D : va_G) (cy : Nat → ClassId) (pe : Pe) (a : Nat) (ha : a ∈ pe.1) (hk : (pe.2 a).1 = 2) (h_a0 : Nat) (h_a0_numbers : Nat) (v_a0_left : Int32) (v_a0_purse : Int32) (v_a0_memory : Int32) (v_a0_numbers : Nat → Int32) (post : Int32 → Int32 → (Nat → Int32) → Prop) (hF : wpX3_sizeBy_k2 v_a0_left v_a0_purse v_a0_numbers (pe.2 a) post) : Ct l D cy miX3_sizeBy rmX3_sizeBy_k2 emI pe [.ref a, .ref h_a0] [(h_a0, .inr (7, [.ref h_a0_numbers, .int v_a0_left, .int v_a0_purse, .int v_a0_memory])), (h_a0_numbers, .inl (cy 0, 16, .inl v_a0_numbers))] (fun r w1 => ∃ (w_a0_left : Int32) (w_a0_numbers : Nat → Int32), w1 = [(h_a0, .inr (7, [.ref h_a0_numbers, .int w_a0_left, .int v_a0_purse, .int v_a0_memory])), (h_a0_numbers, .inl (cy 0, 16, .inl w_a0_numbers))] ∧ post r w_a0_left w_a0_numbers) := by
  refine Ct.of (by decide) (Nat.le_of_ble_eq_true rfl) ?_
  intro p e s m args below meth c A ls Q C hQ hA hI hP hD hS hl
  obtain ⟨hx, hb, hr, hml, hown, hts, hK, hlk, hnm⟩ := id C
  have hb : c.code = cX3_sizeBy := hb
  have hml : c.maxLocals = 2 := hml
  have hown : s.vm.findClass RX3 = some m.cls := hown
  have hl : lv_has ls 2 [(0, .ref a), (1, .ref h_a0)] := hl
  unfold wpX3_sizeBy_k2 at hF
  refine lv_aload_n hx hb dX3_sizeBy_0 rfl (lv_at hl 1 rfl) ?_
  refine lv_bipush (v := 10) hx hb dX3_sizeBy_1 (by decide) ?_
  refine cV_t (As := [.int 10]) (wr := []) C hA hP hD hS mfX8_leave t4_51 t4_52 t4_73 (ccX8_leave l D cy h_a0 h_a0_numbers v_a0_left v_a0_purse v_a0_memory v_a0_numbers 10 _ hF) [0, 1] [] rfl rfl (by decide) (by decide) (by decide) PO.np 0 7 rfl rfl rfl rfl hl.1 rfl (Nat.le_of_ble_eq_true rfl) dX3_sizeBy_3 ⟨Nat.le_of_ble_eq_true rfl, Nat.le_of_ble_eq_true rfl⟩ ⟨Nat.le_of_ble_eq_true rfl, Nat.le_of_ble_eq_true rfl⟩ ?_
  rintro ⟨⟩ w1 H locs ⟨u2_a0_left, u3_a0_numbers, rfl, hF⟩ hP hD hS
  have hP : va_P D CL [(h_a0, .inr (7, [.ref h_a0_numbers, .int u2_a0_left, .int v_a0_purse, .int v_a0_memory])), (h_a0_numbers, .inl (cy 0, 16, .inl u3_a0_numbers))] H := hP
  have hD : va_D A [(h_a0, .inr (7, [.ref h_a0_numbers, .int u2_a0_left, .int v_a0_purse, .int v_a0_memory])), (h_a0_numbers, .inl (cy 0, 16, .inl u3_a0_numbers))] := hD
  refine W.eq (g2 := F0 m 6 ls []) rfl ?_
  refine lv_aload_n hx hb dX3_sizeBy_6 rfl (lv_at hl 1 rfl) ?_
  refine va_get (D := D) (ci := 7) (v := .int v_a0_purse) (C := RX8) (T := TX8) (N := 4) hx hb hts inTX8 hown hK.1 hP 0 rfl rfl 2 (by decide) (hts _ t1_165) (fun _ h9 => h9) rfl dX3_sizeBy_7 ?_
  exact rt_i C hQ rfl hP hD hS ⟨u2_a0_left, u3_a0_numbers, rfl, hF⟩ dX3_sizeBy_10

def wpX3_markBy_k2 (v_a0_left : Int32) (v_a0_numbers : Nat → Int32) (pt : PT) (post : Int32 → Int32 → (Nat → Int32) → Prop) : Prop := wpX8_leave 20 v_a0_left v_a0_numbers (fun _ u2_a0_left u3_a0_numbers => post pt.2.1 u2_a0_left u3_a0_numbers)
abbrev rmX3_markBy_k2 : Room := { frames := 1, cells := 0, slots := 0, locals := 21 }
set_option maxHeartbeats 4000000 in
set_option maxRecDepth 100000 in
theorem ccX3_markBy_k2 (l : Launch) (D : va_G) (cy : Nat → ClassId) (pe : Pe) (a : Nat) (ha : a ∈ pe.1) (hk : (pe.2 a).1 = 2) (h_a0 : Nat) (h_a0_numbers : Nat) (v_a0_left : Int32) (v_a0_purse : Int32) (v_a0_memory : Int32) (v_a0_numbers : Nat → Int32) (post : Int32 → Int32 → (Nat → Int32) → Prop) (hF : wpX3_markBy_k2 v_a0_left v_a0_numbers (pe.2 a) post) : Ct l D cy miX3_markBy rmX3_markBy_k2 emI pe [.ref a, .ref h_a0] [(h_a0, .inr (7, [.ref h_a0_numbers, .int v_a0_left, .int v_a0_purse, .int v_a0_memory])), (h_a0_numbers, .inl (cy 0, 16, .inl v_a0_numbers))] (fun r w1 => ∃ (w_a0_left : Int32) (w_a0_numbers : Nat → Int32), w1 = [(h_a0, .inr (7, [.ref h_a0_numbers, .int w_a0_left, .int v_a0_purse, .int v_a0_memory])), (h_a0_numbers, .inl (cy 0, 16, .inl w_a0_numbers))] ∧ post r w_a0_left w_a0_numbers) := by
  refine Ct.of (by decide) (Nat.le_of_ble_eq_true rfl) ?_
  intro p e s m args below meth c A ls Q C hQ hA hI hP hD hS hl
  obtain ⟨hx, hb, hr, hml, hown, hts, hK, hlk, hnm⟩ := id C
  have hb : c.code = cX3_markBy := hb
  have hml : c.maxLocals = 2 := hml
  have hown : s.vm.findClass RX3 = some m.cls := hown
  have hl : lv_has ls 2 [(0, .ref a), (1, .ref h_a0)] := hl
  unfold wpX3_markBy_k2 at hF
  refine lv_aload_n hx hb dX3_markBy_0 rfl (lv_at hl 1 rfl) ?_
  refine lv_bipush (v := 20) hx hb dX3_markBy_1 (by decide) ?_
  refine cV_t (As := [.int 20]) (wr := []) C hA hP hD hS mfX8_leave t4_51 t4_52 t4_73 (ccX8_leave l D cy h_a0 h_a0_numbers v_a0_left v_a0_purse v_a0_memory v_a0_numbers 20 _ hF) [0, 1] [] rfl rfl (by decide) (by decide) (by decide) PO.np 0 7 rfl rfl rfl rfl hl.1 rfl (Nat.le_of_ble_eq_true rfl) dX3_markBy_3 ⟨Nat.le_of_ble_eq_true rfl, Nat.le_of_ble_eq_true rfl⟩ ⟨Nat.le_of_ble_eq_true rfl, Nat.le_of_ble_eq_true rfl⟩ ?_
  rintro ⟨⟩ w1 H locs ⟨u2_a0_left, u3_a0_numbers, rfl, hF⟩ hP hD hS
  have hP : va_P D CL [(h_a0, .inr (7, [.ref h_a0_numbers, .int u2_a0_left, .int v_a0_purse, .int v_a0_memory])), (h_a0_numbers, .inl (cy 0, 16, .inl u3_a0_numbers))] H := hP
  have hD : va_D A [(h_a0, .inr (7, [.ref h_a0_numbers, .int u2_a0_left, .int v_a0_purse, .int v_a0_memory])), (h_a0_numbers, .inl (cy 0, 16, .inl u3_a0_numbers))] := hD
  refine W.eq (g2 := F0 m 6 ls []) rfl ?_
  refine lv_aload_n hx hb dX3_markBy_6 rfl (lv_at hl 0 rfl) ?_
  refine pe_get0 C (hI.at hS) ha (hts _ t2_85) (fun _ h9 => h9) dX3_markBy_7 ?_
  exact rt_i C hQ rfl hP hD hS ⟨u2_a0_left, u3_a0_numbers, rfl, hF⟩ dX3_markBy_10

def wpX0_markBy_k2 (v_a0_left : Int32) (v_a0_memory : Int32) (v_a0_numbers : Nat → Int32) (pt : PT) (post : Int32 → Int32 → (Nat → Int32) → Prop) : Prop := wpX8_leave 21 v_a0_left v_a0_numbers (fun _ u2_a0_left u3_a0_numbers => wpX3_markBy_k2 u2_a0_left u3_a0_numbers pt (fun r4 u5_a0_left u6_a0_numbers => post (r4 + v_a0_memory) u5_a0_left u6_a0_numbers))
abbrev rmX0_markBy_k2 : Room := { frames := 2, cells := 0, slots := 0, locals := 42 }
set_option maxHeartbeats 4000000 in
set_option maxRecDepth 100000 in
theorem ccX0_markBy_k2 (l : Launch) (D : va_G) (cy : Nat → ClassId) (pe : Pe) (a : Nat) (ha : a ∈ pe.1) (hk : (pe.2 a).1 = 2) (h_a0 : Nat) (h_a0_numbers : Nat) (v_a0_left : Int32) (v_a0_purse : Int32) (v_a0_memory : Int32) (v_a0_numbers : Nat → Int32) (post : Int32 → Int32 → (Nat → Int32) → Prop) (hF : wpX0_markBy_k2 v_a0_left v_a0_memory v_a0_numbers (pe.2 a) post) : Ct l D cy miX0_markBy rmX0_markBy_k2 emI pe [.ref a, .ref h_a0] [(h_a0, .inr (7, [.ref h_a0_numbers, .int v_a0_left, .int v_a0_purse, .int v_a0_memory])), (h_a0_numbers, .inl (cy 0, 16, .inl v_a0_numbers))] (fun r w1 => ∃ (w_a0_left : Int32) (w_a0_numbers : Nat → Int32), w1 = [(h_a0, .inr (7, [.ref h_a0_numbers, .int w_a0_left, .int v_a0_purse, .int v_a0_memory])), (h_a0_numbers, .inl (cy 0, 16, .inl w_a0_numbers))] ∧ post r w_a0_left w_a0_numbers) := by
  refine Ct.of (by decide) (Nat.le_of_ble_eq_true rfl) ?_
  intro p e s m args below meth c A ls Q C hQ hA hI hP hD hS hl
  obtain ⟨hx, hb, hr, hml, hown, hts, hK, hlk, hnm⟩ := id C
  have hb : c.code = cX0_markBy := hb
  have hml : c.maxLocals = 2 := hml
  have hown : s.vm.findClass RX0 = some m.cls := hown
  have hl : lv_has ls 2 [(0, .ref a), (1, .ref h_a0)] := hl
  unfold wpX0_markBy_k2 at hF
  refine lv_aload_n hx hb dX0_markBy_0 rfl (lv_at hl 1 rfl) ?_
  refine lv_bipush (v := 21) hx hb dX0_markBy_1 (by decide) ?_
  refine cV_t (As := [.int 21]) (wr := []) C hA hP hD hS mfX8_leave t4_51 t4_52 t4_50 (ccX8_leave l D cy h_a0 h_a0_numbers v_a0_left v_a0_purse v_a0_memory v_a0_numbers 21 _ hF) [0, 1] [] rfl rfl (by decide) (by decide) (by decide) PO.np 0 7 rfl rfl rfl rfl hl.1 rfl (Nat.le_of_ble_eq_true rfl) dX0_markBy_3 ⟨Nat.le_of_ble_eq_true rfl, Nat.le_of_ble_eq_true rfl⟩ ⟨Nat.le_of_ble_eq_true rfl, Nat.le_of_ble_eq_true rfl⟩ ?_
  rintro ⟨⟩ w1 H locs ⟨u2_a0_left, u3_a0_numbers, rfl, hF⟩ hP hD hS
  have hP : va_P D CL [(h_a0, .inr (7, [.ref h_a0_numbers, .int u2_a0_left, .int v_a0_purse, .int v_a0_memory])), (h_a0_numbers, .inl (cy 0, 16, .inl u3_a0_numbers))] H := hP
  have hD : va_D A [(h_a0, .inr (7, [.ref h_a0_numbers, .int u2_a0_left, .int v_a0_purse, .int v_a0_memory])), (h_a0_numbers, .inl (cy 0, 16, .inl u3_a0_numbers))] := hD
  refine W.eq (g2 := F0 m 6 ls []) rfl ?_
  refine lv_aload_n hx hb dX0_markBy_6 rfl (lv_at hl 0 rfl) ?_
  refine lv_aload_n hx hb dX0_markBy_7 rfl (lv_at hl 1 rfl) ?_
  refine cX_t (As := [.ref h_a0]) (wr := []) C hA hP hD hS (hI.at hS) ha mfX3_markBy t4_71 t4_70 t6_11 t2_102 (by decide) (ccX3_markBy_k2 l D cy pe a ha hk h_a0 h_a0_numbers u2_a0_left v_a0_purse v_a0_memory u3_a0_numbers _ hF) [0, 1] [] rfl rfl (by decide) (by decide) (by decide) (hI.po hS hD [0, 1] rfl) rfl hl.1 rfl (Nat.le_of_ble_eq_true rfl) dX0_markBy_8 ⟨Nat.le_of_ble_eq_true rfl, Nat.le_of_ble_eq_true rfl⟩ ⟨Nat.le_of_ble_eq_true rfl, Nat.le_of_ble_eq_true rfl⟩ ?_
  rintro r4 w1 H locs ⟨u5_a0_left, u6_a0_numbers, rfl, hF⟩ hP hD hS
  have hP : va_P D CL [(h_a0, .inr (7, [.ref h_a0_numbers, .int u5_a0_left, .int v_a0_purse, .int v_a0_memory])), (h_a0_numbers, .inl (cy 0, 16, .inl u6_a0_numbers))] H := hP
  have hD : va_D A [(h_a0, .inr (7, [.ref h_a0_numbers, .int u5_a0_left, .int v_a0_purse, .int v_a0_memory])), (h_a0_numbers, .inl (cy 0, 16, .inl u6_a0_numbers))] := hD
  refine W.eq (g2 := F0 m 11 ls [.int r4]) rfl ?_
  refine lv_aload_n hx hb dX0_markBy_11 rfl (lv_at hl 1 rfl) ?_
  refine va_get (D := D) (ci := 7) (v := .int v_a0_memory) (C := RX8) (T := TX8) (N := 4) hx hb hts inTX8 hown hK.1 hP 0 rfl rfl 3 (by decide) (hts _ t1_167) (fun _ h9 => h9) rfl dX0_markBy_12 ?_
  refine lv_iadd hx hb dX0_markBy_15 ?_
  exact rt_i C hQ rfl hP hD hS ⟨u5_a0_left, u6_a0_numbers, rfl, hF⟩ dX0_markBy_16

def wpX2_markBy_k2 (v_a0_left : Int32) (v_a0_memory : Int32) (v_a0_numbers : Nat → Int32) (pt : PT) (post : Int32 → Int32 → (Nat → Int32) → Prop) : Prop := wpX8_leave 24 v_a0_left v_a0_numbers (fun _ u2_a0_left u3_a0_numbers => wpX0_markBy_k2 u2_a0_left v_a0_memory u3_a0_numbers pt (fun r4 u5_a0_left u6_a0_numbers => post (2 * r4) u5_a0_left u6_a0_numbers))
abbrev miX2_markBy : MI := (yX2_markBy, cX2_markBy, 2, (some .int))
theorem mfX2_markBy : MF miX2_markBy 1 := ⟨t4_61, t1_12, by decide +kernel⟩
abbrev rmX2_markBy_k2 : Room := { frames := 3, cells := 0, slots := 0, locals := 63 }
set_option maxHeartbeats 4000000 in
set_option maxRecDepth 100000 in
theorem ccX2_markBy_k2 (l : Launch) (D : va_G) (cy : Nat → ClassId) (pe : Pe) (a : Nat) (ha : a ∈ pe.1) (hk : (pe.2 a).1 = 2) (h_a0 : Nat) (h_a0_numbers : Nat) (v_a0_left : Int32) (v_a0_purse : Int32) (v_a0_memory : Int32) (v_a0_numbers : Nat → Int32) (post : Int32 → Int32 → (Nat → Int32) → Prop) (hF : wpX2_markBy_k2 v_a0_left v_a0_memory v_a0_numbers (pe.2 a) post) : Ct l D cy miX2_markBy rmX2_markBy_k2 emI pe [.ref a, .ref h_a0] [(h_a0, .inr (7, [.ref h_a0_numbers, .int v_a0_left, .int v_a0_purse, .int v_a0_memory])), (h_a0_numbers, .inl (cy 0, 16, .inl v_a0_numbers))] (fun r w1 => ∃ (w_a0_left : Int32) (w_a0_numbers : Nat → Int32), w1 = [(h_a0, .inr (7, [.ref h_a0_numbers, .int w_a0_left, .int v_a0_purse, .int v_a0_memory])), (h_a0_numbers, .inl (cy 0, 16, .inl w_a0_numbers))] ∧ post r w_a0_left w_a0_numbers) := by
  refine Ct.of (by decide) (Nat.le_of_ble_eq_true rfl) ?_
  intro p e s m args below meth c A ls Q C hQ hA hI hP hD hS hl
  obtain ⟨hx, hb, hr, hml, hown, hts, hK, hlk, hnm⟩ := id C
  have hb : c.code = cX2_markBy := hb
  have hml : c.maxLocals = 2 := hml
  have hown : s.vm.findClass RX2 = some m.cls := hown
  have hl : lv_has ls 2 [(0, .ref a), (1, .ref h_a0)] := hl
  unfold wpX2_markBy_k2 at hF
  refine lv_aload_n hx hb dX2_markBy_0 rfl (lv_at hl 1 rfl) ?_
  refine lv_bipush (v := 24) hx hb dX2_markBy_1 (by decide) ?_
  refine cV_t (As := [.int 24]) (wr := []) C hA hP hD hS mfX8_leave t4_51 t4_52 t4_62 (ccX8_leave l D cy h_a0 h_a0_numbers v_a0_left v_a0_purse v_a0_memory v_a0_numbers 24 _ hF) [0, 1] [] rfl rfl (by decide) (by decide) (by decide) PO.np 0 7 rfl rfl rfl rfl hl.1 rfl (Nat.le_of_ble_eq_true rfl) dX2_markBy_3 ⟨Nat.le_of_ble_eq_true rfl, Nat.le_of_ble_eq_true rfl⟩ ⟨Nat.le_of_ble_eq_true rfl, Nat.le_of_ble_eq_true rfl⟩ ?_
  rintro ⟨⟩ w1 H locs ⟨u2_a0_left, u3_a0_numbers, rfl, hF⟩ hP hD hS
  have hP : va_P D CL [(h_a0, .inr (7, [.ref h_a0_numbers, .int u2_a0_left, .int v_a0_purse, .int v_a0_memory])), (h_a0_numbers, .inl (cy 0, 16, .inl u3_a0_numbers))] H := hP
  have hD : va_D A [(h_a0, .inr (7, [.ref h_a0_numbers, .int u2_a0_left, .int v_a0_purse, .int v_a0_memory])), (h_a0_numbers, .inl (cy 0, 16, .inl u3_a0_numbers))] := hD
  refine W.eq (g2 := F0 m 6 ls []) rfl ?_
  refine lv_iconst (v := 2) hx hb dX2_markBy_6 (by decide) ?_
  refine lv_aload_n hx hb dX2_markBy_7 rfl (lv_at hl 0 rfl) ?_
  refine lv_aload_n hx hb dX2_markBy_8 rfl (lv_at hl 1 rfl) ?_
  refine cX_t (As := [.ref h_a0]) (wr := []) C hA hP hD hS (hI.at hS) ha mfX0_markBy t4_56 t4_63 t4_58 t2_113 (by decide) (ccX0_markBy_k2 l D cy pe a ha hk h_a0 h_a0_numbers u2_a0_left v_a0_purse v_a0_memory u3_a0_numbers _ hF) [0, 1] [] rfl rfl (by decide) (by decide) (by decide) (hI.po hS hD [0, 1] rfl) rfl hl.1 rfl (Nat.le_of_ble_eq_true rfl) dX2_markBy_9 ⟨Nat.le_of_ble_eq_true rfl, Nat.le_of_ble_eq_true rfl⟩ ⟨Nat.le_of_ble_eq_true rfl, Nat.le_of_ble_eq_true rfl⟩ ?_
  rintro r4 w1 H locs ⟨u5_a0_left, u6_a0_numbers, rfl, hF⟩ hP hD hS
  have hP : va_P D CL [(h_a0, .inr (7, [.ref h_a0_numbers, .int u5_a0_left, .int v_a0_purse, .int v_a0_memory])), (h_a0_numbers, .inl (cy 0, 16, .inl u6_a0_numbers))] H := hP
  have hD : va_D A [(h_a0, .inr (7, [.ref h_a0_numbers, .int u5_a0_left, .int v_a0_purse, .int v_a0_memory])), (h_a0_numbers, .inl (cy 0, 16, .inl u6_a0_numbers))] := hD
  refine W.eq (g2 := F0 m 12 ls [.int r4, .int 2]) rfl ?_
  refine lv_imul hx hb dX2_markBy_12 ?_
  exact rt_i C hQ rfl hP hD hS ⟨u5_a0_left, u6_a0_numbers, rfl, hF⟩ dX2_markBy_13

def wpX0_sizeBy_k2 (v_a0_left : Int32) (v_a0_purse : Int32) (v_a0_memory : Int32) (v_a0_numbers : Nat → Int32) (pt : PT) (post : Int32 → Int32 → (Nat → Int32) → Prop) : Prop := wpX8_leave 11 v_a0_left v_a0_numbers (fun _ u2_a0_left u3_a0_numbers => wpX3_sizeBy_k2 u2_a0_left v_a0_purse u3_a0_numbers pt (fun r4 u5_a0_left u6_a0_numbers => wpX2_markBy_k2 u5_a0_left v_a0_memory u6_a0_numbers pt (fun r7 u8_a0_left u9_a0_numbers => post (r4 + r7) u8_a0_left u9_a0_numbers)))
abbrev rmX0_sizeBy_k2 : Room := { frames := 4, cells := 0, slots := 0, locals := 84 }
set_option maxHeartbeats 4000000 in
set_option maxRecDepth 100000 in
theorem ccX0_sizeBy_k2 (l : Launch) (D : va_G) (cy : Nat → ClassId) (pe : Pe) (a : Nat) (ha : a ∈ pe.1) (hk : (pe.2 a).1 = 2) (h_a0 : Nat) (h_a0_numbers : Nat) (v_a0_left : Int32) (v_a0_purse : Int32) (v_a0_memory : Int32) (v_a0_numbers : Nat → Int32) (post : Int32 → Int32 → (Nat → Int32) → Prop) (hF : wpX0_sizeBy_k2 v_a0_left v_a0_purse v_a0_memory v_a0_numbers (pe.2 a) post) : Ct l D cy miX0_sizeBy rmX0_sizeBy_k2 emI pe [.ref a, .ref h_a0] [(h_a0, .inr (7, [.ref h_a0_numbers, .int v_a0_left, .int v_a0_purse, .int v_a0_memory])), (h_a0_numbers, .inl (cy 0, 16, .inl v_a0_numbers))] (fun r w1 => ∃ (w_a0_left : Int32) (w_a0_numbers : Nat → Int32), w1 = [(h_a0, .inr (7, [.ref h_a0_numbers, .int w_a0_left, .int v_a0_purse, .int v_a0_memory])), (h_a0_numbers, .inl (cy 0, 16, .inl w_a0_numbers))] ∧ post r w_a0_left w_a0_numbers) := by
  refine Ct.of (by decide) (Nat.le_of_ble_eq_true rfl) ?_
  intro p e s m args below meth c A ls Q C hQ hA hI hP hD hS hl
  obtain ⟨hx, hb, hr, hml, hown, hts, hK, hlk, hnm⟩ := id C
  have hb : c.code = cX0_sizeBy := hb
  have hml : c.maxLocals = 3 := hml
  have hown : s.vm.findClass RX0 = some m.cls := hown
  have hl : lv_has ls 3 [(0, .ref a), (1, .ref h_a0)] := hl
  unfold wpX0_sizeBy_k2 at hF
  refine lv_aload_n hx hb dX0_sizeBy_0 rfl (lv_at hl 1 rfl) ?_
  refine lv_bipush (v := 11) hx hb dX0_sizeBy_1 (by decide) ?_
  refine cV_t (As := [.int 11]) (wr := []) C hA hP hD hS mfX8_leave t4_51 t4_52 t4_50 (ccX8_leave l D cy h_a0 h_a0_numbers v_a0_left v_a0_purse v_a0_memory v_a0_numbers 11 _ hF) [0, 1] [] rfl rfl (by decide) (by decide) (by decide) PO.np 0 7 rfl rfl rfl rfl hl.1 rfl (Nat.le_of_ble_eq_true rfl) dX0_sizeBy_3 ⟨Nat.le_of_ble_eq_true rfl, Nat.le_of_ble_eq_true rfl⟩ ⟨Nat.le_of_ble_eq_true rfl, Nat.le_of_ble_eq_true rfl⟩ ?_
  rintro ⟨⟩ w1 H locs ⟨u2_a0_left, u3_a0_numbers, rfl, hF⟩ hP hD hS
  have hP : va_P D CL [(h_a0, .inr (7, [.ref h_a0_numbers, .int u2_a0_left, .int v_a0_purse, .int v_a0_memory])), (h_a0_numbers, .inl (cy 0, 16, .inl u3_a0_numbers))] H := hP
  have hD : va_D A [(h_a0, .inr (7, [.ref h_a0_numbers, .int u2_a0_left, .int v_a0_purse, .int v_a0_memory])), (h_a0_numbers, .inl (cy 0, 16, .inl u3_a0_numbers))] := hD
  refine W.eq (g2 := F0 m 6 ls []) rfl ?_
  refine lv_aload_n hx hb dX0_sizeBy_6 rfl (lv_at hl 0 rfl) ?_
  refine lv_aload_n hx hb dX0_sizeBy_7 rfl (lv_at hl 1 rfl) ?_
  refine cX_t (As := [.ref h_a0]) (wr := []) C hA hP hD hS (hI.at hS) ha mfX3_sizeBy t4_45 t4_54 t4_46 t2_102 (by decide) (ccX3_sizeBy_k2 l D cy pe a ha hk h_a0 h_a0_numbers u2_a0_left v_a0_purse v_a0_memory u3_a0_numbers _ hF) [0, 1] [] rfl rfl (by decide) (by decide) (by decide) (hI.po hS hD [0, 1] rfl) rfl hl.1 rfl (Nat.le_of_ble_eq_true rfl) dX0_sizeBy_8 ⟨Nat.le_of_ble_eq_true rfl, Nat.le_of_ble_eq_true rfl⟩ ⟨Nat.le_of_ble_eq_true rfl, Nat.le_of_ble_eq_true rfl⟩ ?_
  rintro r4 w1 H locs ⟨u5_a0_left, u6_a0_numbers, rfl, hF⟩ hP hD hS
  have hP : va_P D CL [(h_a0, .inr (7, [.ref h_a0_numbers, .int u5_a0_left, .int v_a0_purse, .int v_a0_memory])), (h_a0_numbers, .inl (cy 0, 16, .inl u6_a0_numbers))] H := hP
  have hD : va_D A [(h_a0, .inr (7, [.ref h_a0_numbers, .int u5_a0_left, .int v_a0_purse, .int v_a0_memory])), (h_a0_numbers, .inl (cy 0, 16, .inl u6_a0_numbers))] := hD
  refine W.eq (g2 := F0 m 11 ls [.int r4]) rfl ?_
  refine lv_istore_n (lv' := [(2, .int r4), (0, .ref a), (1, .ref h_a0)]) hx hb dX0_sizeBy_11 rfl hl (by decide) rfl (fun ls hl => ?_)
  refine lv_iload_n hx hb dX0_sizeBy_12 rfl (lv_at hl 0 rfl) ?_
  refine lv_aload_n hx hb dX0_sizeBy_13 rfl (lv_at hl 1 rfl) ?_
  refine lv_aload_n hx hb dX0_sizeBy_14 rfl (lv_at hl 2 rfl) ?_
  refine cU_t (As := [.ref h_a0]) (wr := []) C hA hP hD hS (hI.at hS) ha hk ⟨"LivedAgain$Farmer", "markBy", "(LLivedAgain$Trace;)I"⟩ "LivedAgain$Farmer" mfX2_markBy t4_60 t4_55 t4_58 (va_Decl.of (hts _ t4_56) (hts _ t4_69)) t4_59 (by decide +kernel) (ccX2_markBy_k2 l D cy pe a ha hk h_a0 h_a0_numbers u5_a0_left v_a0_purse v_a0_memory u6_a0_numbers _ hF) [0, 1] [] rfl rfl (by decide) (by decide) (by decide) (hI.po hS hD [0, 1] rfl) rfl hl.1 rfl (Nat.le_of_ble_eq_true rfl) dX0_sizeBy_15 ⟨Nat.le_of_ble_eq_true rfl, Nat.le_of_ble_eq_true rfl⟩ ⟨Nat.le_of_ble_eq_true rfl, Nat.le_of_ble_eq_true rfl⟩ ?_
  rintro r7 w1 H locs ⟨u8_a0_left, u9_a0_numbers, rfl, hF⟩ hP hD hS
  have hP : va_P D CL [(h_a0, .inr (7, [.ref h_a0_numbers, .int u8_a0_left, .int v_a0_purse, .int v_a0_memory])), (h_a0_numbers, .inl (cy 0, 16, .inl u9_a0_numbers))] H := hP
  have hD : va_D A [(h_a0, .inr (7, [.ref h_a0_numbers, .int u8_a0_left, .int v_a0_purse, .int v_a0_memory])), (h_a0_numbers, .inl (cy 0, 16, .inl u9_a0_numbers))] := hD
  refine W.eq (g2 := F0 m 18 ls [.int r7, .int r4]) rfl ?_
  refine lv_iadd hx hb dX0_sizeBy_18 ?_
  exact rt_i C hQ rfl hP hD hS ⟨u8_a0_left, u9_a0_numbers, rfl, hF⟩ dX0_sizeBy_19

def wpX2_sizeBy_k2 (v_a0_left : Int32) (v_a0_purse : Int32) (v_a0_memory : Int32) (v_a0_numbers : Nat → Int32) (pt : PT) (post : Int32 → Int32 → (Nat → Int32) → Prop) : Prop := wpX8_leave 12 v_a0_left v_a0_numbers (fun _ u2_a0_left u3_a0_numbers => wpX0_sizeBy_k2 u2_a0_left v_a0_purse v_a0_memory u3_a0_numbers pt (fun r4 u5_a0_left u6_a0_numbers => post (-r4) u5_a0_left u6_a0_numbers))
abbrev miX2_sizeBy : MI := (yX2_sizeBy, cX2_sizeBy, 2, (some .int))
theorem mfX2_sizeBy : MF miX2_sizeBy 1 := ⟨t4_76, t1_12, by decide +kernel⟩
abbrev rmX2_sizeBy_k2 : Room := { frames := 5, cells := 0, slots := 0, locals := 106 }
set_option maxHeartbeats 4000000 in
set_option maxRecDepth 100000 in
theorem ccX2_sizeBy_k2 (l : Launch) (D : va_G) (cy : Nat → ClassId) (pe : Pe) (a : Nat) (ha : a ∈ pe.1) (hk : (pe.2 a).1 = 2) (h_a0 : Nat) (h_a0_numbers : Nat) (v_a0_left : Int32) (v_a0_purse : Int32) (v_a0_memory : Int32) (v_a0_numbers : Nat → Int32) (post : Int32 → Int32 → (Nat → Int32) → Prop) (hF : wpX2_sizeBy_k2 v_a0_left v_a0_purse v_a0_memory v_a0_numbers (pe.2 a) post) : Ct l D cy miX2_sizeBy rmX2_sizeBy_k2 emI pe [.ref a, .ref h_a0] [(h_a0, .inr (7, [.ref h_a0_numbers, .int v_a0_left, .int v_a0_purse, .int v_a0_memory])), (h_a0_numbers, .inl (cy 0, 16, .inl v_a0_numbers))] (fun r w1 => ∃ (w_a0_left : Int32) (w_a0_numbers : Nat → Int32), w1 = [(h_a0, .inr (7, [.ref h_a0_numbers, .int w_a0_left, .int v_a0_purse, .int v_a0_memory])), (h_a0_numbers, .inl (cy 0, 16, .inl w_a0_numbers))] ∧ post r w_a0_left w_a0_numbers) := by
  refine Ct.of (by decide) (Nat.le_of_ble_eq_true rfl) ?_
  intro p e s m args below meth c A ls Q C hQ hA hI hP hD hS hl
  obtain ⟨hx, hb, hr, hml, hown, hts, hK, hlk, hnm⟩ := id C
  have hb : c.code = cX2_sizeBy := hb
  have hml : c.maxLocals = 2 := hml
  have hown : s.vm.findClass RX2 = some m.cls := hown
  have hl : lv_has ls 2 [(0, .ref a), (1, .ref h_a0)] := hl
  unfold wpX2_sizeBy_k2 at hF
  refine lv_aload_n hx hb dX2_sizeBy_0 rfl (lv_at hl 1 rfl) ?_
  refine lv_bipush (v := 12) hx hb dX2_sizeBy_1 (by decide) ?_
  refine cV_t (As := [.int 12]) (wr := []) C hA hP hD hS mfX8_leave t4_51 t4_52 t4_62 (ccX8_leave l D cy h_a0 h_a0_numbers v_a0_left v_a0_purse v_a0_memory v_a0_numbers 12 _ hF) [0, 1] [] rfl rfl (by decide) (by decide) (by decide) PO.np 0 7 rfl rfl rfl rfl hl.1 rfl (Nat.le_of_ble_eq_true rfl) dX2_sizeBy_3 ⟨Nat.le_of_ble_eq_true rfl, Nat.le_of_ble_eq_true rfl⟩ ⟨Nat.le_of_ble_eq_true rfl, Nat.le_of_ble_eq_true rfl⟩ ?_
  rintro ⟨⟩ w1 H locs ⟨u2_a0_left, u3_a0_numbers, rfl, hF⟩ hP hD hS
  have hP : va_P D CL [(h_a0, .inr (7, [.ref h_a0_numbers, .int u2_a0_left, .int v_a0_purse, .int v_a0_memory])), (h_a0_numbers, .inl (cy 0, 16, .inl u3_a0_numbers))] H := hP
  have hD : va_D A [(h_a0, .inr (7, [.ref h_a0_numbers, .int u2_a0_left, .int v_a0_purse, .int v_a0_memory])), (h_a0_numbers, .inl (cy 0, 16, .inl u3_a0_numbers))] := hD
  refine W.eq (g2 := F0 m 6 ls []) rfl ?_
  refine lv_aload_n hx hb dX2_sizeBy_6 rfl (lv_at hl 0 rfl) ?_
  refine lv_aload_n hx hb dX2_sizeBy_7 rfl (lv_at hl 1 rfl) ?_
  refine cX_t (As := [.ref h_a0]) (wr := []) C hA hP hD hS (hI.at hS) ha mfX0_sizeBy t4_48 t4_77 t6_12 t2_113 (by decide) (ccX0_sizeBy_k2 l D cy pe a ha hk h_a0 h_a0_numbers u2_a0_left v_a0_purse v_a0_memory u3_a0_numbers _ hF) [0, 1] [] rfl rfl (by decide) (by decide) (by decide) (hI.po hS hD [0, 1] rfl) rfl hl.1 rfl (Nat.le_of_ble_eq_true rfl) dX2_sizeBy_8 ⟨Nat.le_of_ble_eq_true rfl, Nat.le_of_ble_eq_true rfl⟩ ⟨Nat.le_of_ble_eq_true rfl, Nat.le_of_ble_eq_true rfl⟩ ?_
  rintro r4 w1 H locs ⟨u5_a0_left, u6_a0_numbers, rfl, hF⟩ hP hD hS
  have hP : va_P D CL [(h_a0, .inr (7, [.ref h_a0_numbers, .int u5_a0_left, .int v_a0_purse, .int v_a0_memory])), (h_a0_numbers, .inl (cy 0, 16, .inl u6_a0_numbers))] H := hP
  have hD : va_D A [(h_a0, .inr (7, [.ref h_a0_numbers, .int u5_a0_left, .int v_a0_purse, .int v_a0_memory])), (h_a0_numbers, .inl (cy 0, 16, .inl u6_a0_numbers))] := hD
  refine W.eq (g2 := F0 m 11 ls [.int r4]) rfl ?_
  refine lv_ineg hx hb dX2_sizeBy_11 ?_
  exact rt_i C hQ rfl hP hD hS ⟨u5_a0_left, u6_a0_numbers, rfl, hF⟩ dX2_sizeBy_12

def wpX5_helpOf_k3 (p0 : Int32) (pt : PT) (post : Int32 → Prop) : Prop := post (2 * p0)
abbrev miX5_helpOf : MI := (yX5_helpOf, cX5_helpOf, 2, (some .int))
theorem mfX5_helpOf : MF miX5_helpOf 1 := ⟨t2_217, t1_13, by decide +kernel⟩
abbrev rmX5_helpOf_k3 : Room := { frames := 0, cells := 0, slots := 0, locals := 0 }
set_option maxHeartbeats 4000000 in
set_option maxRecDepth 100000 in
theorem ccX5_helpOf_k3 (l : Launch) (D : va_G) (cy : Nat → ClassId) (pe : Pe) (a : Nat) (ha : a ∈ pe.1) (hk : (pe.2 a).1 = 3) (p0 : Int32) (post : Int32 → Prop) (hF : wpX5_helpOf_k3 p0 (pe.2 a) post) : Cr l D cy miX5_helpOf rmX5_helpOf_k3 emI pe [.ref a, .int p0] [] post := by
  refine Cr.of (by decide) (Nat.le_of_ble_eq_true rfl) ?_
  intro p e s m args below meth c ls Q C hQ hO hP hl
  obtain ⟨hx, hb, hr, hml, hown, hts, hK, hlk, hnm⟩ := id C
  have hb : c.code = cX5_helpOf := hb
  have hml : c.maxLocals = 2 := hml
  have hown : s.vm.findClass RX5 = some m.cls := hown
  have hl : lv_has ls 2 [(0, .ref a), (1, .int p0)] := hl
  unfold wpX5_helpOf_k3 at hF
  refine lv_iconst (v := 2) hx hb dX5_helpOf_0 (by decide) ?_
  refine lv_iload_n hx hb dX5_helpOf_1 rfl (lv_at hl 1 rfl) ?_
  refine lv_imul hx hb dX5_helpOf_2 ?_
  exact rr_i C hQ rfl hF dX5_helpOf_3

def wpX5_bringsBy_k3 (p0 : Bool) (pt : PT) (post : Int32 → Prop) : Prop := (p0 = false → (post 0)) ∧ (p0 = true → (post pt.2.2.2.1))
abbrev miX5_bringsBy : MI := (yX5_bringsBy, cX5_bringsBy, 2, (some .int))
theorem mfX5_bringsBy : MF miX5_bringsBy 1 := ⟨t3_32, t1_13, by decide +kernel⟩
abbrev rmX5_bringsBy_k3 : Room := { frames := 0, cells := 0, slots := 0, locals := 0 }
set_option maxHeartbeats 4000000 in
set_option maxRecDepth 100000 in
theorem ccX5_bringsBy_k3 (l : Launch) (D : va_G) (cy : Nat → ClassId) (pe : Pe) (a : Nat) (ha : a ∈ pe.1) (hk : (pe.2 a).1 = 3) (p0 : Bool) (post : Int32 → Prop) (hF : wpX5_bringsBy_k3 p0 (pe.2 a) post) : Cr l D cy miX5_bringsBy rmX5_bringsBy_k3 emI pe [.ref a, .int (bz p0)] [] post := by
  refine Cr.of (by decide) (Nat.le_of_ble_eq_true rfl) ?_
  intro p e s m args below meth c ls Q C hQ hO hP hl
  obtain ⟨hx, hb, hr, hml, hown, hts, hK, hlk, hnm⟩ := id C
  have hb : c.code = cX5_bringsBy := hb
  have hml : c.maxLocals = 2 := hml
  have hown : s.vm.findClass RX5 = some m.cls := hown
  have hl : lv_has ls 2 [(0, .ref a), (1, .int (bz p0))] := hl
  unfold wpX5_bringsBy_k3 at hF
  refine lv_iload_n hx hb dX5_bringsBy_0 rfl (lv_at hl 1 rfl) ?_
  refine lv_if_eq (tgt := 11) hx hb dX5_bringsBy_1 (by decide) (fun c_ => ?_) (fun c_ => ?_)
  · have hF := hF.1 ((bz_0 _).mp c_)
    refine lv_iconst (v := 0) hx hb dX5_bringsBy_11 (by decide) ?_
    exact rr_i C hQ rfl hF dX5_bringsBy_12
  · have hF := hF.2 ((bz_1 _).mp c_)
    refine lv_aload_n hx hb dX5_bringsBy_4 rfl (lv_at hl 0 rfl) ?_
    refine pe_get2 C hO ha (hts _ t2_89) (sameF_gain (hts _ t2_90)) dX5_bringsBy_5 ?_
    refine lv_goto (tgt := 12) hx hb dX5_bringsBy_8 (by decide) ?_
    exact rr_i C hQ rfl hF dX5_bringsBy_12

def wpX3_beginsWithRight_k3 (pt : PT) (post : Bool → Prop) : Prop := post true
abbrev rmX3_beginsWithRight_k3 : Room := { frames := 0, cells := 0, slots := 0, locals := 0 }
set_option maxHeartbeats 4000000 in
set_option maxRecDepth 100000 in
theorem ccX3_beginsWithRight_k3 (l : Launch) (D : va_G) (cy : Nat → ClassId) (pe : Pe) (a : Nat) (ha : a ∈ pe.1) (hk : (pe.2 a).1 = 3) (post : Bool → Prop) (hF : wpX3_beginsWithRight_k3 (pe.2 a) post) : Cr l D cy miX3_beginsWithRight rmX3_beginsWithRight_k3 emB pe [.ref a] [] post := by
  refine Cr.of (by decide) (Nat.le_of_ble_eq_true rfl) ?_
  intro p e s m args below meth c ls Q C hQ hO hP hl
  obtain ⟨hx, hb, hr, hml, hown, hts, hK, hlk, hnm⟩ := id C
  have hb : c.code = cX3_beginsWithRight := hb
  have hml : c.maxLocals = 1 := hml
  have hown : s.vm.findClass RX3 = some m.cls := hown
  have hl : lv_has ls 1 [(0, .ref a)] := hl
  unfold wpX3_beginsWithRight_k3 at hF
  refine lv_iconst (v := 1) hx hb dX3_beginsWithRight_0 (by decide) ?_
  refine W.eq (g2 := F0 m 1 ls [.int (bz true)]) rfl ?_
  exact rr_b C hQ rfl hF dX3_beginsWithRight_1

def wpX3_mayUseRight_k3 (pt : PT) (post : Bool → Prop) : Prop := post true
abbrev rmX3_mayUseRight_k3 : Room := { frames := 0, cells := 0, slots := 0, locals := 0 }
set_option maxHeartbeats 4000000 in
set_option maxRecDepth 100000 in
theorem ccX3_mayUseRight_k3 (l : Launch) (D : va_G) (cy : Nat → ClassId) (pe : Pe) (a : Nat) (ha : a ∈ pe.1) (hk : (pe.2 a).1 = 3) (post : Bool → Prop) (hF : wpX3_mayUseRight_k3 (pe.2 a) post) : Cr l D cy miX3_mayUseRight rmX3_mayUseRight_k3 emB pe [.ref a] [] post := by
  refine Cr.of (by decide) (Nat.le_of_ble_eq_true rfl) ?_
  intro p e s m args below meth c ls Q C hQ hO hP hl
  obtain ⟨hx, hb, hr, hml, hown, hts, hK, hlk, hnm⟩ := id C
  have hb : c.code = cX3_mayUseRight := hb
  have hml : c.maxLocals = 1 := hml
  have hown : s.vm.findClass RX3 = some m.cls := hown
  have hl : lv_has ls 1 [(0, .ref a)] := hl
  unfold wpX3_mayUseRight_k3 at hF
  refine lv_iconst (v := 1) hx hb dX3_mayUseRight_0 (by decide) ?_
  refine W.eq (g2 := F0 m 1 ls [.int (bz true)]) rfl ?_
  exact rr_b C hQ rfl hF dX3_mayUseRight_1

def wpX5_ownKind_k3 (pt : PT) (post : Int32 → Prop) : Prop := post 3
abbrev miX5_ownKind : MI := (yX5_ownKind, cX5_ownKind, 1, (some .int))
theorem mfX5_ownKind : MF miX5_ownKind 0 := ⟨t4_17, t1_13, by decide +kernel⟩
abbrev rmX5_ownKind_k3 : Room := { frames := 0, cells := 0, slots := 0, locals := 0 }
set_option maxHeartbeats 4000000 in
set_option maxRecDepth 100000 in
theorem ccX5_ownKind_k3 (l : Launch) (D : va_G) (cy : Nat → ClassId) (pe : Pe) (a : Nat) (ha : a ∈ pe.1) (hk : (pe.2 a).1 = 3) (post : Int32 → Prop) (hF : wpX5_ownKind_k3 (pe.2 a) post) : Cr l D cy miX5_ownKind rmX5_ownKind_k3 emI pe [.ref a] [] post := by
  refine Cr.of (by decide) (Nat.le_of_ble_eq_true rfl) ?_
  intro p e s m args below meth c ls Q C hQ hO hP hl
  obtain ⟨hx, hb, hr, hml, hown, hts, hK, hlk, hnm⟩ := id C
  have hb : c.code = cX5_ownKind := hb
  have hml : c.maxLocals = 1 := hml
  have hown : s.vm.findClass RX5 = some m.cls := hown
  have hl : lv_has ls 1 [(0, .ref a)] := hl
  unfold wpX5_ownKind_k3 at hF
  refine lv_iconst (v := 3) hx hb dX5_ownKind_0 (by decide) ?_
  exact rr_i C hQ rfl hF dX5_ownKind_1

def wpX3_oddsBy_k3 (p0 : Int32) (pt : PT) (post : Int32 → Prop) : Prop := wpX5_helpOf_k3 p0 pt (fun r1 => post (if (pt.2.2.1 + r1) < 10 then (pt.2.2.1 + r1) else 10))
abbrev rmX3_oddsBy_k3 : Room := { frames := 1, cells := 0, slots := 0, locals := 21 }
set_option maxHeartbeats 4000000 in
set_option maxRecDepth 100000 in
theorem ccX3_oddsBy_k3 (l : Launch) (D : va_G) (cy : Nat → ClassId) (pe : Pe) (a : Nat) (ha : a ∈ pe.1) (hk : (pe.2 a).1 = 3) (p0 : Int32) (post : Int32 → Prop) (hF : wpX3_oddsBy_k3 p0 (pe.2 a) post) : Cr l D cy miX3_oddsBy rmX3_oddsBy_k3 emI pe [.ref a, .int p0] [] post := by
  refine Cr.of (by decide) (Nat.le_of_ble_eq_true rfl) ?_
  intro p e s m args below meth c ls Q C hQ hO hP hl
  obtain ⟨hx, hb, hr, hml, hown, hts, hK, hlk, hnm⟩ := id C
  have hb : c.code = cX3_oddsBy := hb
  have hml : c.maxLocals = 2 := hml
  have hown : s.vm.findClass RX3 = some m.cls := hown
  have hl : lv_has ls 2 [(0, .ref a), (1, .int p0)] := hl
  unfold wpX3_oddsBy_k3 at hF
  refine lv_bipush (v := 10) hx hb dX3_oddsBy_0 (by decide) ?_
  refine lv_aload_n hx hb dX3_oddsBy_2 rfl (lv_at hl 0 rfl) ?_
  refine pe_get1 C hO ha (hts _ t2_86) (fun _ h9 => h9) dX3_oddsBy_3 ?_
  refine lv_aload_n hx hb dX3_oddsBy_6 rfl (lv_at hl 0 rfl) ?_
  refine lv_iload_n hx hb dX3_oddsBy_7 rfl (lv_at hl 1 rfl) ?_
  refine cU_r (As := [.int p0]) C hO ha hk ⟨"LivedAgain$Person", "helpOf", "(I)I"⟩ "LivedAgain$Person" mfX5_helpOf t2_216 t2_210 t2_212 (va_Decl.of (hts _ t2_211) (hts _ t2_220)) t2_215 (by decide +kernel) (ccX5_helpOf_k3 l D cy pe a ha hk p0 _ hF) rfl rfl rfl hl.1 rfl (Nat.le_of_ble_eq_true rfl) dX3_oddsBy_8 ⟨Nat.le_of_ble_eq_true rfl, Nat.le_of_ble_eq_true rfl⟩ ⟨Nat.le_of_ble_eq_true rfl, Nat.le_of_ble_eq_true rfl⟩ ?_
  intro r1 hF
  refine W.eq (g2 := F0 m 11 ls [.int r1, .int ((pe.2 a).2.2.1), .int 10]) rfl ?_
  refine lv_iadd hx hb dX3_oddsBy_11 ?_
  refine va_mmin hx hb (hml.trans hl.1.symm) hown (hts _ t2_221) (hts _ t2_153) (hts _ t1_16) (hts _ t2_154) (by decide) (Nat.le_of_ble_eq_true rfl) (by decide) (by decide) dX3_oddsBy_12 ?_
  exact rr_i C hQ rfl hF dX3_oddsBy_15

def wpX3_waysToGo_k3 (p0 : Int32) (p1 : Bool) (pt : PT) (post : Int32 → Prop) : Prop := wpX3_oddsBy_k3 p0 pt (fun r1 => (p1 = false → (post (10 - r1))) ∧ (p1 = true → (post r1)))
abbrev rmX3_waysToGo_k3 : Room := { frames := 2, cells := 0, slots := 0, locals := 42 }
set_option maxHeartbeats 4000000 in
set_option maxRecDepth 100000 in
theorem ccX3_waysToGo_k3 (l : Launch) (D : va_G) (cy : Nat → ClassId) (pe : Pe) (a : Nat) (ha : a ∈ pe.1) (hk : (pe.2 a).1 = 3) (p0 : Int32) (p1 : Bool) (post : Int32 → Prop) (hF : wpX3_waysToGo_k3 p0 p1 (pe.2 a) post) : Cr l D cy miX3_waysToGo rmX3_waysToGo_k3 emI pe [.ref a, .int p0, .int (bz p1)] [] post := by
  refine Cr.of (by decide) (Nat.le_of_ble_eq_true rfl) ?_
  intro p e s m args below meth c ls Q C hQ hO hP hl
  obtain ⟨hx, hb, hr, hml, hown, hts, hK, hlk, hnm⟩ := id C
  have hb : c.code = cX3_waysToGo := hb
  have hml : c.maxLocals = 4 := hml
  have hown : s.vm.findClass RX3 = some m.cls := hown
  have hl : lv_has ls 4 [(0, .ref a), (1, .int p0), (2, .int (bz p1))] := hl
  unfold wpX3_waysToGo_k3 at hF
  refine lv_aload_n hx hb dX3_waysToGo_0 rfl (lv_at hl 0 rfl) ?_
  refine lv_iload_n hx hb dX3_waysToGo_1 rfl (lv_at hl 1 rfl) ?_
  refine cU_r (As := [.int p0]) C hO ha hk ⟨"LivedAgain$Person", "oddsBy", "(I)I"⟩ "LivedAgain$Person" mfX3_oddsBy t2_202 t3_105 t2_203 (va_Decl.of (hts _ t2_202) (hts _ t2_209)) t2_206 (by decide +kernel) (ccX3_oddsBy_k3 l D cy pe a ha hk p0 _ hF) rfl rfl rfl hl.1 rfl (Nat.le_of_ble_eq_true rfl) dX3_waysToGo_2 ⟨Nat.le_of_ble_eq_true rfl, Nat.le_of_ble_eq_true rfl⟩ ⟨Nat.le_of_ble_eq_true rfl, Nat.le_of_ble_eq_true rfl⟩ ?_
  intro r1 hF
  refine W.eq (g2 := F0 m 5 ls [.int r1]) rfl ?_
  refine lv_istore_n (lv' := [(3, .int r1), (0, .ref a), (1, .int p0), (2, .int (bz p1))]) hx hb dX3_waysToGo_5 rfl hl (by decide) rfl (fun ls hl => ?_)
  refine lv_iload_n hx hb dX3_waysToGo_6 rfl (lv_at hl 3 rfl) ?_
  refine lv_if_eq (tgt := 14) hx hb dX3_waysToGo_7 (by decide) (fun c_ => ?_) (fun c_ => ?_)
  · have hF := hF.1 ((bz_0 _).mp c_)
    refine lv_bipush (v := 10) hx hb dX3_waysToGo_14 (by decide) ?_
    refine lv_iload_n hx hb dX3_waysToGo_16 rfl (lv_at hl 0 rfl) ?_
    refine lv_isub hx hb dX3_waysToGo_17 ?_
    exact rr_i C hQ rfl hF dX3_waysToGo_18
  · have hF := hF.2 ((bz_1 _).mp c_)
    refine lv_iload_n hx hb dX3_waysToGo_10 rfl (lv_at hl 0 rfl) ?_
    refine lv_goto (tgt := 18) hx hb dX3_waysToGo_11 (by decide) ?_
    exact rr_i C hQ rfl hF dX3_waysToGo_18

def wpX3_meanTenths_k3 (p0 : Int32) (pt : PT) (post : Int64 → Prop) : Prop := wpX3_waysToGo_k3 p0 true pt (fun r1 => wpX5_bringsBy_k3 true pt (fun r2 => wpX3_waysToGo_k3 p0 false pt (fun r3 => wpX5_bringsBy_k3 false pt (fun r4 => post ((((r1).toInt64) * ((r2).toInt64)) + (((r3).toInt64) * ((r4).toInt64)))))))
abbrev rmX3_meanTenths_k3 : Room := { frames := 3, cells := 0, slots := 0, locals := 65 }
set_option maxHeartbeats 4000000 in
set_option maxRecDepth 100000 in
theorem ccX3_meanTenths_k3 (l : Launch) (D : va_G) (cy : Nat → ClassId) (pe : Pe) (a : Nat) (ha : a ∈ pe.1) (hk : (pe.2 a).1 = 3) (p0 : Int32) (post : Int64 → Prop) (hF : wpX3_meanTenths_k3 p0 (pe.2 a) post) : Cr l D cy miX3_meanTenths rmX3_meanTenths_k3 emL pe [.ref a, .int p0] [] post := by
  refine Cr.of (by decide) (Nat.le_of_ble_eq_true rfl) ?_
  intro p e s m args below meth c ls Q C hQ hO hP hl
  obtain ⟨hx, hb, hr, hml, hown, hts, hK, hlk, hnm⟩ := id C
  have hb : c.code = cX3_meanTenths := hb
  have hml : c.maxLocals = 2 := hml
  have hown : s.vm.findClass RX3 = some m.cls := hown
  have hl : lv_has ls 2 [(0, .ref a), (1, .int p0)] := hl
  unfold wpX3_meanTenths_k3 at hF
  refine lv_aload_n hx hb dX3_meanTenths_0 rfl (lv_at hl 0 rfl) ?_
  refine lv_iload_n hx hb dX3_meanTenths_1 rfl (lv_at hl 1 rfl) ?_
  refine lv_iconst (v := 1) hx hb dX3_meanTenths_2 (by decide) ?_
  refine cU_r (As := [.int p0, .int (bz true)]) C hO ha hk ⟨"LivedAgain$Person", "waysToGo", "(IZ)I"⟩ "LivedAgain$Person" mfX3_waysToGo t3_97 t3_188 t3_98 (va_Decl.of (hts _ t3_97) (hts _ t3_104)) t3_101 (by decide +kernel) (ccX3_waysToGo_k3 l D cy pe a ha hk p0 true _ hF) rfl rfl rfl hl.1 rfl (Nat.le_of_ble_eq_true rfl) dX3_meanTenths_3 ⟨Nat.le_of_ble_eq_true rfl, Nat.le_of_ble_eq_true rfl⟩ ⟨Nat.le_of_ble_eq_true rfl, Nat.le_of_ble_eq_true rfl⟩ ?_
  intro r1 hF
  refine W.eq (g2 := F0 m 6 ls [.int r1]) rfl ?_
  refine lv_i2l hx hb dX3_meanTenths_6 rfl ?_
  refine lv_aload_n hx hb dX3_meanTenths_7 rfl (lv_at hl 0 rfl) ?_
  refine lv_iconst (v := 1) hx hb dX3_meanTenths_8 (by decide) ?_
  refine cU_r (As := [.int (bz true)]) C hO ha hk ⟨"LivedAgain$Person", "bringsBy", "(Z)I"⟩ "LivedAgain$Person" mfX5_bringsBy t3_31 t3_189 t3_22 (va_Decl.of (hts _ t3_21) (hts _ t3_35)) t3_30 (by decide +kernel) (ccX5_bringsBy_k3 l D cy pe a ha hk true _ hF) rfl rfl rfl hl.1 rfl (Nat.le_of_ble_eq_true rfl) dX3_meanTenths_9 ⟨Nat.le_of_ble_eq_true rfl, Nat.le_of_ble_eq_true rfl⟩ ⟨Nat.le_of_ble_eq_true rfl, Nat.le_of_ble_eq_true rfl⟩ ?_
  intro r2 hF
  refine W.eq (g2 := F0 m 12 ls [.int r2, .long ((r1).toInt64)]) rfl ?_
  refine lv_i2l hx hb dX3_meanTenths_12 rfl ?_
  refine lv_lmul hx hb dX3_meanTenths_13 ?_
  refine lv_aload_n hx hb dX3_meanTenths_14 rfl (lv_at hl 0 rfl) ?_
  refine lv_iload_n hx hb dX3_meanTenths_15 rfl (lv_at hl 1 rfl) ?_
  refine lv_iconst (v := 0) hx hb dX3_meanTenths_16 (by decide) ?_
  refine cU_r (As := [.int p0, .int (bz false)]) C hO ha hk ⟨"LivedAgain$Person", "waysToGo", "(IZ)I"⟩ "LivedAgain$Person" mfX3_waysToGo t3_97 t3_188 t3_98 (va_Decl.of (hts _ t3_97) (hts _ t3_104)) t3_101 (by decide +kernel) (ccX3_waysToGo_k3 l D cy pe a ha hk p0 false _ hF) rfl rfl rfl hl.1 rfl (Nat.le_of_ble_eq_true rfl) dX3_meanTenths_17 ⟨Nat.le_of_ble_eq_true rfl, Nat.le_of_ble_eq_true rfl⟩ ⟨Nat.le_of_ble_eq_true rfl, Nat.le_of_ble_eq_true rfl⟩ ?_
  intro r3 hF
  refine W.eq (g2 := F0 m 20 ls [.int r3, .long (((r1).toInt64) * ((r2).toInt64))]) rfl ?_
  refine lv_i2l hx hb dX3_meanTenths_20 rfl ?_
  refine lv_aload_n hx hb dX3_meanTenths_21 rfl (lv_at hl 0 rfl) ?_
  refine lv_iconst (v := 0) hx hb dX3_meanTenths_22 (by decide) ?_
  refine cU_r (As := [.int (bz false)]) C hO ha hk ⟨"LivedAgain$Person", "bringsBy", "(Z)I"⟩ "LivedAgain$Person" mfX5_bringsBy t3_31 t3_189 t3_22 (va_Decl.of (hts _ t3_21) (hts _ t3_35)) t3_30 (by decide +kernel) (ccX5_bringsBy_k3 l D cy pe a ha hk false _ hF) rfl rfl rfl hl.1 rfl (Nat.le_of_ble_eq_true rfl) dX3_meanTenths_23 ⟨Nat.le_of_ble_eq_true rfl, Nat.le_of_ble_eq_true rfl⟩ ⟨Nat.le_of_ble_eq_true rfl, Nat.le_of_ble_eq_true rfl⟩ ?_
  intro r4 hF
  refine W.eq (g2 := F0 m 26 ls [.int r4, .long ((r3).toInt64), .long (((r1).toInt64) * ((r2).toInt64))]) rfl ?_
  refine lv_i2l hx hb dX3_meanTenths_26 rfl ?_
  refine lv_lmul hx hb dX3_meanTenths_27 ?_
  refine lv_ladd hx hb dX3_meanTenths_28 ?_
  exact rr_l C hQ rfl hF dX3_meanTenths_29

def wlX3_worthOfRight_k3_36 (pt : PT) (post : Int64 → Prop) : Nat → Int32 → Int64 → Int64 → Int64 → Int32 → Prop
  | 0, _, _, _, _, _ => False
  | n + 1, l1, l2, l4, l6, l8 => (l1 ≤ l8 → (post l6)) ∧ (¬ l1 ≤ l8 → (wpX5_bringsBy_k3 true pt (fun r1 => wpX5_bringsBy_k3 false pt (fun r2 => wpX3_waysToGo_k3 0 true pt (fun r3 => wpX3_waysToGo_k3 0 false pt (fun r4 => (wlX3_worthOfRight_k3_36 pt post n) l1 l2 l4 ((((((r3).toInt64) * (if l2 < ((((r1).toInt64) * 10000) + l6) then ((((r1).toInt64) * 10000) + l6) else l2)) + (((r4).toInt64) * (if l2 < ((((r2).toInt64) * 10000) + l6) then ((((r2).toInt64) * 10000) + l6) else l2))) / 10) - l4) (l8 + 1)))))))
def wpX3_worthOfRight_k3 (p0 : Int32) (pt : PT) (post : Int64 → Prop) : Prop := wpX3_mayUseRight_k3 pt (fun r1 => (r1 = true → (wpX3_meanTenths_k3 1 pt (fun r2 => wpX3_meanTenths_k3 0 pt (fun r3 => wlX3_worthOfRight_k3_36 pt post fu p0 (r2 * 1000) (r3 * 1000) 0 0)))) ∧ (r1 = false → (post 0)))
abbrev rmX3_worthOfRight_k3 : Room := { frames := 4, cells := 0, slots := 0, locals := 86 }
set_option maxHeartbeats 4000000 in
set_option maxRecDepth 100000 in
theorem ccX3_worthOfRight_k3 (l : Launch) (D : va_G) (cy : Nat → ClassId) (pe : Pe) (a : Nat) (ha : a ∈ pe.1) (hk : (pe.2 a).1 = 3) (p0 : Int32) (post : Int64 → Prop) (hF : wpX3_worthOfRight_k3 p0 (pe.2 a) post) : Cr l D cy miX3_worthOfRight rmX3_worthOfRight_k3 emL pe [.ref a, .int p0] [] post := by
  refine Cr.of (by decide) (Nat.le_of_ble_eq_true rfl) ?_
  intro p e s m args below meth c ls Q C hQ hO hP hl
  obtain ⟨hx, hb, hr, hml, hown, hts, hK, hlk, hnm⟩ := id C
  have hb : c.code = cX3_worthOfRight := hb
  have hml : c.maxLocals = 13 := hml
  have hown : s.vm.findClass RX3 = some m.cls := hown
  have hl : lv_has ls 13 [(0, .ref a), (1, .int p0)] := hl
  have L_36 : ∀ (n_36 : Nat) (l1 : Int32) (l2 : Int64) (l4 : Int64) (l6 : Int64) (l8 : Int32) (ls : Array Slot), lv_has ls 13 [(0, .ref a), (1, .int l1), (2, .long l2), (4, .long l4), (6, .long l6), (8, .int l8)] → wlX3_worthOfRight_k3_36 (pe.2 a) post n_36 l1 l2 l4 l6 l8 → W p l e rmX3_worthOfRight_k3 s m args below meth c s.heap [] 0 0 Q (F0 m 36 ls []) := by
    intro n_36
    induction n_36 with
    | zero =>
      intro l1 l2 l4 l6 l8 ls  hl hF
      simp only [wlX3_worthOfRight_k3_36] at hF
    | succ n_36 ih_36 =>
      intro l1 l2 l4 l6 l8 ls  hl hF
      unfold wlX3_worthOfRight_k3_36 at hF
      refine lv_iload hx hb dX3_worthOfRight_36 (lv_at hl 5 rfl) ?_
      refine lv_iload_n hx hb dX3_worthOfRight_38 rfl (lv_at hl 1 rfl) ?_
      refine lv_icmp_ge (tgt := 116) hx hb dX3_worthOfRight_39 (by decide) (fun c_ => ?_) (fun c_ => ?_)
      · have hF := hF.1 c_
        refine lv_lload hx hb dX3_worthOfRight_116 (lv_at hl 4 rfl) ?_
        exact rr_l C hQ rfl hF dX3_worthOfRight_118
      · have hF := hF.2 c_
        refine lv_aload_n hx hb dX3_worthOfRight_42 rfl (lv_at hl 0 rfl) ?_
        refine lv_iconst (v := 1) hx hb dX3_worthOfRight_43 (by decide) ?_
        refine cU_r (As := [.int (bz true)]) C hO ha hk ⟨"LivedAgain$Person", "bringsBy", "(Z)I"⟩ "LivedAgain$Person" mfX5_bringsBy t3_31 t3_189 t3_22 (va_Decl.of (hts _ t3_21) (hts _ t3_35)) t3_30 (by decide +kernel) (ccX5_bringsBy_k3 l D cy pe a ha hk true _ hF) rfl rfl rfl hl.1 rfl (Nat.le_of_ble_eq_true rfl) dX3_worthOfRight_44 ⟨Nat.le_of_ble_eq_true rfl, Nat.le_of_ble_eq_true rfl⟩ ⟨Nat.le_of_ble_eq_true rfl, Nat.le_of_ble_eq_true rfl⟩ ?_
        intro r1 hF
        refine W.eq (g2 := F0 m 47 ls [.int r1]) rfl ?_
        refine lv_i2l hx hb dX3_worthOfRight_47 rfl ?_
        refine lv_ldc2 hx hb hown (hts _ t3_191) dX3_worthOfRight_48 ?_
        refine lv_lmul hx hb dX3_worthOfRight_51 ?_
        refine lv_lload hx hb dX3_worthOfRight_52 (lv_at hl 4 rfl) ?_
        refine lv_ladd hx hb dX3_worthOfRight_54 ?_
        refine lv_lload_n hx hb dX3_worthOfRight_55 rfl (lv_at hl 2 rfl) ?_
        refine va_mmax_long hx hb (hml.trans hl.1.symm) hown (hts _ t3_192) (hts _ t3_193) (hts _ t1_16) (hts _ t3_194) (by decide) (Nat.le_of_ble_eq_true rfl) (by decide) (by decide) dX3_worthOfRight_56 ?_
        refine lv_lstore (lv' := [(9, .long (if l2 < ((((r1).toInt64) * 10000) + l6) then ((((r1).toInt64) * 10000) + l6) else l2)), (0, .ref a), (1, .int l1), (2, .long l2), (4, .long l4), (6, .long l6), (8, .int l8)]) hx hb dX3_worthOfRight_59 hl (by decide) rfl (fun ls hl => ?_)
        refine lv_aload_n hx hb dX3_worthOfRight_61 rfl (lv_at hl 1 rfl) ?_
        refine lv_iconst (v := 0) hx hb dX3_worthOfRight_62 (by decide) ?_
        refine cU_r (As := [.int (bz false)]) C hO ha hk ⟨"LivedAgain$Person", "bringsBy", "(Z)I"⟩ "LivedAgain$Person" mfX5_bringsBy t3_31 t3_189 t3_22 (va_Decl.of (hts _ t3_21) (hts _ t3_35)) t3_30 (by decide +kernel) (ccX5_bringsBy_k3 l D cy pe a ha hk false _ hF) rfl rfl rfl hl.1 rfl (Nat.le_of_ble_eq_true rfl) dX3_worthOfRight_63 ⟨Nat.le_of_ble_eq_true rfl, Nat.le_of_ble_eq_true rfl⟩ ⟨Nat.le_of_ble_eq_true rfl, Nat.le_of_ble_eq_true rfl⟩ ?_
        intro r2 hF
        refine W.eq (g2 := F0 m 66 ls [.int r2]) rfl ?_
        refine lv_i2l hx hb dX3_worthOfRight_66 rfl ?_
        refine lv_ldc2 hx hb hown (hts _ t3_191) dX3_worthOfRight_67 ?_
        refine lv_lmul hx hb dX3_worthOfRight_70 ?_
        refine lv_lload hx hb dX3_worthOfRight_71 (lv_at hl 5 rfl) ?_
        refine lv_ladd hx hb dX3_worthOfRight_73 ?_
        refine lv_lload_n hx hb dX3_worthOfRight_74 rfl (lv_at hl 3 rfl) ?_
        refine va_mmax_long hx hb (hml.trans hl.1.symm) hown (hts _ t3_192) (hts _ t3_193) (hts _ t1_16) (hts _ t3_194) (by decide) (Nat.le_of_ble_eq_true rfl) (by decide) (by decide) dX3_worthOfRight_75 ?_
        refine lv_lstore (lv' := [(11, .long (if l2 < ((((r2).toInt64) * 10000) + l6) then ((((r2).toInt64) * 10000) + l6) else l2)), (9, .long (if l2 < ((((r1).toInt64) * 10000) + l6) then ((((r1).toInt64) * 10000) + l6) else l2)), (0, .ref a), (1, .int l1), (2, .long l2), (4, .long l4), (6, .long l6), (8, .int l8)]) hx hb dX3_worthOfRight_78 hl (by decide) rfl (fun ls hl => ?_)
        refine lv_aload_n hx hb dX3_worthOfRight_80 rfl (lv_at hl 2 rfl) ?_
        refine lv_iconst (v := 0) hx hb dX3_worthOfRight_81 (by decide) ?_
        refine lv_iconst (v := 1) hx hb dX3_worthOfRight_82 (by decide) ?_
        refine cU_r (As := [.int 0, .int (bz true)]) C hO ha hk ⟨"LivedAgain$Person", "waysToGo", "(IZ)I"⟩ "LivedAgain$Person" mfX3_waysToGo t3_97 t3_188 t3_98 (va_Decl.of (hts _ t3_97) (hts _ t3_104)) t3_101 (by decide +kernel) (ccX3_waysToGo_k3 l D cy pe a ha hk 0 true _ hF) rfl rfl rfl hl.1 rfl (Nat.le_of_ble_eq_true rfl) dX3_worthOfRight_83 ⟨Nat.le_of_ble_eq_true rfl, Nat.le_of_ble_eq_true rfl⟩ ⟨Nat.le_of_ble_eq_true rfl, Nat.le_of_ble_eq_true rfl⟩ ?_
        intro r3 hF
        refine W.eq (g2 := F0 m 86 ls [.int r3]) rfl ?_
        refine lv_i2l hx hb dX3_worthOfRight_86 rfl ?_
        refine lv_lload hx hb dX3_worthOfRight_87 (lv_at hl 1 rfl) ?_
        refine lv_lmul hx hb dX3_worthOfRight_89 ?_
        refine lv_aload_n hx hb dX3_worthOfRight_90 rfl (lv_at hl 2 rfl) ?_
        refine lv_iconst (v := 0) hx hb dX3_worthOfRight_91 (by decide) ?_
        refine lv_iconst (v := 0) hx hb dX3_worthOfRight_92 (by decide) ?_
        refine cU_r (As := [.int 0, .int (bz false)]) C hO ha hk ⟨"LivedAgain$Person", "waysToGo", "(IZ)I"⟩ "LivedAgain$Person" mfX3_waysToGo t3_97 t3_188 t3_98 (va_Decl.of (hts _ t3_97) (hts _ t3_104)) t3_101 (by decide +kernel) (ccX3_waysToGo_k3 l D cy pe a ha hk 0 false _ hF) rfl rfl rfl hl.1 rfl (Nat.le_of_ble_eq_true rfl) dX3_worthOfRight_93 ⟨Nat.le_of_ble_eq_true rfl, Nat.le_of_ble_eq_true rfl⟩ ⟨Nat.le_of_ble_eq_true rfl, Nat.le_of_ble_eq_true rfl⟩ ?_
        intro r4 hF
        refine W.eq (g2 := F0 m 96 ls [.int r4, .long (((r3).toInt64) * (if l2 < ((((r1).toInt64) * 10000) + l6) then ((((r1).toInt64) * 10000) + l6) else l2))]) rfl ?_
        refine lv_i2l hx hb dX3_worthOfRight_96 rfl ?_
        refine lv_lload hx hb dX3_worthOfRight_97 (lv_at hl 0 rfl) ?_
        refine lv_lmul hx hb dX3_worthOfRight_99 ?_
        refine lv_ladd hx hb dX3_worthOfRight_100 ?_
        refine lv_ldc2 hx hb hown (hts _ t3_195) dX3_worthOfRight_101 ?_
        refine lv_ldiv hx hb dX3_worthOfRight_104 (by decide) ?_
        refine lv_lload hx hb dX3_worthOfRight_105 (lv_at hl 5 rfl) ?_
        refine lv_lsub hx hb dX3_worthOfRight_107 ?_
        refine lv_lstore (lv' := [(6, .long ((((((r3).toInt64) * (if l2 < ((((r1).toInt64) * 10000) + l6) then ((((r1).toInt64) * 10000) + l6) else l2)) + (((r4).toInt64) * (if l2 < ((((r2).toInt64) * 10000) + l6) then ((((r2).toInt64) * 10000) + l6) else l2))) / 10) - l4)), (11, .long (if l2 < ((((r2).toInt64) * 10000) + l6) then ((((r2).toInt64) * 10000) + l6) else l2)), (9, .long (if l2 < ((((r1).toInt64) * 10000) + l6) then ((((r1).toInt64) * 10000) + l6) else l2)), (0, .ref a), (1, .int l1), (2, .long l2), (4, .long l4), (8, .int l8)]) hx hb dX3_worthOfRight_108 hl (by decide) rfl (fun ls hl => ?_)
        refine lv_iinc (v := (l8 + 1)) (lv' := [(8, .int (l8 + 1)), (6, .long ((((((r3).toInt64) * (if l2 < ((((r1).toInt64) * 10000) + l6) then ((((r1).toInt64) * 10000) + l6) else l2)) + (((r4).toInt64) * (if l2 < ((((r2).toInt64) * 10000) + l6) then ((((r2).toInt64) * 10000) + l6) else l2))) / 10) - l4)), (11, .long (if l2 < ((((r2).toInt64) * 10000) + l6) then ((((r2).toInt64) * 10000) + l6) else l2)), (9, .long (if l2 < ((((r1).toInt64) * 10000) + l6) then ((((r1).toInt64) * 10000) + l6) else l2)), (0, .ref a), (1, .int l1), (2, .long l2), (4, .long l4)]) hx hb dX3_worthOfRight_110 hl (k := 7) rfl rfl (by decide) rfl (fun ls hl => ?_)
        refine lv_goto (tgt := 36) hx hb dX3_worthOfRight_113 (by decide) ?_
        exact ih_36 l1 l2 l4 ((((((r3).toInt64) * (if l2 < ((((r1).toInt64) * 10000) + l6) then ((((r1).toInt64) * 10000) + l6) else l2)) + (((r4).toInt64) * (if l2 < ((((r2).toInt64) * 10000) + l6) then ((((r2).toInt64) * 10000) + l6) else l2))) / 10) - l4) (l8 + 1) ls  (lv_sub hl [4, 5, 6, 7, 1, 0] rfl) hF
  unfold wpX3_worthOfRight_k3 at hF
  refine lv_aload_n hx hb dX3_worthOfRight_0 rfl (lv_at hl 0 rfl) ?_
  refine cU_r (As := []) C hO ha hk ⟨"LivedAgain$Person", "mayUseRight", "()Z"⟩ "LivedAgain$Person" mfX3_mayUseRight t2_236 t3_178 t2_237 (va_Decl.of (hts _ t2_236) (hts _ t3_7)) t3_0 (by decide +kernel) (ccX3_mayUseRight_k3 l D cy pe a ha hk _ hF) rfl rfl rfl hl.1 rfl (Nat.le_of_ble_eq_true rfl) dX3_worthOfRight_1 ⟨Nat.le_of_ble_eq_true rfl, Nat.le_of_ble_eq_true rfl⟩ ⟨Nat.le_of_ble_eq_true rfl, Nat.le_of_ble_eq_true rfl⟩ ?_
  intro r1 hF
  refine W.eq (g2 := F0 m 4 ls [.int (bz r1)]) rfl ?_
  refine lv_if_ne (tgt := 9) hx hb dX3_worthOfRight_4 (by decide) (fun c_ => ?_) (fun c_ => ?_)
  · have hF := hF.1 ((bz_1 _).mp c_)
    refine lv_aload_n hx hb dX3_worthOfRight_9 rfl (lv_at hl 0 rfl) ?_
    refine lv_iconst (v := 1) hx hb dX3_worthOfRight_10 (by decide) ?_
    refine cU_r (As := [.int 1]) C hO ha hk ⟨"LivedAgain$Person", "meanTenths", "(I)J"⟩ "LivedAgain$Person" mfX3_meanTenths t3_180 t3_179 t3_181 (va_Decl.of (hts _ t3_180) (hts _ t3_187)) t3_184 (by decide +kernel) (ccX3_meanTenths_k3 l D cy pe a ha hk 1 _ hF) rfl rfl rfl hl.1 rfl (Nat.le_of_ble_eq_true rfl) dX3_worthOfRight_11 ⟨Nat.le_of_ble_eq_true rfl, Nat.le_of_ble_eq_true rfl⟩ ⟨Nat.le_of_ble_eq_true rfl, Nat.le_of_ble_eq_true rfl⟩ ?_
    intro r2 hF
    refine W.eq (g2 := F0 m 14 ls [.long r2]) rfl ?_
    refine lv_ldc2 hx hb hown (hts _ t3_190) dX3_worthOfRight_14 ?_
    refine lv_lmul hx hb dX3_worthOfRight_17 ?_
    refine lv_lstore_n (lv' := [(2, .long (r2 * 1000)), (0, .ref a), (1, .int p0)]) hx hb dX3_worthOfRight_18 rfl hl (by decide) rfl (fun ls hl => ?_)
    refine lv_aload_n hx hb dX3_worthOfRight_19 rfl (lv_at hl 1 rfl) ?_
    refine lv_iconst (v := 0) hx hb dX3_worthOfRight_20 (by decide) ?_
    refine cU_r (As := [.int 0]) C hO ha hk ⟨"LivedAgain$Person", "meanTenths", "(I)J"⟩ "LivedAgain$Person" mfX3_meanTenths t3_180 t3_179 t3_181 (va_Decl.of (hts _ t3_180) (hts _ t3_187)) t3_184 (by decide +kernel) (ccX3_meanTenths_k3 l D cy pe a ha hk 0 _ hF) rfl rfl rfl hl.1 rfl (Nat.le_of_ble_eq_true rfl) dX3_worthOfRight_21 ⟨Nat.le_of_ble_eq_true rfl, Nat.le_of_ble_eq_true rfl⟩ ⟨Nat.le_of_ble_eq_true rfl, Nat.le_of_ble_eq_true rfl⟩ ?_
    intro r3 hF
    refine W.eq (g2 := F0 m 24 ls [.long r3]) rfl ?_
    refine lv_ldc2 hx hb hown (hts _ t3_190) dX3_worthOfRight_24 ?_
    refine lv_lmul hx hb dX3_worthOfRight_27 ?_
    refine lv_lstore (lv' := [(4, .long (r3 * 1000)), (2, .long (r2 * 1000)), (0, .ref a), (1, .int p0)]) hx hb dX3_worthOfRight_28 hl (by decide) rfl (fun ls hl => ?_)
    refine lv_lconst (v := 0) hx hb dX3_worthOfRight_30 (by decide) ?_
    refine lv_lstore (lv' := [(6, .long 0), (4, .long (r3 * 1000)), (2, .long (r2 * 1000)), (0, .ref a), (1, .int p0)]) hx hb dX3_worthOfRight_31 hl (by decide) rfl (fun ls hl => ?_)
    refine lv_iconst (v := 0) hx hb dX3_worthOfRight_33 (by decide) ?_
    refine lv_istore (lv' := [(8, .int 0), (6, .long 0), (4, .long (r3 * 1000)), (2, .long (r2 * 1000)), (0, .ref a), (1, .int p0)]) hx hb dX3_worthOfRight_34 hl (by decide) rfl (fun ls hl => ?_)
    exact L_36 fu p0 (r2 * 1000) (r3 * 1000) 0 0 ls  (lv_sub hl [4, 5, 3, 2, 1, 0] rfl) hF
  · have hF := hF.2 ((bz_0 _).mp c_)
    refine lv_lconst (v := 0) hx hb dX3_worthOfRight_7 (by decide) ?_
    exact rr_l C hQ rfl hF dX3_worthOfRight_8

def wpX3_sizeBy_k3 (v_a0_left : Int32) (v_a0_purse : Int32) (v_a0_numbers : Nat → Int32) (pt : PT) (post : Int32 → Int32 → (Nat → Int32) → Prop) : Prop := wpX8_leave 10 v_a0_left v_a0_numbers (fun _ u2_a0_left u3_a0_numbers => post v_a0_purse u2_a0_left u3_a0_numbers)
abbrev rmX3_sizeBy_k3 : Room := { frames := 1, cells := 0, slots := 0, locals := 21 }
set_option maxHeartbeats 4000000 in
set_option maxRecDepth 100000 in
theorem ccX3_sizeBy_k3 (l : Launch) (D : va_G) (cy : Nat → ClassId) (pe : Pe) (a : Nat) (ha : a ∈ pe.1) (hk : (pe.2 a).1 = 3) (h_a0 : Nat) (h_a0_numbers : Nat) (v_a0_left : Int32) (v_a0_purse : Int32) (v_a0_memory : Int32) (v_a0_numbers : Nat → Int32) (post : Int32 → Int32 → (Nat → Int32) → Prop) (hF : wpX3_sizeBy_k3 v_a0_left v_a0_purse v_a0_numbers (pe.2 a) post) : Ct l D cy miX3_sizeBy rmX3_sizeBy_k3 emI pe [.ref a, .ref h_a0] [(h_a0, .inr (7, [.ref h_a0_numbers, .int v_a0_left, .int v_a0_purse, .int v_a0_memory])), (h_a0_numbers, .inl (cy 0, 16, .inl v_a0_numbers))] (fun r w1 => ∃ (w_a0_left : Int32) (w_a0_numbers : Nat → Int32), w1 = [(h_a0, .inr (7, [.ref h_a0_numbers, .int w_a0_left, .int v_a0_purse, .int v_a0_memory])), (h_a0_numbers, .inl (cy 0, 16, .inl w_a0_numbers))] ∧ post r w_a0_left w_a0_numbers) := by
  refine Ct.of (by decide) (Nat.le_of_ble_eq_true rfl) ?_
  intro p e s m args below meth c A ls Q C hQ hA hI hP hD hS hl
  obtain ⟨hx, hb, hr, hml, hown, hts, hK, hlk, hnm⟩ := id C
  have hb : c.code = cX3_sizeBy := hb
  have hml : c.maxLocals = 2 := hml
  have hown : s.vm.findClass RX3 = some m.cls := hown
  have hl : lv_has ls 2 [(0, .ref a), (1, .ref h_a0)] := hl
  unfold wpX3_sizeBy_k3 at hF
  refine lv_aload_n hx hb dX3_sizeBy_0 rfl (lv_at hl 1 rfl) ?_
  refine lv_bipush (v := 10) hx hb dX3_sizeBy_1 (by decide) ?_
  refine cV_t (As := [.int 10]) (wr := []) C hA hP hD hS mfX8_leave t4_51 t4_52 t4_73 (ccX8_leave l D cy h_a0 h_a0_numbers v_a0_left v_a0_purse v_a0_memory v_a0_numbers 10 _ hF) [0, 1] [] rfl rfl (by decide) (by decide) (by decide) PO.np 0 7 rfl rfl rfl rfl hl.1 rfl (Nat.le_of_ble_eq_true rfl) dX3_sizeBy_3 ⟨Nat.le_of_ble_eq_true rfl, Nat.le_of_ble_eq_true rfl⟩ ⟨Nat.le_of_ble_eq_true rfl, Nat.le_of_ble_eq_true rfl⟩ ?_
  rintro ⟨⟩ w1 H locs ⟨u2_a0_left, u3_a0_numbers, rfl, hF⟩ hP hD hS
  have hP : va_P D CL [(h_a0, .inr (7, [.ref h_a0_numbers, .int u2_a0_left, .int v_a0_purse, .int v_a0_memory])), (h_a0_numbers, .inl (cy 0, 16, .inl u3_a0_numbers))] H := hP
  have hD : va_D A [(h_a0, .inr (7, [.ref h_a0_numbers, .int u2_a0_left, .int v_a0_purse, .int v_a0_memory])), (h_a0_numbers, .inl (cy 0, 16, .inl u3_a0_numbers))] := hD
  refine W.eq (g2 := F0 m 6 ls []) rfl ?_
  refine lv_aload_n hx hb dX3_sizeBy_6 rfl (lv_at hl 1 rfl) ?_
  refine va_get (D := D) (ci := 7) (v := .int v_a0_purse) (C := RX8) (T := TX8) (N := 4) hx hb hts inTX8 hown hK.1 hP 0 rfl rfl 2 (by decide) (hts _ t1_165) (fun _ h9 => h9) rfl dX3_sizeBy_7 ?_
  exact rt_i C hQ rfl hP hD hS ⟨u2_a0_left, u3_a0_numbers, rfl, hF⟩ dX3_sizeBy_10

def wpX3_markBy_k3 (v_a0_left : Int32) (v_a0_numbers : Nat → Int32) (pt : PT) (post : Int32 → Int32 → (Nat → Int32) → Prop) : Prop := wpX8_leave 20 v_a0_left v_a0_numbers (fun _ u2_a0_left u3_a0_numbers => post pt.2.1 u2_a0_left u3_a0_numbers)
abbrev rmX3_markBy_k3 : Room := { frames := 1, cells := 0, slots := 0, locals := 21 }
set_option maxHeartbeats 4000000 in
set_option maxRecDepth 100000 in
theorem ccX3_markBy_k3 (l : Launch) (D : va_G) (cy : Nat → ClassId) (pe : Pe) (a : Nat) (ha : a ∈ pe.1) (hk : (pe.2 a).1 = 3) (h_a0 : Nat) (h_a0_numbers : Nat) (v_a0_left : Int32) (v_a0_purse : Int32) (v_a0_memory : Int32) (v_a0_numbers : Nat → Int32) (post : Int32 → Int32 → (Nat → Int32) → Prop) (hF : wpX3_markBy_k3 v_a0_left v_a0_numbers (pe.2 a) post) : Ct l D cy miX3_markBy rmX3_markBy_k3 emI pe [.ref a, .ref h_a0] [(h_a0, .inr (7, [.ref h_a0_numbers, .int v_a0_left, .int v_a0_purse, .int v_a0_memory])), (h_a0_numbers, .inl (cy 0, 16, .inl v_a0_numbers))] (fun r w1 => ∃ (w_a0_left : Int32) (w_a0_numbers : Nat → Int32), w1 = [(h_a0, .inr (7, [.ref h_a0_numbers, .int w_a0_left, .int v_a0_purse, .int v_a0_memory])), (h_a0_numbers, .inl (cy 0, 16, .inl w_a0_numbers))] ∧ post r w_a0_left w_a0_numbers) := by
  refine Ct.of (by decide) (Nat.le_of_ble_eq_true rfl) ?_
  intro p e s m args below meth c A ls Q C hQ hA hI hP hD hS hl
  obtain ⟨hx, hb, hr, hml, hown, hts, hK, hlk, hnm⟩ := id C
  have hb : c.code = cX3_markBy := hb
  have hml : c.maxLocals = 2 := hml
  have hown : s.vm.findClass RX3 = some m.cls := hown
  have hl : lv_has ls 2 [(0, .ref a), (1, .ref h_a0)] := hl
  unfold wpX3_markBy_k3 at hF
  refine lv_aload_n hx hb dX3_markBy_0 rfl (lv_at hl 1 rfl) ?_
  refine lv_bipush (v := 20) hx hb dX3_markBy_1 (by decide) ?_
  refine cV_t (As := [.int 20]) (wr := []) C hA hP hD hS mfX8_leave t4_51 t4_52 t4_73 (ccX8_leave l D cy h_a0 h_a0_numbers v_a0_left v_a0_purse v_a0_memory v_a0_numbers 20 _ hF) [0, 1] [] rfl rfl (by decide) (by decide) (by decide) PO.np 0 7 rfl rfl rfl rfl hl.1 rfl (Nat.le_of_ble_eq_true rfl) dX3_markBy_3 ⟨Nat.le_of_ble_eq_true rfl, Nat.le_of_ble_eq_true rfl⟩ ⟨Nat.le_of_ble_eq_true rfl, Nat.le_of_ble_eq_true rfl⟩ ?_
  rintro ⟨⟩ w1 H locs ⟨u2_a0_left, u3_a0_numbers, rfl, hF⟩ hP hD hS
  have hP : va_P D CL [(h_a0, .inr (7, [.ref h_a0_numbers, .int u2_a0_left, .int v_a0_purse, .int v_a0_memory])), (h_a0_numbers, .inl (cy 0, 16, .inl u3_a0_numbers))] H := hP
  have hD : va_D A [(h_a0, .inr (7, [.ref h_a0_numbers, .int u2_a0_left, .int v_a0_purse, .int v_a0_memory])), (h_a0_numbers, .inl (cy 0, 16, .inl u3_a0_numbers))] := hD
  refine W.eq (g2 := F0 m 6 ls []) rfl ?_
  refine lv_aload_n hx hb dX3_markBy_6 rfl (lv_at hl 0 rfl) ?_
  refine pe_get0 C (hI.at hS) ha (hts _ t2_85) (fun _ h9 => h9) dX3_markBy_7 ?_
  exact rt_i C hQ rfl hP hD hS ⟨u2_a0_left, u3_a0_numbers, rfl, hF⟩ dX3_markBy_10

def wpX0_markBy_k3 (v_a0_left : Int32) (v_a0_memory : Int32) (v_a0_numbers : Nat → Int32) (pt : PT) (post : Int32 → Int32 → (Nat → Int32) → Prop) : Prop := wpX8_leave 21 v_a0_left v_a0_numbers (fun _ u2_a0_left u3_a0_numbers => wpX3_markBy_k3 u2_a0_left u3_a0_numbers pt (fun r4 u5_a0_left u6_a0_numbers => post (r4 + v_a0_memory) u5_a0_left u6_a0_numbers))
abbrev rmX0_markBy_k3 : Room := { frames := 2, cells := 0, slots := 0, locals := 42 }
set_option maxHeartbeats 4000000 in
set_option maxRecDepth 100000 in
theorem ccX0_markBy_k3 (l : Launch) (D : va_G) (cy : Nat → ClassId) (pe : Pe) (a : Nat) (ha : a ∈ pe.1) (hk : (pe.2 a).1 = 3) (h_a0 : Nat) (h_a0_numbers : Nat) (v_a0_left : Int32) (v_a0_purse : Int32) (v_a0_memory : Int32) (v_a0_numbers : Nat → Int32) (post : Int32 → Int32 → (Nat → Int32) → Prop) (hF : wpX0_markBy_k3 v_a0_left v_a0_memory v_a0_numbers (pe.2 a) post) : Ct l D cy miX0_markBy rmX0_markBy_k3 emI pe [.ref a, .ref h_a0] [(h_a0, .inr (7, [.ref h_a0_numbers, .int v_a0_left, .int v_a0_purse, .int v_a0_memory])), (h_a0_numbers, .inl (cy 0, 16, .inl v_a0_numbers))] (fun r w1 => ∃ (w_a0_left : Int32) (w_a0_numbers : Nat → Int32), w1 = [(h_a0, .inr (7, [.ref h_a0_numbers, .int w_a0_left, .int v_a0_purse, .int v_a0_memory])), (h_a0_numbers, .inl (cy 0, 16, .inl w_a0_numbers))] ∧ post r w_a0_left w_a0_numbers) := by
  refine Ct.of (by decide) (Nat.le_of_ble_eq_true rfl) ?_
  intro p e s m args below meth c A ls Q C hQ hA hI hP hD hS hl
  obtain ⟨hx, hb, hr, hml, hown, hts, hK, hlk, hnm⟩ := id C
  have hb : c.code = cX0_markBy := hb
  have hml : c.maxLocals = 2 := hml
  have hown : s.vm.findClass RX0 = some m.cls := hown
  have hl : lv_has ls 2 [(0, .ref a), (1, .ref h_a0)] := hl
  unfold wpX0_markBy_k3 at hF
  refine lv_aload_n hx hb dX0_markBy_0 rfl (lv_at hl 1 rfl) ?_
  refine lv_bipush (v := 21) hx hb dX0_markBy_1 (by decide) ?_
  refine cV_t (As := [.int 21]) (wr := []) C hA hP hD hS mfX8_leave t4_51 t4_52 t4_50 (ccX8_leave l D cy h_a0 h_a0_numbers v_a0_left v_a0_purse v_a0_memory v_a0_numbers 21 _ hF) [0, 1] [] rfl rfl (by decide) (by decide) (by decide) PO.np 0 7 rfl rfl rfl rfl hl.1 rfl (Nat.le_of_ble_eq_true rfl) dX0_markBy_3 ⟨Nat.le_of_ble_eq_true rfl, Nat.le_of_ble_eq_true rfl⟩ ⟨Nat.le_of_ble_eq_true rfl, Nat.le_of_ble_eq_true rfl⟩ ?_
  rintro ⟨⟩ w1 H locs ⟨u2_a0_left, u3_a0_numbers, rfl, hF⟩ hP hD hS
  have hP : va_P D CL [(h_a0, .inr (7, [.ref h_a0_numbers, .int u2_a0_left, .int v_a0_purse, .int v_a0_memory])), (h_a0_numbers, .inl (cy 0, 16, .inl u3_a0_numbers))] H := hP
  have hD : va_D A [(h_a0, .inr (7, [.ref h_a0_numbers, .int u2_a0_left, .int v_a0_purse, .int v_a0_memory])), (h_a0_numbers, .inl (cy 0, 16, .inl u3_a0_numbers))] := hD
  refine W.eq (g2 := F0 m 6 ls []) rfl ?_
  refine lv_aload_n hx hb dX0_markBy_6 rfl (lv_at hl 0 rfl) ?_
  refine lv_aload_n hx hb dX0_markBy_7 rfl (lv_at hl 1 rfl) ?_
  refine cX_t (As := [.ref h_a0]) (wr := []) C hA hP hD hS (hI.at hS) ha mfX3_markBy t4_71 t4_70 t6_11 t2_102 (by decide) (ccX3_markBy_k3 l D cy pe a ha hk h_a0 h_a0_numbers u2_a0_left v_a0_purse v_a0_memory u3_a0_numbers _ hF) [0, 1] [] rfl rfl (by decide) (by decide) (by decide) (hI.po hS hD [0, 1] rfl) rfl hl.1 rfl (Nat.le_of_ble_eq_true rfl) dX0_markBy_8 ⟨Nat.le_of_ble_eq_true rfl, Nat.le_of_ble_eq_true rfl⟩ ⟨Nat.le_of_ble_eq_true rfl, Nat.le_of_ble_eq_true rfl⟩ ?_
  rintro r4 w1 H locs ⟨u5_a0_left, u6_a0_numbers, rfl, hF⟩ hP hD hS
  have hP : va_P D CL [(h_a0, .inr (7, [.ref h_a0_numbers, .int u5_a0_left, .int v_a0_purse, .int v_a0_memory])), (h_a0_numbers, .inl (cy 0, 16, .inl u6_a0_numbers))] H := hP
  have hD : va_D A [(h_a0, .inr (7, [.ref h_a0_numbers, .int u5_a0_left, .int v_a0_purse, .int v_a0_memory])), (h_a0_numbers, .inl (cy 0, 16, .inl u6_a0_numbers))] := hD
  refine W.eq (g2 := F0 m 11 ls [.int r4]) rfl ?_
  refine lv_aload_n hx hb dX0_markBy_11 rfl (lv_at hl 1 rfl) ?_
  refine va_get (D := D) (ci := 7) (v := .int v_a0_memory) (C := RX8) (T := TX8) (N := 4) hx hb hts inTX8 hown hK.1 hP 0 rfl rfl 3 (by decide) (hts _ t1_167) (fun _ h9 => h9) rfl dX0_markBy_12 ?_
  refine lv_iadd hx hb dX0_markBy_15 ?_
  exact rt_i C hQ rfl hP hD hS ⟨u5_a0_left, u6_a0_numbers, rfl, hF⟩ dX0_markBy_16

def wpX5_markBy_k3 (v_a0_left : Int32) (v_a0_memory : Int32) (v_a0_numbers : Nat → Int32) (pt : PT) (post : Int32 → Int32 → (Nat → Int32) → Prop) : Prop := wpX8_leave 22 v_a0_left v_a0_numbers (fun _ u2_a0_left u3_a0_numbers => wpX0_markBy_k3 u2_a0_left v_a0_memory u3_a0_numbers pt (fun r4 u5_a0_left u6_a0_numbers => post (r4 - 1000) u5_a0_left u6_a0_numbers))
abbrev miX5_markBy : MI := (yX5_markBy, cX5_markBy, 2, (some .int))
theorem mfX5_markBy : MF miX5_markBy 1 := ⟨t4_66, t1_13, by decide +kernel⟩
abbrev rmX5_markBy_k3 : Room := { frames := 3, cells := 0, slots := 0, locals := 63 }
set_option maxHeartbeats 4000000 in
set_option maxRecDepth 100000 in
theorem ccX5_markBy_k3 (l : Launch) (D : va_G) (cy : Nat → ClassId) (pe : Pe) (a : Nat) (ha : a ∈ pe.1) (hk : (pe.2 a).1 = 3) (h_a0 : Nat) (h_a0_numbers : Nat) (v_a0_left : Int32) (v_a0_purse : Int32) (v_a0_memory : Int32) (v_a0_numbers : Nat → Int32) (post : Int32 → Int32 → (Nat → Int32) → Prop) (hF : wpX5_markBy_k3 v_a0_left v_a0_memory v_a0_numbers (pe.2 a) post) : Ct l D cy miX5_markBy rmX5_markBy_k3 emI pe [.ref a, .ref h_a0] [(h_a0, .inr (7, [.ref h_a0_numbers, .int v_a0_left, .int v_a0_purse, .int v_a0_memory])), (h_a0_numbers, .inl (cy 0, 16, .inl v_a0_numbers))] (fun r w1 => ∃ (w_a0_left : Int32) (w_a0_numbers : Nat → Int32), w1 = [(h_a0, .inr (7, [.ref h_a0_numbers, .int w_a0_left, .int v_a0_purse, .int v_a0_memory])), (h_a0_numbers, .inl (cy 0, 16, .inl w_a0_numbers))] ∧ post r w_a0_left w_a0_numbers) := by
  refine Ct.of (by decide) (Nat.le_of_ble_eq_true rfl) ?_
  intro p e s m args below meth c A ls Q C hQ hA hI hP hD hS hl
  obtain ⟨hx, hb, hr, hml, hown, hts, hK, hlk, hnm⟩ := id C
  have hb : c.code = cX5_markBy := hb
  have hml : c.maxLocals = 2 := hml
  have hown : s.vm.findClass RX5 = some m.cls := hown
  have hl : lv_has ls 2 [(0, .ref a), (1, .ref h_a0)] := hl
  unfold wpX5_markBy_k3 at hF
  refine lv_aload_n hx hb dX5_markBy_0 rfl (lv_at hl 1 rfl) ?_
  refine lv_bipush (v := 22) hx hb dX5_markBy_1 (by decide) ?_
  refine cV_t (As := [.int 22]) (wr := []) C hA hP hD hS mfX8_leave t4_51 t4_52 t4_67 (ccX8_leave l D cy h_a0 h_a0_numbers v_a0_left v_a0_purse v_a0_memory v_a0_numbers 22 _ hF) [0, 1] [] rfl rfl (by decide) (by decide) (by decide) PO.np 0 7 rfl rfl rfl rfl hl.1 rfl (Nat.le_of_ble_eq_true rfl) dX5_markBy_3 ⟨Nat.le_of_ble_eq_true rfl, Nat.le_of_ble_eq_true rfl⟩ ⟨Nat.le_of_ble_eq_true rfl, Nat.le_of_ble_eq_true rfl⟩ ?_
  rintro ⟨⟩ w1 H locs ⟨u2_a0_left, u3_a0_numbers, rfl, hF⟩ hP hD hS
  have hP : va_P D CL [(h_a0, .inr (7, [.ref h_a0_numbers, .int u2_a0_left, .int v_a0_purse, .int v_a0_memory])), (h_a0_numbers, .inl (cy 0, 16, .inl u3_a0_numbers))] H := hP
  have hD : va_D A [(h_a0, .inr (7, [.ref h_a0_numbers, .int u2_a0_left, .int v_a0_purse, .int v_a0_memory])), (h_a0_numbers, .inl (cy 0, 16, .inl u3_a0_numbers))] := hD
  refine W.eq (g2 := F0 m 6 ls []) rfl ?_
  refine lv_aload_n hx hb dX5_markBy_6 rfl (lv_at hl 0 rfl) ?_
  refine lv_aload_n hx hb dX5_markBy_7 rfl (lv_at hl 1 rfl) ?_
  refine cX_t (As := [.ref h_a0]) (wr := []) C hA hP hD hS (hI.at hS) ha mfX0_markBy t4_56 t4_68 t4_58 t2_124 (by decide) (ccX0_markBy_k3 l D cy pe a ha hk h_a0 h_a0_numbers u2_a0_left v_a0_purse v_a0_memory u3_a0_numbers _ hF) [0, 1] [] rfl rfl (by decide) (by decide) (by decide) (hI.po hS hD [0, 1] rfl) rfl hl.1 rfl (Nat.le_of_ble_eq_true rfl) dX5_markBy_8 ⟨Nat.le_of_ble_eq_true rfl, Nat.le_of_ble_eq_true rfl⟩ ⟨Nat.le_of_ble_eq_true rfl, Nat.le_of_ble_eq_true rfl⟩ ?_
  rintro r4 w1 H locs ⟨u5_a0_left, u6_a0_numbers, rfl, hF⟩ hP hD hS
  have hP : va_P D CL [(h_a0, .inr (7, [.ref h_a0_numbers, .int u5_a0_left, .int v_a0_purse, .int v_a0_memory])), (h_a0_numbers, .inl (cy 0, 16, .inl u6_a0_numbers))] H := hP
  have hD : va_D A [(h_a0, .inr (7, [.ref h_a0_numbers, .int u5_a0_left, .int v_a0_purse, .int v_a0_memory])), (h_a0_numbers, .inl (cy 0, 16, .inl u6_a0_numbers))] := hD
  refine W.eq (g2 := F0 m 11 ls [.int r4]) rfl ?_
  refine lv_sipush (v := 1000) hx hb dX5_markBy_11 (by decide) ?_
  refine lv_isub hx hb dX5_markBy_14 ?_
  exact rt_i C hQ rfl hP hD hS ⟨u5_a0_left, u6_a0_numbers, rfl, hF⟩ dX5_markBy_15

def wpX0_sizeBy_k3 (v_a0_left : Int32) (v_a0_purse : Int32) (v_a0_memory : Int32) (v_a0_numbers : Nat → Int32) (pt : PT) (post : Int32 → Int32 → (Nat → Int32) → Prop) : Prop := wpX8_leave 11 v_a0_left v_a0_numbers (fun _ u2_a0_left u3_a0_numbers => wpX3_sizeBy_k3 u2_a0_left v_a0_purse u3_a0_numbers pt (fun r4 u5_a0_left u6_a0_numbers => wpX5_markBy_k3 u5_a0_left v_a0_memory u6_a0_numbers pt (fun r7 u8_a0_left u9_a0_numbers => post (r4 + r7) u8_a0_left u9_a0_numbers)))
abbrev rmX0_sizeBy_k3 : Room := { frames := 4, cells := 0, slots := 0, locals := 84 }
set_option maxHeartbeats 4000000 in
set_option maxRecDepth 100000 in
theorem ccX0_sizeBy_k3 (l : Launch) (D : va_G) (cy : Nat → ClassId) (pe : Pe) (a : Nat) (ha : a ∈ pe.1) (hk : (pe.2 a).1 = 3) (h_a0 : Nat) (h_a0_numbers : Nat) (v_a0_left : Int32) (v_a0_purse : Int32) (v_a0_memory : Int32) (v_a0_numbers : Nat → Int32) (post : Int32 → Int32 → (Nat → Int32) → Prop) (hF : wpX0_sizeBy_k3 v_a0_left v_a0_purse v_a0_memory v_a0_numbers (pe.2 a) post) : Ct l D cy miX0_sizeBy rmX0_sizeBy_k3 emI pe [.ref a, .ref h_a0] [(h_a0, .inr (7, [.ref h_a0_numbers, .int v_a0_left, .int v_a0_purse, .int v_a0_memory])), (h_a0_numbers, .inl (cy 0, 16, .inl v_a0_numbers))] (fun r w1 => ∃ (w_a0_left : Int32) (w_a0_numbers : Nat → Int32), w1 = [(h_a0, .inr (7, [.ref h_a0_numbers, .int w_a0_left, .int v_a0_purse, .int v_a0_memory])), (h_a0_numbers, .inl (cy 0, 16, .inl w_a0_numbers))] ∧ post r w_a0_left w_a0_numbers) := by
  refine Ct.of (by decide) (Nat.le_of_ble_eq_true rfl) ?_
  intro p e s m args below meth c A ls Q C hQ hA hI hP hD hS hl
  obtain ⟨hx, hb, hr, hml, hown, hts, hK, hlk, hnm⟩ := id C
  have hb : c.code = cX0_sizeBy := hb
  have hml : c.maxLocals = 3 := hml
  have hown : s.vm.findClass RX0 = some m.cls := hown
  have hl : lv_has ls 3 [(0, .ref a), (1, .ref h_a0)] := hl
  unfold wpX0_sizeBy_k3 at hF
  refine lv_aload_n hx hb dX0_sizeBy_0 rfl (lv_at hl 1 rfl) ?_
  refine lv_bipush (v := 11) hx hb dX0_sizeBy_1 (by decide) ?_
  refine cV_t (As := [.int 11]) (wr := []) C hA hP hD hS mfX8_leave t4_51 t4_52 t4_50 (ccX8_leave l D cy h_a0 h_a0_numbers v_a0_left v_a0_purse v_a0_memory v_a0_numbers 11 _ hF) [0, 1] [] rfl rfl (by decide) (by decide) (by decide) PO.np 0 7 rfl rfl rfl rfl hl.1 rfl (Nat.le_of_ble_eq_true rfl) dX0_sizeBy_3 ⟨Nat.le_of_ble_eq_true rfl, Nat.le_of_ble_eq_true rfl⟩ ⟨Nat.le_of_ble_eq_true rfl, Nat.le_of_ble_eq_true rfl⟩ ?_
  rintro ⟨⟩ w1 H locs ⟨u2_a0_left, u3_a0_numbers, rfl, hF⟩ hP hD hS
  have hP : va_P D CL [(h_a0, .inr (7, [.ref h_a0_numbers, .int u2_a0_left, .int v_a0_purse, .int v_a0_memory])), (h_a0_numbers, .inl (cy 0, 16, .inl u3_a0_numbers))] H := hP
  have hD : va_D A [(h_a0, .inr (7, [.ref h_a0_numbers, .int u2_a0_left, .int v_a0_purse, .int v_a0_memory])), (h_a0_numbers, .inl (cy 0, 16, .inl u3_a0_numbers))] := hD
  refine W.eq (g2 := F0 m 6 ls []) rfl ?_
  refine lv_aload_n hx hb dX0_sizeBy_6 rfl (lv_at hl 0 rfl) ?_
  refine lv_aload_n hx hb dX0_sizeBy_7 rfl (lv_at hl 1 rfl) ?_
  refine cX_t (As := [.ref h_a0]) (wr := []) C hA hP hD hS (hI.at hS) ha mfX3_sizeBy t4_45 t4_54 t4_46 t2_102 (by decide) (ccX3_sizeBy_k3 l D cy pe a ha hk h_a0 h_a0_numbers u2_a0_left v_a0_purse v_a0_memory u3_a0_numbers _ hF) [0, 1] [] rfl rfl (by decide) (by decide) (by decide) (hI.po hS hD [0, 1] rfl) rfl hl.1 rfl (Nat.le_of_ble_eq_true rfl) dX0_sizeBy_8 ⟨Nat.le_of_ble_eq_true rfl, Nat.le_of_ble_eq_true rfl⟩ ⟨Nat.le_of_ble_eq_true rfl, Nat.le_of_ble_eq_true rfl⟩ ?_
  rintro r4 w1 H locs ⟨u5_a0_left, u6_a0_numbers, rfl, hF⟩ hP hD hS
  have hP : va_P D CL [(h_a0, .inr (7, [.ref h_a0_numbers, .int u5_a0_left, .int v_a0_purse, .int v_a0_memory])), (h_a0_numbers, .inl (cy 0, 16, .inl u6_a0_numbers))] H := hP
  have hD : va_D A [(h_a0, .inr (7, [.ref h_a0_numbers, .int u5_a0_left, .int v_a0_purse, .int v_a0_memory])), (h_a0_numbers, .inl (cy 0, 16, .inl u6_a0_numbers))] := hD
  refine W.eq (g2 := F0 m 11 ls [.int r4]) rfl ?_
  refine lv_istore_n (lv' := [(2, .int r4), (0, .ref a), (1, .ref h_a0)]) hx hb dX0_sizeBy_11 rfl hl (by decide) rfl (fun ls hl => ?_)
  refine lv_iload_n hx hb dX0_sizeBy_12 rfl (lv_at hl 0 rfl) ?_
  refine lv_aload_n hx hb dX0_sizeBy_13 rfl (lv_at hl 1 rfl) ?_
  refine lv_aload_n hx hb dX0_sizeBy_14 rfl (lv_at hl 2 rfl) ?_
  refine cU_t (As := [.ref h_a0]) (wr := []) C hA hP hD hS (hI.at hS) ha hk ⟨"LivedAgain$Farmer", "markBy", "(LLivedAgain$Trace;)I"⟩ "LivedAgain$Farmer" mfX5_markBy t4_65 t4_55 t4_58 (va_Decl.of (hts _ t4_56) (hts _ t4_69)) t4_64 (by decide +kernel) (ccX5_markBy_k3 l D cy pe a ha hk h_a0 h_a0_numbers u5_a0_left v_a0_purse v_a0_memory u6_a0_numbers _ hF) [0, 1] [] rfl rfl (by decide) (by decide) (by decide) (hI.po hS hD [0, 1] rfl) rfl hl.1 rfl (Nat.le_of_ble_eq_true rfl) dX0_sizeBy_15 ⟨Nat.le_of_ble_eq_true rfl, Nat.le_of_ble_eq_true rfl⟩ ⟨Nat.le_of_ble_eq_true rfl, Nat.le_of_ble_eq_true rfl⟩ ?_
  rintro r7 w1 H locs ⟨u8_a0_left, u9_a0_numbers, rfl, hF⟩ hP hD hS
  have hP : va_P D CL [(h_a0, .inr (7, [.ref h_a0_numbers, .int u8_a0_left, .int v_a0_purse, .int v_a0_memory])), (h_a0_numbers, .inl (cy 0, 16, .inl u9_a0_numbers))] H := hP
  have hD : va_D A [(h_a0, .inr (7, [.ref h_a0_numbers, .int u8_a0_left, .int v_a0_purse, .int v_a0_memory])), (h_a0_numbers, .inl (cy 0, 16, .inl u9_a0_numbers))] := hD
  refine W.eq (g2 := F0 m 18 ls [.int r7, .int r4]) rfl ?_
  refine lv_iadd hx hb dX0_sizeBy_18 ?_
  exact rt_i C hQ rfl hP hD hS ⟨u8_a0_left, u9_a0_numbers, rfl, hF⟩ dX0_sizeBy_19

def wpX3_helpOf_k4 (p0 : Int32) (pt : PT) (post : Int32 → Prop) : Prop := post p0
abbrev rmX3_helpOf_k4 : Room := { frames := 0, cells := 0, slots := 0, locals := 0 }
set_option maxHeartbeats 4000000 in
set_option maxRecDepth 100000 in
theorem ccX3_helpOf_k4 (l : Launch) (D : va_G) (cy : Nat → ClassId) (pe : Pe) (a : Nat) (ha : a ∈ pe.1) (hk : (pe.2 a).1 = 4) (p0 : Int32) (post : Int32 → Prop) (hF : wpX3_helpOf_k4 p0 (pe.2 a) post) : Cr l D cy miX3_helpOf rmX3_helpOf_k4 emI pe [.ref a, .int p0] [] post := by
  refine Cr.of (by decide) (Nat.le_of_ble_eq_true rfl) ?_
  intro p e s m args below meth c ls Q C hQ hO hP hl
  obtain ⟨hx, hb, hr, hml, hown, hts, hK, hlk, hnm⟩ := id C
  have hb : c.code = cX3_helpOf := hb
  have hml : c.maxLocals = 2 := hml
  have hown : s.vm.findClass RX3 = some m.cls := hown
  have hl : lv_has ls 2 [(0, .ref a), (1, .int p0)] := hl
  unfold wpX3_helpOf_k4 at hF
  refine lv_iload_n hx hb dX3_helpOf_0 rfl (lv_at hl 1 rfl) ?_
  exact rr_i C hQ rfl hF dX3_helpOf_1

def wpX3_bringsBy_k4 (p0 : Bool) (pt : PT) (post : Int32 → Prop) : Prop := (p0 = false → (post (-pt.2.2.2.2))) ∧ (p0 = true → (post pt.2.2.2.1))
abbrev rmX3_bringsBy_k4 : Room := { frames := 0, cells := 0, slots := 0, locals := 0 }
set_option maxHeartbeats 4000000 in
set_option maxRecDepth 100000 in
theorem ccX3_bringsBy_k4 (l : Launch) (D : va_G) (cy : Nat → ClassId) (pe : Pe) (a : Nat) (ha : a ∈ pe.1) (hk : (pe.2 a).1 = 4) (p0 : Bool) (post : Int32 → Prop) (hF : wpX3_bringsBy_k4 p0 (pe.2 a) post) : Cr l D cy miX3_bringsBy rmX3_bringsBy_k4 emI pe [.ref a, .int (bz p0)] [] post := by
  refine Cr.of (by decide) (Nat.le_of_ble_eq_true rfl) ?_
  intro p e s m args below meth c ls Q C hQ hO hP hl
  obtain ⟨hx, hb, hr, hml, hown, hts, hK, hlk, hnm⟩ := id C
  have hb : c.code = cX3_bringsBy := hb
  have hml : c.maxLocals = 2 := hml
  have hown : s.vm.findClass RX3 = some m.cls := hown
  have hl : lv_has ls 2 [(0, .ref a), (1, .int (bz p0))] := hl
  unfold wpX3_bringsBy_k4 at hF
  refine lv_iload_n hx hb dX3_bringsBy_0 rfl (lv_at hl 1 rfl) ?_
  refine lv_if_eq (tgt := 11) hx hb dX3_bringsBy_1 (by decide) (fun c_ => ?_) (fun c_ => ?_)
  · have hF := hF.1 ((bz_0 _).mp c_)
    refine lv_aload_n hx hb dX3_bringsBy_11 rfl (lv_at hl 0 rfl) ?_
    refine pe_get3 C hO ha (hts _ t2_92) (fun _ h9 => h9) dX3_bringsBy_12 ?_
    refine lv_ineg hx hb dX3_bringsBy_15 ?_
    exact rr_i C hQ rfl hF dX3_bringsBy_16
  · have hF := hF.2 ((bz_1 _).mp c_)
    refine lv_aload_n hx hb dX3_bringsBy_4 rfl (lv_at hl 0 rfl) ?_
    refine pe_get2 C hO ha (hts _ t2_88) (fun _ h9 => h9) dX3_bringsBy_5 ?_
    refine lv_goto (tgt := 16) hx hb dX3_bringsBy_8 (by decide) ?_
    exact rr_i C hQ rfl hF dX3_bringsBy_16

def wpX3_beginsWithRight_k4 (pt : PT) (post : Bool → Prop) : Prop := post true
abbrev rmX3_beginsWithRight_k4 : Room := { frames := 0, cells := 0, slots := 0, locals := 0 }
set_option maxHeartbeats 4000000 in
set_option maxRecDepth 100000 in
theorem ccX3_beginsWithRight_k4 (l : Launch) (D : va_G) (cy : Nat → ClassId) (pe : Pe) (a : Nat) (ha : a ∈ pe.1) (hk : (pe.2 a).1 = 4) (post : Bool → Prop) (hF : wpX3_beginsWithRight_k4 (pe.2 a) post) : Cr l D cy miX3_beginsWithRight rmX3_beginsWithRight_k4 emB pe [.ref a] [] post := by
  refine Cr.of (by decide) (Nat.le_of_ble_eq_true rfl) ?_
  intro p e s m args below meth c ls Q C hQ hO hP hl
  obtain ⟨hx, hb, hr, hml, hown, hts, hK, hlk, hnm⟩ := id C
  have hb : c.code = cX3_beginsWithRight := hb
  have hml : c.maxLocals = 1 := hml
  have hown : s.vm.findClass RX3 = some m.cls := hown
  have hl : lv_has ls 1 [(0, .ref a)] := hl
  unfold wpX3_beginsWithRight_k4 at hF
  refine lv_iconst (v := 1) hx hb dX3_beginsWithRight_0 (by decide) ?_
  refine W.eq (g2 := F0 m 1 ls [.int (bz true)]) rfl ?_
  exact rr_b C hQ rfl hF dX3_beginsWithRight_1

def wpX10_mayUseRight_k4 (pt : PT) (post : Bool → Prop) : Prop := post false
abbrev miX10_mayUseRight : MI := (yX10_mayUseRight, cX10_mayUseRight, 1, (some .boolean))
theorem mfX10_mayUseRight : MF miX10_mayUseRight 0 := ⟨t3_6, t1_14, by decide +kernel⟩
abbrev rmX10_mayUseRight_k4 : Room := { frames := 0, cells := 0, slots := 0, locals := 0 }
set_option maxHeartbeats 4000000 in
set_option maxRecDepth 100000 in
theorem ccX10_mayUseRight_k4 (l : Launch) (D : va_G) (cy : Nat → ClassId) (pe : Pe) (a : Nat) (ha : a ∈ pe.1) (hk : (pe.2 a).1 = 4) (post : Bool → Prop) (hF : wpX10_mayUseRight_k4 (pe.2 a) post) : Cr l D cy miX10_mayUseRight rmX10_mayUseRight_k4 emB pe [.ref a] [] post := by
  refine Cr.of (by decide) (Nat.le_of_ble_eq_true rfl) ?_
  intro p e s m args below meth c ls Q C hQ hO hP hl
  obtain ⟨hx, hb, hr, hml, hown, hts, hK, hlk, hnm⟩ := id C
  have hb : c.code = cX10_mayUseRight := hb
  have hml : c.maxLocals = 1 := hml
  have hown : s.vm.findClass RX10 = some m.cls := hown
  have hl : lv_has ls 1 [(0, .ref a)] := hl
  unfold wpX10_mayUseRight_k4 at hF
  refine lv_iconst (v := 0) hx hb dX10_mayUseRight_0 (by decide) ?_
  refine W.eq (g2 := F0 m 1 ls [.int (bz false)]) rfl ?_
  exact rr_b C hQ rfl hF dX10_mayUseRight_1

def wpX10_ownKind_k4 (pt : PT) (post : Int32 → Prop) : Prop := post 4
abbrev miX10_ownKind : MI := (yX10_ownKind, cX10_ownKind, 1, (some .int))
theorem mfX10_ownKind : MF miX10_ownKind 0 := ⟨t4_23, t1_14, by decide +kernel⟩
abbrev rmX10_ownKind_k4 : Room := { frames := 0, cells := 0, slots := 0, locals := 0 }
set_option maxHeartbeats 4000000 in
set_option maxRecDepth 100000 in
theorem ccX10_ownKind_k4 (l : Launch) (D : va_G) (cy : Nat → ClassId) (pe : Pe) (a : Nat) (ha : a ∈ pe.1) (hk : (pe.2 a).1 = 4) (post : Int32 → Prop) (hF : wpX10_ownKind_k4 (pe.2 a) post) : Cr l D cy miX10_ownKind rmX10_ownKind_k4 emI pe [.ref a] [] post := by
  refine Cr.of (by decide) (Nat.le_of_ble_eq_true rfl) ?_
  intro p e s m args below meth c ls Q C hQ hO hP hl
  obtain ⟨hx, hb, hr, hml, hown, hts, hK, hlk, hnm⟩ := id C
  have hb : c.code = cX10_ownKind := hb
  have hml : c.maxLocals = 1 := hml
  have hown : s.vm.findClass RX10 = some m.cls := hown
  have hl : lv_has ls 1 [(0, .ref a)] := hl
  unfold wpX10_ownKind_k4 at hF
  refine lv_iconst (v := 4) hx hb dX10_ownKind_0 (by decide) ?_
  exact rr_i C hQ rfl hF dX10_ownKind_1

def wpX3_oddsBy_k4 (p0 : Int32) (pt : PT) (post : Int32 → Prop) : Prop := wpX3_helpOf_k4 p0 pt (fun r1 => post (if (pt.2.2.1 + r1) < 10 then (pt.2.2.1 + r1) else 10))
abbrev rmX3_oddsBy_k4 : Room := { frames := 1, cells := 0, slots := 0, locals := 21 }
set_option maxHeartbeats 4000000 in
set_option maxRecDepth 100000 in
theorem ccX3_oddsBy_k4 (l : Launch) (D : va_G) (cy : Nat → ClassId) (pe : Pe) (a : Nat) (ha : a ∈ pe.1) (hk : (pe.2 a).1 = 4) (p0 : Int32) (post : Int32 → Prop) (hF : wpX3_oddsBy_k4 p0 (pe.2 a) post) : Cr l D cy miX3_oddsBy rmX3_oddsBy_k4 emI pe [.ref a, .int p0] [] post := by
  refine Cr.of (by decide) (Nat.le_of_ble_eq_true rfl) ?_
  intro p e s m args below meth c ls Q C hQ hO hP hl
  obtain ⟨hx, hb, hr, hml, hown, hts, hK, hlk, hnm⟩ := id C
  have hb : c.code = cX3_oddsBy := hb
  have hml : c.maxLocals = 2 := hml
  have hown : s.vm.findClass RX3 = some m.cls := hown
  have hl : lv_has ls 2 [(0, .ref a), (1, .int p0)] := hl
  unfold wpX3_oddsBy_k4 at hF
  refine lv_bipush (v := 10) hx hb dX3_oddsBy_0 (by decide) ?_
  refine lv_aload_n hx hb dX3_oddsBy_2 rfl (lv_at hl 0 rfl) ?_
  refine pe_get1 C hO ha (hts _ t2_86) (fun _ h9 => h9) dX3_oddsBy_3 ?_
  refine lv_aload_n hx hb dX3_oddsBy_6 rfl (lv_at hl 0 rfl) ?_
  refine lv_iload_n hx hb dX3_oddsBy_7 rfl (lv_at hl 1 rfl) ?_
  refine cU_r (As := [.int p0]) C hO ha hk ⟨"LivedAgain$Person", "helpOf", "(I)I"⟩ "LivedAgain$Person" mfX3_helpOf t2_211 t2_210 t2_212 (va_Decl.of (hts _ t2_211) (hts _ t2_220)) t2_219 (by decide +kernel) (ccX3_helpOf_k4 l D cy pe a ha hk p0 _ hF) rfl rfl rfl hl.1 rfl (Nat.le_of_ble_eq_true rfl) dX3_oddsBy_8 ⟨Nat.le_of_ble_eq_true rfl, Nat.le_of_ble_eq_true rfl⟩ ⟨Nat.le_of_ble_eq_true rfl, Nat.le_of_ble_eq_true rfl⟩ ?_
  intro r1 hF
  refine W.eq (g2 := F0 m 11 ls [.int r1, .int ((pe.2 a).2.2.1), .int 10]) rfl ?_
  refine lv_iadd hx hb dX3_oddsBy_11 ?_
  refine va_mmin hx hb (hml.trans hl.1.symm) hown (hts _ t2_221) (hts _ t2_153) (hts _ t1_16) (hts _ t2_154) (by decide) (Nat.le_of_ble_eq_true rfl) (by decide) (by decide) dX3_oddsBy_12 ?_
  exact rr_i C hQ rfl hF dX3_oddsBy_15

def wpX3_waysToGo_k4 (p0 : Int32) (p1 : Bool) (pt : PT) (post : Int32 → Prop) : Prop := wpX3_oddsBy_k4 p0 pt (fun r1 => (p1 = false → (post (10 - r1))) ∧ (p1 = true → (post r1)))
abbrev rmX3_waysToGo_k4 : Room := { frames := 2, cells := 0, slots := 0, locals := 42 }
set_option maxHeartbeats 4000000 in
set_option maxRecDepth 100000 in
theorem ccX3_waysToGo_k4 (l : Launch) (D : va_G) (cy : Nat → ClassId) (pe : Pe) (a : Nat) (ha : a ∈ pe.1) (hk : (pe.2 a).1 = 4) (p0 : Int32) (p1 : Bool) (post : Int32 → Prop) (hF : wpX3_waysToGo_k4 p0 p1 (pe.2 a) post) : Cr l D cy miX3_waysToGo rmX3_waysToGo_k4 emI pe [.ref a, .int p0, .int (bz p1)] [] post := by
  refine Cr.of (by decide) (Nat.le_of_ble_eq_true rfl) ?_
  intro p e s m args below meth c ls Q C hQ hO hP hl
  obtain ⟨hx, hb, hr, hml, hown, hts, hK, hlk, hnm⟩ := id C
  have hb : c.code = cX3_waysToGo := hb
  have hml : c.maxLocals = 4 := hml
  have hown : s.vm.findClass RX3 = some m.cls := hown
  have hl : lv_has ls 4 [(0, .ref a), (1, .int p0), (2, .int (bz p1))] := hl
  unfold wpX3_waysToGo_k4 at hF
  refine lv_aload_n hx hb dX3_waysToGo_0 rfl (lv_at hl 0 rfl) ?_
  refine lv_iload_n hx hb dX3_waysToGo_1 rfl (lv_at hl 1 rfl) ?_
  refine cU_r (As := [.int p0]) C hO ha hk ⟨"LivedAgain$Person", "oddsBy", "(I)I"⟩ "LivedAgain$Person" mfX3_oddsBy t2_202 t3_105 t2_203 (va_Decl.of (hts _ t2_202) (hts _ t2_209)) t2_208 (by decide +kernel) (ccX3_oddsBy_k4 l D cy pe a ha hk p0 _ hF) rfl rfl rfl hl.1 rfl (Nat.le_of_ble_eq_true rfl) dX3_waysToGo_2 ⟨Nat.le_of_ble_eq_true rfl, Nat.le_of_ble_eq_true rfl⟩ ⟨Nat.le_of_ble_eq_true rfl, Nat.le_of_ble_eq_true rfl⟩ ?_
  intro r1 hF
  refine W.eq (g2 := F0 m 5 ls [.int r1]) rfl ?_
  refine lv_istore_n (lv' := [(3, .int r1), (0, .ref a), (1, .int p0), (2, .int (bz p1))]) hx hb dX3_waysToGo_5 rfl hl (by decide) rfl (fun ls hl => ?_)
  refine lv_iload_n hx hb dX3_waysToGo_6 rfl (lv_at hl 3 rfl) ?_
  refine lv_if_eq (tgt := 14) hx hb dX3_waysToGo_7 (by decide) (fun c_ => ?_) (fun c_ => ?_)
  · have hF := hF.1 ((bz_0 _).mp c_)
    refine lv_bipush (v := 10) hx hb dX3_waysToGo_14 (by decide) ?_
    refine lv_iload_n hx hb dX3_waysToGo_16 rfl (lv_at hl 0 rfl) ?_
    refine lv_isub hx hb dX3_waysToGo_17 ?_
    exact rr_i C hQ rfl hF dX3_waysToGo_18
  · have hF := hF.2 ((bz_1 _).mp c_)
    refine lv_iload_n hx hb dX3_waysToGo_10 rfl (lv_at hl 0 rfl) ?_
    refine lv_goto (tgt := 18) hx hb dX3_waysToGo_11 (by decide) ?_
    exact rr_i C hQ rfl hF dX3_waysToGo_18

def wpX3_meanTenths_k4 (p0 : Int32) (pt : PT) (post : Int64 → Prop) : Prop := wpX3_waysToGo_k4 p0 true pt (fun r1 => wpX3_bringsBy_k4 true pt (fun r2 => wpX3_waysToGo_k4 p0 false pt (fun r3 => wpX3_bringsBy_k4 false pt (fun r4 => post ((((r1).toInt64) * ((r2).toInt64)) + (((r3).toInt64) * ((r4).toInt64)))))))
abbrev rmX3_meanTenths_k4 : Room := { frames := 3, cells := 0, slots := 0, locals := 65 }
set_option maxHeartbeats 4000000 in
set_option maxRecDepth 100000 in
theorem ccX3_meanTenths_k4 (l : Launch) (D : va_G) (cy : Nat → ClassId) (pe : Pe) (a : Nat) (ha : a ∈ pe.1) (hk : (pe.2 a).1 = 4) (p0 : Int32) (post : Int64 → Prop) (hF : wpX3_meanTenths_k4 p0 (pe.2 a) post) : Cr l D cy miX3_meanTenths rmX3_meanTenths_k4 emL pe [.ref a, .int p0] [] post := by
  refine Cr.of (by decide) (Nat.le_of_ble_eq_true rfl) ?_
  intro p e s m args below meth c ls Q C hQ hO hP hl
  obtain ⟨hx, hb, hr, hml, hown, hts, hK, hlk, hnm⟩ := id C
  have hb : c.code = cX3_meanTenths := hb
  have hml : c.maxLocals = 2 := hml
  have hown : s.vm.findClass RX3 = some m.cls := hown
  have hl : lv_has ls 2 [(0, .ref a), (1, .int p0)] := hl
  unfold wpX3_meanTenths_k4 at hF
  refine lv_aload_n hx hb dX3_meanTenths_0 rfl (lv_at hl 0 rfl) ?_
  refine lv_iload_n hx hb dX3_meanTenths_1 rfl (lv_at hl 1 rfl) ?_
  refine lv_iconst (v := 1) hx hb dX3_meanTenths_2 (by decide) ?_
  refine cU_r (As := [.int p0, .int (bz true)]) C hO ha hk ⟨"LivedAgain$Person", "waysToGo", "(IZ)I"⟩ "LivedAgain$Person" mfX3_waysToGo t3_97 t3_188 t3_98 (va_Decl.of (hts _ t3_97) (hts _ t3_104)) t3_103 (by decide +kernel) (ccX3_waysToGo_k4 l D cy pe a ha hk p0 true _ hF) rfl rfl rfl hl.1 rfl (Nat.le_of_ble_eq_true rfl) dX3_meanTenths_3 ⟨Nat.le_of_ble_eq_true rfl, Nat.le_of_ble_eq_true rfl⟩ ⟨Nat.le_of_ble_eq_true rfl, Nat.le_of_ble_eq_true rfl⟩ ?_
  intro r1 hF
  refine W.eq (g2 := F0 m 6 ls [.int r1]) rfl ?_
  refine lv_i2l hx hb dX3_meanTenths_6 rfl ?_
  refine lv_aload_n hx hb dX3_meanTenths_7 rfl (lv_at hl 0 rfl) ?_
  refine lv_iconst (v := 1) hx hb dX3_meanTenths_8 (by decide) ?_
  refine cU_r (As := [.int (bz true)]) C hO ha hk ⟨"LivedAgain$Person", "bringsBy", "(Z)I"⟩ "LivedAgain$Person" mfX3_bringsBy t3_21 t3_189 t3_22 (va_Decl.of (hts _ t3_21) (hts _ t3_35)) t3_34 (by decide +kernel) (ccX3_bringsBy_k4 l D cy pe a ha hk true _ hF) rfl rfl rfl hl.1 rfl (Nat.le_of_ble_eq_true rfl) dX3_meanTenths_9 ⟨Nat.le_of_ble_eq_true rfl, Nat.le_of_ble_eq_true rfl⟩ ⟨Nat.le_of_ble_eq_true rfl, Nat.le_of_ble_eq_true rfl⟩ ?_
  intro r2 hF
  refine W.eq (g2 := F0 m 12 ls [.int r2, .long ((r1).toInt64)]) rfl ?_
  refine lv_i2l hx hb dX3_meanTenths_12 rfl ?_
  refine lv_lmul hx hb dX3_meanTenths_13 ?_
  refine lv_aload_n hx hb dX3_meanTenths_14 rfl (lv_at hl 0 rfl) ?_
  refine lv_iload_n hx hb dX3_meanTenths_15 rfl (lv_at hl 1 rfl) ?_
  refine lv_iconst (v := 0) hx hb dX3_meanTenths_16 (by decide) ?_
  refine cU_r (As := [.int p0, .int (bz false)]) C hO ha hk ⟨"LivedAgain$Person", "waysToGo", "(IZ)I"⟩ "LivedAgain$Person" mfX3_waysToGo t3_97 t3_188 t3_98 (va_Decl.of (hts _ t3_97) (hts _ t3_104)) t3_103 (by decide +kernel) (ccX3_waysToGo_k4 l D cy pe a ha hk p0 false _ hF) rfl rfl rfl hl.1 rfl (Nat.le_of_ble_eq_true rfl) dX3_meanTenths_17 ⟨Nat.le_of_ble_eq_true rfl, Nat.le_of_ble_eq_true rfl⟩ ⟨Nat.le_of_ble_eq_true rfl, Nat.le_of_ble_eq_true rfl⟩ ?_
  intro r3 hF
  refine W.eq (g2 := F0 m 20 ls [.int r3, .long (((r1).toInt64) * ((r2).toInt64))]) rfl ?_
  refine lv_i2l hx hb dX3_meanTenths_20 rfl ?_
  refine lv_aload_n hx hb dX3_meanTenths_21 rfl (lv_at hl 0 rfl) ?_
  refine lv_iconst (v := 0) hx hb dX3_meanTenths_22 (by decide) ?_
  refine cU_r (As := [.int (bz false)]) C hO ha hk ⟨"LivedAgain$Person", "bringsBy", "(Z)I"⟩ "LivedAgain$Person" mfX3_bringsBy t3_21 t3_189 t3_22 (va_Decl.of (hts _ t3_21) (hts _ t3_35)) t3_34 (by decide +kernel) (ccX3_bringsBy_k4 l D cy pe a ha hk false _ hF) rfl rfl rfl hl.1 rfl (Nat.le_of_ble_eq_true rfl) dX3_meanTenths_23 ⟨Nat.le_of_ble_eq_true rfl, Nat.le_of_ble_eq_true rfl⟩ ⟨Nat.le_of_ble_eq_true rfl, Nat.le_of_ble_eq_true rfl⟩ ?_
  intro r4 hF
  refine W.eq (g2 := F0 m 26 ls [.int r4, .long ((r3).toInt64), .long (((r1).toInt64) * ((r2).toInt64))]) rfl ?_
  refine lv_i2l hx hb dX3_meanTenths_26 rfl ?_
  refine lv_lmul hx hb dX3_meanTenths_27 ?_
  refine lv_ladd hx hb dX3_meanTenths_28 ?_
  exact rr_l C hQ rfl hF dX3_meanTenths_29

def wlX3_worthOfRight_k4_36 (pt : PT) (post : Int64 → Prop) : Nat → Int32 → Int64 → Int64 → Int64 → Int32 → Prop
  | 0, _, _, _, _, _ => False
  | n + 1, l1, l2, l4, l6, l8 => (l1 ≤ l8 → (post l6)) ∧ (¬ l1 ≤ l8 → (wpX3_bringsBy_k4 true pt (fun r1 => wpX3_bringsBy_k4 false pt (fun r2 => wpX3_waysToGo_k4 0 true pt (fun r3 => wpX3_waysToGo_k4 0 false pt (fun r4 => (wlX3_worthOfRight_k4_36 pt post n) l1 l2 l4 ((((((r3).toInt64) * (if l2 < ((((r1).toInt64) * 10000) + l6) then ((((r1).toInt64) * 10000) + l6) else l2)) + (((r4).toInt64) * (if l2 < ((((r2).toInt64) * 10000) + l6) then ((((r2).toInt64) * 10000) + l6) else l2))) / 10) - l4) (l8 + 1)))))))
def wpX3_worthOfRight_k4 (p0 : Int32) (pt : PT) (post : Int64 → Prop) : Prop := wpX10_mayUseRight_k4 pt (fun r1 => (r1 = true → (wpX3_meanTenths_k4 1 pt (fun r2 => wpX3_meanTenths_k4 0 pt (fun r3 => wlX3_worthOfRight_k4_36 pt post fu p0 (r2 * 1000) (r3 * 1000) 0 0)))) ∧ (r1 = false → (post 0)))
abbrev rmX3_worthOfRight_k4 : Room := { frames := 4, cells := 0, slots := 0, locals := 86 }
set_option maxHeartbeats 4000000 in
set_option maxRecDepth 100000 in
theorem ccX3_worthOfRight_k4 (l : Launch) (D : va_G) (cy : Nat → ClassId) (pe : Pe) (a : Nat) (ha : a ∈ pe.1) (hk : (pe.2 a).1 = 4) (p0 : Int32) (post : Int64 → Prop) (hF : wpX3_worthOfRight_k4 p0 (pe.2 a) post) : Cr l D cy miX3_worthOfRight rmX3_worthOfRight_k4 emL pe [.ref a, .int p0] [] post := by
  refine Cr.of (by decide) (Nat.le_of_ble_eq_true rfl) ?_
  intro p e s m args below meth c ls Q C hQ hO hP hl
  obtain ⟨hx, hb, hr, hml, hown, hts, hK, hlk, hnm⟩ := id C
  have hb : c.code = cX3_worthOfRight := hb
  have hml : c.maxLocals = 13 := hml
  have hown : s.vm.findClass RX3 = some m.cls := hown
  have hl : lv_has ls 13 [(0, .ref a), (1, .int p0)] := hl
  have L_36 : ∀ (n_36 : Nat) (l1 : Int32) (l2 : Int64) (l4 : Int64) (l6 : Int64) (l8 : Int32) (ls : Array Slot), lv_has ls 13 [(0, .ref a), (1, .int l1), (2, .long l2), (4, .long l4), (6, .long l6), (8, .int l8)] → wlX3_worthOfRight_k4_36 (pe.2 a) post n_36 l1 l2 l4 l6 l8 → W p l e rmX3_worthOfRight_k4 s m args below meth c s.heap [] 0 0 Q (F0 m 36 ls []) := by
    intro n_36
    induction n_36 with
    | zero =>
      intro l1 l2 l4 l6 l8 ls  hl hF
      simp only [wlX3_worthOfRight_k4_36] at hF
    | succ n_36 ih_36 =>
      intro l1 l2 l4 l6 l8 ls  hl hF
      unfold wlX3_worthOfRight_k4_36 at hF
      refine lv_iload hx hb dX3_worthOfRight_36 (lv_at hl 5 rfl) ?_
      refine lv_iload_n hx hb dX3_worthOfRight_38 rfl (lv_at hl 1 rfl) ?_
      refine lv_icmp_ge (tgt := 116) hx hb dX3_worthOfRight_39 (by decide) (fun c_ => ?_) (fun c_ => ?_)
      · have hF := hF.1 c_
        refine lv_lload hx hb dX3_worthOfRight_116 (lv_at hl 4 rfl) ?_
        exact rr_l C hQ rfl hF dX3_worthOfRight_118
      · have hF := hF.2 c_
        refine lv_aload_n hx hb dX3_worthOfRight_42 rfl (lv_at hl 0 rfl) ?_
        refine lv_iconst (v := 1) hx hb dX3_worthOfRight_43 (by decide) ?_
        refine cU_r (As := [.int (bz true)]) C hO ha hk ⟨"LivedAgain$Person", "bringsBy", "(Z)I"⟩ "LivedAgain$Person" mfX3_bringsBy t3_21 t3_189 t3_22 (va_Decl.of (hts _ t3_21) (hts _ t3_35)) t3_34 (by decide +kernel) (ccX3_bringsBy_k4 l D cy pe a ha hk true _ hF) rfl rfl rfl hl.1 rfl (Nat.le_of_ble_eq_true rfl) dX3_worthOfRight_44 ⟨Nat.le_of_ble_eq_true rfl, Nat.le_of_ble_eq_true rfl⟩ ⟨Nat.le_of_ble_eq_true rfl, Nat.le_of_ble_eq_true rfl⟩ ?_
        intro r1 hF
        refine W.eq (g2 := F0 m 47 ls [.int r1]) rfl ?_
        refine lv_i2l hx hb dX3_worthOfRight_47 rfl ?_
        refine lv_ldc2 hx hb hown (hts _ t3_191) dX3_worthOfRight_48 ?_
        refine lv_lmul hx hb dX3_worthOfRight_51 ?_
        refine lv_lload hx hb dX3_worthOfRight_52 (lv_at hl 4 rfl) ?_
        refine lv_ladd hx hb dX3_worthOfRight_54 ?_
        refine lv_lload_n hx hb dX3_worthOfRight_55 rfl (lv_at hl 2 rfl) ?_
        refine va_mmax_long hx hb (hml.trans hl.1.symm) hown (hts _ t3_192) (hts _ t3_193) (hts _ t1_16) (hts _ t3_194) (by decide) (Nat.le_of_ble_eq_true rfl) (by decide) (by decide) dX3_worthOfRight_56 ?_
        refine lv_lstore (lv' := [(9, .long (if l2 < ((((r1).toInt64) * 10000) + l6) then ((((r1).toInt64) * 10000) + l6) else l2)), (0, .ref a), (1, .int l1), (2, .long l2), (4, .long l4), (6, .long l6), (8, .int l8)]) hx hb dX3_worthOfRight_59 hl (by decide) rfl (fun ls hl => ?_)
        refine lv_aload_n hx hb dX3_worthOfRight_61 rfl (lv_at hl 1 rfl) ?_
        refine lv_iconst (v := 0) hx hb dX3_worthOfRight_62 (by decide) ?_
        refine cU_r (As := [.int (bz false)]) C hO ha hk ⟨"LivedAgain$Person", "bringsBy", "(Z)I"⟩ "LivedAgain$Person" mfX3_bringsBy t3_21 t3_189 t3_22 (va_Decl.of (hts _ t3_21) (hts _ t3_35)) t3_34 (by decide +kernel) (ccX3_bringsBy_k4 l D cy pe a ha hk false _ hF) rfl rfl rfl hl.1 rfl (Nat.le_of_ble_eq_true rfl) dX3_worthOfRight_63 ⟨Nat.le_of_ble_eq_true rfl, Nat.le_of_ble_eq_true rfl⟩ ⟨Nat.le_of_ble_eq_true rfl, Nat.le_of_ble_eq_true rfl⟩ ?_
        intro r2 hF
        refine W.eq (g2 := F0 m 66 ls [.int r2]) rfl ?_
        refine lv_i2l hx hb dX3_worthOfRight_66 rfl ?_
        refine lv_ldc2 hx hb hown (hts _ t3_191) dX3_worthOfRight_67 ?_
        refine lv_lmul hx hb dX3_worthOfRight_70 ?_
        refine lv_lload hx hb dX3_worthOfRight_71 (lv_at hl 5 rfl) ?_
        refine lv_ladd hx hb dX3_worthOfRight_73 ?_
        refine lv_lload_n hx hb dX3_worthOfRight_74 rfl (lv_at hl 3 rfl) ?_
        refine va_mmax_long hx hb (hml.trans hl.1.symm) hown (hts _ t3_192) (hts _ t3_193) (hts _ t1_16) (hts _ t3_194) (by decide) (Nat.le_of_ble_eq_true rfl) (by decide) (by decide) dX3_worthOfRight_75 ?_
        refine lv_lstore (lv' := [(11, .long (if l2 < ((((r2).toInt64) * 10000) + l6) then ((((r2).toInt64) * 10000) + l6) else l2)), (9, .long (if l2 < ((((r1).toInt64) * 10000) + l6) then ((((r1).toInt64) * 10000) + l6) else l2)), (0, .ref a), (1, .int l1), (2, .long l2), (4, .long l4), (6, .long l6), (8, .int l8)]) hx hb dX3_worthOfRight_78 hl (by decide) rfl (fun ls hl => ?_)
        refine lv_aload_n hx hb dX3_worthOfRight_80 rfl (lv_at hl 2 rfl) ?_
        refine lv_iconst (v := 0) hx hb dX3_worthOfRight_81 (by decide) ?_
        refine lv_iconst (v := 1) hx hb dX3_worthOfRight_82 (by decide) ?_
        refine cU_r (As := [.int 0, .int (bz true)]) C hO ha hk ⟨"LivedAgain$Person", "waysToGo", "(IZ)I"⟩ "LivedAgain$Person" mfX3_waysToGo t3_97 t3_188 t3_98 (va_Decl.of (hts _ t3_97) (hts _ t3_104)) t3_103 (by decide +kernel) (ccX3_waysToGo_k4 l D cy pe a ha hk 0 true _ hF) rfl rfl rfl hl.1 rfl (Nat.le_of_ble_eq_true rfl) dX3_worthOfRight_83 ⟨Nat.le_of_ble_eq_true rfl, Nat.le_of_ble_eq_true rfl⟩ ⟨Nat.le_of_ble_eq_true rfl, Nat.le_of_ble_eq_true rfl⟩ ?_
        intro r3 hF
        refine W.eq (g2 := F0 m 86 ls [.int r3]) rfl ?_
        refine lv_i2l hx hb dX3_worthOfRight_86 rfl ?_
        refine lv_lload hx hb dX3_worthOfRight_87 (lv_at hl 1 rfl) ?_
        refine lv_lmul hx hb dX3_worthOfRight_89 ?_
        refine lv_aload_n hx hb dX3_worthOfRight_90 rfl (lv_at hl 2 rfl) ?_
        refine lv_iconst (v := 0) hx hb dX3_worthOfRight_91 (by decide) ?_
        refine lv_iconst (v := 0) hx hb dX3_worthOfRight_92 (by decide) ?_
        refine cU_r (As := [.int 0, .int (bz false)]) C hO ha hk ⟨"LivedAgain$Person", "waysToGo", "(IZ)I"⟩ "LivedAgain$Person" mfX3_waysToGo t3_97 t3_188 t3_98 (va_Decl.of (hts _ t3_97) (hts _ t3_104)) t3_103 (by decide +kernel) (ccX3_waysToGo_k4 l D cy pe a ha hk 0 false _ hF) rfl rfl rfl hl.1 rfl (Nat.le_of_ble_eq_true rfl) dX3_worthOfRight_93 ⟨Nat.le_of_ble_eq_true rfl, Nat.le_of_ble_eq_true rfl⟩ ⟨Nat.le_of_ble_eq_true rfl, Nat.le_of_ble_eq_true rfl⟩ ?_
        intro r4 hF
        refine W.eq (g2 := F0 m 96 ls [.int r4, .long (((r3).toInt64) * (if l2 < ((((r1).toInt64) * 10000) + l6) then ((((r1).toInt64) * 10000) + l6) else l2))]) rfl ?_
        refine lv_i2l hx hb dX3_worthOfRight_96 rfl ?_
        refine lv_lload hx hb dX3_worthOfRight_97 (lv_at hl 0 rfl) ?_
        refine lv_lmul hx hb dX3_worthOfRight_99 ?_
        refine lv_ladd hx hb dX3_worthOfRight_100 ?_
        refine lv_ldc2 hx hb hown (hts _ t3_195) dX3_worthOfRight_101 ?_
        refine lv_ldiv hx hb dX3_worthOfRight_104 (by decide) ?_
        refine lv_lload hx hb dX3_worthOfRight_105 (lv_at hl 5 rfl) ?_
        refine lv_lsub hx hb dX3_worthOfRight_107 ?_
        refine lv_lstore (lv' := [(6, .long ((((((r3).toInt64) * (if l2 < ((((r1).toInt64) * 10000) + l6) then ((((r1).toInt64) * 10000) + l6) else l2)) + (((r4).toInt64) * (if l2 < ((((r2).toInt64) * 10000) + l6) then ((((r2).toInt64) * 10000) + l6) else l2))) / 10) - l4)), (11, .long (if l2 < ((((r2).toInt64) * 10000) + l6) then ((((r2).toInt64) * 10000) + l6) else l2)), (9, .long (if l2 < ((((r1).toInt64) * 10000) + l6) then ((((r1).toInt64) * 10000) + l6) else l2)), (0, .ref a), (1, .int l1), (2, .long l2), (4, .long l4), (8, .int l8)]) hx hb dX3_worthOfRight_108 hl (by decide) rfl (fun ls hl => ?_)
        refine lv_iinc (v := (l8 + 1)) (lv' := [(8, .int (l8 + 1)), (6, .long ((((((r3).toInt64) * (if l2 < ((((r1).toInt64) * 10000) + l6) then ((((r1).toInt64) * 10000) + l6) else l2)) + (((r4).toInt64) * (if l2 < ((((r2).toInt64) * 10000) + l6) then ((((r2).toInt64) * 10000) + l6) else l2))) / 10) - l4)), (11, .long (if l2 < ((((r2).toInt64) * 10000) + l6) then ((((r2).toInt64) * 10000) + l6) else l2)), (9, .long (if l2 < ((((r1).toInt64) * 10000) + l6) then ((((r1).toInt64) * 10000) + l6) else l2)), (0, .ref a), (1, .int l1), (2, .long l2), (4, .long l4)]) hx hb dX3_worthOfRight_110 hl (k := 7) rfl rfl (by decide) rfl (fun ls hl => ?_)
        refine lv_goto (tgt := 36) hx hb dX3_worthOfRight_113 (by decide) ?_
        exact ih_36 l1 l2 l4 ((((((r3).toInt64) * (if l2 < ((((r1).toInt64) * 10000) + l6) then ((((r1).toInt64) * 10000) + l6) else l2)) + (((r4).toInt64) * (if l2 < ((((r2).toInt64) * 10000) + l6) then ((((r2).toInt64) * 10000) + l6) else l2))) / 10) - l4) (l8 + 1) ls  (lv_sub hl [4, 5, 6, 7, 1, 0] rfl) hF
  unfold wpX3_worthOfRight_k4 at hF
  refine lv_aload_n hx hb dX3_worthOfRight_0 rfl (lv_at hl 0 rfl) ?_
  refine cU_r (As := []) C hO ha hk ⟨"LivedAgain$Person", "mayUseRight", "()Z"⟩ "LivedAgain$Person" mfX10_mayUseRight t3_5 t3_178 t2_237 (va_Decl.of (hts _ t2_236) (hts _ t3_7)) t3_4 (by decide +kernel) (ccX10_mayUseRight_k4 l D cy pe a ha hk _ hF) rfl rfl rfl hl.1 rfl (Nat.le_of_ble_eq_true rfl) dX3_worthOfRight_1 ⟨Nat.le_of_ble_eq_true rfl, Nat.le_of_ble_eq_true rfl⟩ ⟨Nat.le_of_ble_eq_true rfl, Nat.le_of_ble_eq_true rfl⟩ ?_
  intro r1 hF
  refine W.eq (g2 := F0 m 4 ls [.int (bz r1)]) rfl ?_
  refine lv_if_ne (tgt := 9) hx hb dX3_worthOfRight_4 (by decide) (fun c_ => ?_) (fun c_ => ?_)
  · have hF := hF.1 ((bz_1 _).mp c_)
    refine lv_aload_n hx hb dX3_worthOfRight_9 rfl (lv_at hl 0 rfl) ?_
    refine lv_iconst (v := 1) hx hb dX3_worthOfRight_10 (by decide) ?_
    refine cU_r (As := [.int 1]) C hO ha hk ⟨"LivedAgain$Person", "meanTenths", "(I)J"⟩ "LivedAgain$Person" mfX3_meanTenths t3_180 t3_179 t3_181 (va_Decl.of (hts _ t3_180) (hts _ t3_187)) t3_186 (by decide +kernel) (ccX3_meanTenths_k4 l D cy pe a ha hk 1 _ hF) rfl rfl rfl hl.1 rfl (Nat.le_of_ble_eq_true rfl) dX3_worthOfRight_11 ⟨Nat.le_of_ble_eq_true rfl, Nat.le_of_ble_eq_true rfl⟩ ⟨Nat.le_of_ble_eq_true rfl, Nat.le_of_ble_eq_true rfl⟩ ?_
    intro r2 hF
    refine W.eq (g2 := F0 m 14 ls [.long r2]) rfl ?_
    refine lv_ldc2 hx hb hown (hts _ t3_190) dX3_worthOfRight_14 ?_
    refine lv_lmul hx hb dX3_worthOfRight_17 ?_
    refine lv_lstore_n (lv' := [(2, .long (r2 * 1000)), (0, .ref a), (1, .int p0)]) hx hb dX3_worthOfRight_18 rfl hl (by decide) rfl (fun ls hl => ?_)
    refine lv_aload_n hx hb dX3_worthOfRight_19 rfl (lv_at hl 1 rfl) ?_
    refine lv_iconst (v := 0) hx hb dX3_worthOfRight_20 (by decide) ?_
    refine cU_r (As := [.int 0]) C hO ha hk ⟨"LivedAgain$Person", "meanTenths", "(I)J"⟩ "LivedAgain$Person" mfX3_meanTenths t3_180 t3_179 t3_181 (va_Decl.of (hts _ t3_180) (hts _ t3_187)) t3_186 (by decide +kernel) (ccX3_meanTenths_k4 l D cy pe a ha hk 0 _ hF) rfl rfl rfl hl.1 rfl (Nat.le_of_ble_eq_true rfl) dX3_worthOfRight_21 ⟨Nat.le_of_ble_eq_true rfl, Nat.le_of_ble_eq_true rfl⟩ ⟨Nat.le_of_ble_eq_true rfl, Nat.le_of_ble_eq_true rfl⟩ ?_
    intro r3 hF
    refine W.eq (g2 := F0 m 24 ls [.long r3]) rfl ?_
    refine lv_ldc2 hx hb hown (hts _ t3_190) dX3_worthOfRight_24 ?_
    refine lv_lmul hx hb dX3_worthOfRight_27 ?_
    refine lv_lstore (lv' := [(4, .long (r3 * 1000)), (2, .long (r2 * 1000)), (0, .ref a), (1, .int p0)]) hx hb dX3_worthOfRight_28 hl (by decide) rfl (fun ls hl => ?_)
    refine lv_lconst (v := 0) hx hb dX3_worthOfRight_30 (by decide) ?_
    refine lv_lstore (lv' := [(6, .long 0), (4, .long (r3 * 1000)), (2, .long (r2 * 1000)), (0, .ref a), (1, .int p0)]) hx hb dX3_worthOfRight_31 hl (by decide) rfl (fun ls hl => ?_)
    refine lv_iconst (v := 0) hx hb dX3_worthOfRight_33 (by decide) ?_
    refine lv_istore (lv' := [(8, .int 0), (6, .long 0), (4, .long (r3 * 1000)), (2, .long (r2 * 1000)), (0, .ref a), (1, .int p0)]) hx hb dX3_worthOfRight_34 hl (by decide) rfl (fun ls hl => ?_)
    exact L_36 fu p0 (r2 * 1000) (r3 * 1000) 0 0 ls  (lv_sub hl [4, 5, 3, 2, 1, 0] rfl) hF
  · have hF := hF.2 ((bz_0 _).mp c_)
    refine lv_lconst (v := 0) hx hb dX3_worthOfRight_7 (by decide) ?_
    exact rr_l C hQ rfl hF dX3_worthOfRight_8

def wpX3_sizeBy_k4 (v_a0_left : Int32) (v_a0_purse : Int32) (v_a0_numbers : Nat → Int32) (pt : PT) (post : Int32 → Int32 → (Nat → Int32) → Prop) : Prop := wpX8_leave 10 v_a0_left v_a0_numbers (fun _ u2_a0_left u3_a0_numbers => post v_a0_purse u2_a0_left u3_a0_numbers)
abbrev rmX3_sizeBy_k4 : Room := { frames := 1, cells := 0, slots := 0, locals := 21 }
set_option maxHeartbeats 4000000 in
set_option maxRecDepth 100000 in
theorem ccX3_sizeBy_k4 (l : Launch) (D : va_G) (cy : Nat → ClassId) (pe : Pe) (a : Nat) (ha : a ∈ pe.1) (hk : (pe.2 a).1 = 4) (h_a0 : Nat) (h_a0_numbers : Nat) (v_a0_left : Int32) (v_a0_purse : Int32) (v_a0_memory : Int32) (v_a0_numbers : Nat → Int32) (post : Int32 → Int32 → (Nat → Int32) → Prop) (hF : wpX3_sizeBy_k4 v_a0_left v_a0_purse v_a0_numbers (pe.2 a) post) : Ct l D cy miX3_sizeBy rmX3_sizeBy_k4 emI pe [.ref a, .ref h_a0] [(h_a0, .inr (7, [.ref h_a0_numbers, .int v_a0_left, .int v_a0_purse, .int v_a0_memory])), (h_a0_numbers, .inl (cy 0, 16, .inl v_a0_numbers))] (fun r w1 => ∃ (w_a0_left : Int32) (w_a0_numbers : Nat → Int32), w1 = [(h_a0, .inr (7, [.ref h_a0_numbers, .int w_a0_left, .int v_a0_purse, .int v_a0_memory])), (h_a0_numbers, .inl (cy 0, 16, .inl w_a0_numbers))] ∧ post r w_a0_left w_a0_numbers) := by
  refine Ct.of (by decide) (Nat.le_of_ble_eq_true rfl) ?_
  intro p e s m args below meth c A ls Q C hQ hA hI hP hD hS hl
  obtain ⟨hx, hb, hr, hml, hown, hts, hK, hlk, hnm⟩ := id C
  have hb : c.code = cX3_sizeBy := hb
  have hml : c.maxLocals = 2 := hml
  have hown : s.vm.findClass RX3 = some m.cls := hown
  have hl : lv_has ls 2 [(0, .ref a), (1, .ref h_a0)] := hl
  unfold wpX3_sizeBy_k4 at hF
  refine lv_aload_n hx hb dX3_sizeBy_0 rfl (lv_at hl 1 rfl) ?_
  refine lv_bipush (v := 10) hx hb dX3_sizeBy_1 (by decide) ?_
  refine cV_t (As := [.int 10]) (wr := []) C hA hP hD hS mfX8_leave t4_51 t4_52 t4_73 (ccX8_leave l D cy h_a0 h_a0_numbers v_a0_left v_a0_purse v_a0_memory v_a0_numbers 10 _ hF) [0, 1] [] rfl rfl (by decide) (by decide) (by decide) PO.np 0 7 rfl rfl rfl rfl hl.1 rfl (Nat.le_of_ble_eq_true rfl) dX3_sizeBy_3 ⟨Nat.le_of_ble_eq_true rfl, Nat.le_of_ble_eq_true rfl⟩ ⟨Nat.le_of_ble_eq_true rfl, Nat.le_of_ble_eq_true rfl⟩ ?_
  rintro ⟨⟩ w1 H locs ⟨u2_a0_left, u3_a0_numbers, rfl, hF⟩ hP hD hS
  have hP : va_P D CL [(h_a0, .inr (7, [.ref h_a0_numbers, .int u2_a0_left, .int v_a0_purse, .int v_a0_memory])), (h_a0_numbers, .inl (cy 0, 16, .inl u3_a0_numbers))] H := hP
  have hD : va_D A [(h_a0, .inr (7, [.ref h_a0_numbers, .int u2_a0_left, .int v_a0_purse, .int v_a0_memory])), (h_a0_numbers, .inl (cy 0, 16, .inl u3_a0_numbers))] := hD
  refine W.eq (g2 := F0 m 6 ls []) rfl ?_
  refine lv_aload_n hx hb dX3_sizeBy_6 rfl (lv_at hl 1 rfl) ?_
  refine va_get (D := D) (ci := 7) (v := .int v_a0_purse) (C := RX8) (T := TX8) (N := 4) hx hb hts inTX8 hown hK.1 hP 0 rfl rfl 2 (by decide) (hts _ t1_165) (fun _ h9 => h9) rfl dX3_sizeBy_7 ?_
  exact rt_i C hQ rfl hP hD hS ⟨u2_a0_left, u3_a0_numbers, rfl, hF⟩ dX3_sizeBy_10

def wpX10_sizeBy_k4 (v_a0_left : Int32) (v_a0_purse : Int32) (v_a0_numbers : Nat → Int32) (pt : PT) (post : Int32 → Int32 → (Nat → Int32) → Prop) : Prop := wpX8_leave 13 v_a0_left v_a0_numbers (fun _ u2_a0_left u3_a0_numbers => wpX3_sizeBy_k4 u2_a0_left v_a0_purse u3_a0_numbers pt (fun r4 u5_a0_left u6_a0_numbers => post (r4 - 100) u5_a0_left u6_a0_numbers))
abbrev miX10_sizeBy : MI := (yX10_sizeBy, cX10_sizeBy, 2, (some .int))
theorem mfX10_sizeBy : MF miX10_sizeBy 1 := ⟨t4_85, t1_14, by decide +kernel⟩
abbrev rmX10_sizeBy_k4 : Room := { frames := 2, cells := 0, slots := 0, locals := 42 }
set_option maxHeartbeats 4000000 in
set_option maxRecDepth 100000 in
theorem ccX10_sizeBy_k4 (l : Launch) (D : va_G) (cy : Nat → ClassId) (pe : Pe) (a : Nat) (ha : a ∈ pe.1) (hk : (pe.2 a).1 = 4) (h_a0 : Nat) (h_a0_numbers : Nat) (v_a0_left : Int32) (v_a0_purse : Int32) (v_a0_memory : Int32) (v_a0_numbers : Nat → Int32) (post : Int32 → Int32 → (Nat → Int32) → Prop) (hF : wpX10_sizeBy_k4 v_a0_left v_a0_purse v_a0_numbers (pe.2 a) post) : Ct l D cy miX10_sizeBy rmX10_sizeBy_k4 emI pe [.ref a, .ref h_a0] [(h_a0, .inr (7, [.ref h_a0_numbers, .int v_a0_left, .int v_a0_purse, .int v_a0_memory])), (h_a0_numbers, .inl (cy 0, 16, .inl v_a0_numbers))] (fun r w1 => ∃ (w_a0_left : Int32) (w_a0_numbers : Nat → Int32), w1 = [(h_a0, .inr (7, [.ref h_a0_numbers, .int w_a0_left, .int v_a0_purse, .int v_a0_memory])), (h_a0_numbers, .inl (cy 0, 16, .inl w_a0_numbers))] ∧ post r w_a0_left w_a0_numbers) := by
  refine Ct.of (by decide) (Nat.le_of_ble_eq_true rfl) ?_
  intro p e s m args below meth c A ls Q C hQ hA hI hP hD hS hl
  obtain ⟨hx, hb, hr, hml, hown, hts, hK, hlk, hnm⟩ := id C
  have hb : c.code = cX10_sizeBy := hb
  have hml : c.maxLocals = 2 := hml
  have hown : s.vm.findClass RX10 = some m.cls := hown
  have hl : lv_has ls 2 [(0, .ref a), (1, .ref h_a0)] := hl
  unfold wpX10_sizeBy_k4 at hF
  refine lv_aload_n hx hb dX10_sizeBy_0 rfl (lv_at hl 1 rfl) ?_
  refine lv_bipush (v := 13) hx hb dX10_sizeBy_1 (by decide) ?_
  refine cV_t (As := [.int 13]) (wr := []) C hA hP hD hS mfX8_leave t4_51 t4_52 t4_86 (ccX8_leave l D cy h_a0 h_a0_numbers v_a0_left v_a0_purse v_a0_memory v_a0_numbers 13 _ hF) [0, 1] [] rfl rfl (by decide) (by decide) (by decide) PO.np 0 7 rfl rfl rfl rfl hl.1 rfl (Nat.le_of_ble_eq_true rfl) dX10_sizeBy_3 ⟨Nat.le_of_ble_eq_true rfl, Nat.le_of_ble_eq_true rfl⟩ ⟨Nat.le_of_ble_eq_true rfl, Nat.le_of_ble_eq_true rfl⟩ ?_
  rintro ⟨⟩ w1 H locs ⟨u2_a0_left, u3_a0_numbers, rfl, hF⟩ hP hD hS
  have hP : va_P D CL [(h_a0, .inr (7, [.ref h_a0_numbers, .int u2_a0_left, .int v_a0_purse, .int v_a0_memory])), (h_a0_numbers, .inl (cy 0, 16, .inl u3_a0_numbers))] H := hP
  have hD : va_D A [(h_a0, .inr (7, [.ref h_a0_numbers, .int u2_a0_left, .int v_a0_purse, .int v_a0_memory])), (h_a0_numbers, .inl (cy 0, 16, .inl u3_a0_numbers))] := hD
  refine W.eq (g2 := F0 m 6 ls []) rfl ?_
  refine lv_aload_n hx hb dX10_sizeBy_6 rfl (lv_at hl 0 rfl) ?_
  refine lv_aload_n hx hb dX10_sizeBy_7 rfl (lv_at hl 1 rfl) ?_
  refine cX_t (As := [.ref h_a0]) (wr := []) C hA hP hD hS (hI.at hS) ha mfX3_sizeBy t4_45 t4_87 t4_46 t2_135 (by decide) (ccX3_sizeBy_k4 l D cy pe a ha hk h_a0 h_a0_numbers u2_a0_left v_a0_purse v_a0_memory u3_a0_numbers _ hF) [0, 1] [] rfl rfl (by decide) (by decide) (by decide) (hI.po hS hD [0, 1] rfl) rfl hl.1 rfl (Nat.le_of_ble_eq_true rfl) dX10_sizeBy_8 ⟨Nat.le_of_ble_eq_true rfl, Nat.le_of_ble_eq_true rfl⟩ ⟨Nat.le_of_ble_eq_true rfl, Nat.le_of_ble_eq_true rfl⟩ ?_
  rintro r4 w1 H locs ⟨u5_a0_left, u6_a0_numbers, rfl, hF⟩ hP hD hS
  have hP : va_P D CL [(h_a0, .inr (7, [.ref h_a0_numbers, .int u5_a0_left, .int v_a0_purse, .int v_a0_memory])), (h_a0_numbers, .inl (cy 0, 16, .inl u6_a0_numbers))] H := hP
  have hD : va_D A [(h_a0, .inr (7, [.ref h_a0_numbers, .int u5_a0_left, .int v_a0_purse, .int v_a0_memory])), (h_a0_numbers, .inl (cy 0, 16, .inl u6_a0_numbers))] := hD
  refine W.eq (g2 := F0 m 11 ls [.int r4]) rfl ?_
  refine lv_bipush (v := 100) hx hb dX10_sizeBy_11 (by decide) ?_
  refine lv_isub hx hb dX10_sizeBy_13 ?_
  exact rt_i C hQ rfl hP hD hS ⟨u5_a0_left, u6_a0_numbers, rfl, hF⟩ dX10_sizeBy_14

def wpX3_markBy_k4 (v_a0_left : Int32) (v_a0_numbers : Nat → Int32) (pt : PT) (post : Int32 → Int32 → (Nat → Int32) → Prop) : Prop := wpX8_leave 20 v_a0_left v_a0_numbers (fun _ u2_a0_left u3_a0_numbers => post pt.2.1 u2_a0_left u3_a0_numbers)
abbrev rmX3_markBy_k4 : Room := { frames := 1, cells := 0, slots := 0, locals := 21 }
set_option maxHeartbeats 4000000 in
set_option maxRecDepth 100000 in
theorem ccX3_markBy_k4 (l : Launch) (D : va_G) (cy : Nat → ClassId) (pe : Pe) (a : Nat) (ha : a ∈ pe.1) (hk : (pe.2 a).1 = 4) (h_a0 : Nat) (h_a0_numbers : Nat) (v_a0_left : Int32) (v_a0_purse : Int32) (v_a0_memory : Int32) (v_a0_numbers : Nat → Int32) (post : Int32 → Int32 → (Nat → Int32) → Prop) (hF : wpX3_markBy_k4 v_a0_left v_a0_numbers (pe.2 a) post) : Ct l D cy miX3_markBy rmX3_markBy_k4 emI pe [.ref a, .ref h_a0] [(h_a0, .inr (7, [.ref h_a0_numbers, .int v_a0_left, .int v_a0_purse, .int v_a0_memory])), (h_a0_numbers, .inl (cy 0, 16, .inl v_a0_numbers))] (fun r w1 => ∃ (w_a0_left : Int32) (w_a0_numbers : Nat → Int32), w1 = [(h_a0, .inr (7, [.ref h_a0_numbers, .int w_a0_left, .int v_a0_purse, .int v_a0_memory])), (h_a0_numbers, .inl (cy 0, 16, .inl w_a0_numbers))] ∧ post r w_a0_left w_a0_numbers) := by
  refine Ct.of (by decide) (Nat.le_of_ble_eq_true rfl) ?_
  intro p e s m args below meth c A ls Q C hQ hA hI hP hD hS hl
  obtain ⟨hx, hb, hr, hml, hown, hts, hK, hlk, hnm⟩ := id C
  have hb : c.code = cX3_markBy := hb
  have hml : c.maxLocals = 2 := hml
  have hown : s.vm.findClass RX3 = some m.cls := hown
  have hl : lv_has ls 2 [(0, .ref a), (1, .ref h_a0)] := hl
  unfold wpX3_markBy_k4 at hF
  refine lv_aload_n hx hb dX3_markBy_0 rfl (lv_at hl 1 rfl) ?_
  refine lv_bipush (v := 20) hx hb dX3_markBy_1 (by decide) ?_
  refine cV_t (As := [.int 20]) (wr := []) C hA hP hD hS mfX8_leave t4_51 t4_52 t4_73 (ccX8_leave l D cy h_a0 h_a0_numbers v_a0_left v_a0_purse v_a0_memory v_a0_numbers 20 _ hF) [0, 1] [] rfl rfl (by decide) (by decide) (by decide) PO.np 0 7 rfl rfl rfl rfl hl.1 rfl (Nat.le_of_ble_eq_true rfl) dX3_markBy_3 ⟨Nat.le_of_ble_eq_true rfl, Nat.le_of_ble_eq_true rfl⟩ ⟨Nat.le_of_ble_eq_true rfl, Nat.le_of_ble_eq_true rfl⟩ ?_
  rintro ⟨⟩ w1 H locs ⟨u2_a0_left, u3_a0_numbers, rfl, hF⟩ hP hD hS
  have hP : va_P D CL [(h_a0, .inr (7, [.ref h_a0_numbers, .int u2_a0_left, .int v_a0_purse, .int v_a0_memory])), (h_a0_numbers, .inl (cy 0, 16, .inl u3_a0_numbers))] H := hP
  have hD : va_D A [(h_a0, .inr (7, [.ref h_a0_numbers, .int u2_a0_left, .int v_a0_purse, .int v_a0_memory])), (h_a0_numbers, .inl (cy 0, 16, .inl u3_a0_numbers))] := hD
  refine W.eq (g2 := F0 m 6 ls []) rfl ?_
  refine lv_aload_n hx hb dX3_markBy_6 rfl (lv_at hl 0 rfl) ?_
  refine pe_get0 C (hI.at hS) ha (hts _ t2_85) (fun _ h9 => h9) dX3_markBy_7 ?_
  exact rt_i C hQ rfl hP hD hS ⟨u2_a0_left, u3_a0_numbers, rfl, hF⟩ dX3_markBy_10

def wpX10_markBy_k4 (v_a0_left : Int32) (v_a0_purse : Int32) (v_a0_numbers : Nat → Int32) (pt : PT) (post : Int32 → Int32 → (Nat → Int32) → Prop) : Prop := wpX8_leave 23 v_a0_left v_a0_numbers (fun _ u2_a0_left u3_a0_numbers => wpX3_markBy_k4 u2_a0_left u3_a0_numbers pt (fun r4 u5_a0_left u6_a0_numbers => wpX10_sizeBy_k4 u5_a0_left v_a0_purse u6_a0_numbers pt (fun r7 u8_a0_left u9_a0_numbers => post (r4 - r7) u8_a0_left u9_a0_numbers)))
abbrev miX10_markBy : MI := (yX10_markBy, cX10_markBy, 3, (some .int))
theorem mfX10_markBy : MF miX10_markBy 1 := ⟨t4_92, t1_14, by decide +kernel⟩
abbrev rmX10_markBy_k4 : Room := { frames := 3, cells := 0, slots := 0, locals := 63 }
set_option maxHeartbeats 4000000 in
set_option maxRecDepth 100000 in
theorem ccX10_markBy_k4 (l : Launch) (D : va_G) (cy : Nat → ClassId) (pe : Pe) (a : Nat) (ha : a ∈ pe.1) (hk : (pe.2 a).1 = 4) (h_a0 : Nat) (h_a0_numbers : Nat) (v_a0_left : Int32) (v_a0_purse : Int32) (v_a0_memory : Int32) (v_a0_numbers : Nat → Int32) (post : Int32 → Int32 → (Nat → Int32) → Prop) (hF : wpX10_markBy_k4 v_a0_left v_a0_purse v_a0_numbers (pe.2 a) post) : Ct l D cy miX10_markBy rmX10_markBy_k4 emI pe [.ref a, .ref h_a0] [(h_a0, .inr (7, [.ref h_a0_numbers, .int v_a0_left, .int v_a0_purse, .int v_a0_memory])), (h_a0_numbers, .inl (cy 0, 16, .inl v_a0_numbers))] (fun r w1 => ∃ (w_a0_left : Int32) (w_a0_numbers : Nat → Int32), w1 = [(h_a0, .inr (7, [.ref h_a0_numbers, .int w_a0_left, .int v_a0_purse, .int v_a0_memory])), (h_a0_numbers, .inl (cy 0, 16, .inl w_a0_numbers))] ∧ post r w_a0_left w_a0_numbers) := by
  refine Ct.of (by decide) (Nat.le_of_ble_eq_true rfl) ?_
  intro p e s m args below meth c A ls Q C hQ hA hI hP hD hS hl
  obtain ⟨hx, hb, hr, hml, hown, hts, hK, hlk, hnm⟩ := id C
  have hb : c.code = cX10_markBy := hb
  have hml : c.maxLocals = 3 := hml
  have hown : s.vm.findClass RX10 = some m.cls := hown
  have hl : lv_has ls 3 [(0, .ref a), (1, .ref h_a0)] := hl
  unfold wpX10_markBy_k4 at hF
  refine lv_aload_n hx hb dX10_markBy_0 rfl (lv_at hl 1 rfl) ?_
  refine lv_bipush (v := 23) hx hb dX10_markBy_1 (by decide) ?_
  refine cV_t (As := [.int 23]) (wr := []) C hA hP hD hS mfX8_leave t4_51 t4_52 t4_86 (ccX8_leave l D cy h_a0 h_a0_numbers v_a0_left v_a0_purse v_a0_memory v_a0_numbers 23 _ hF) [0, 1] [] rfl rfl (by decide) (by decide) (by decide) PO.np 0 7 rfl rfl rfl rfl hl.1 rfl (Nat.le_of_ble_eq_true rfl) dX10_markBy_3 ⟨Nat.le_of_ble_eq_true rfl, Nat.le_of_ble_eq_true rfl⟩ ⟨Nat.le_of_ble_eq_true rfl, Nat.le_of_ble_eq_true rfl⟩ ?_
  rintro ⟨⟩ w1 H locs ⟨u2_a0_left, u3_a0_numbers, rfl, hF⟩ hP hD hS
  have hP : va_P D CL [(h_a0, .inr (7, [.ref h_a0_numbers, .int u2_a0_left, .int v_a0_purse, .int v_a0_memory])), (h_a0_numbers, .inl (cy 0, 16, .inl u3_a0_numbers))] H := hP
  have hD : va_D A [(h_a0, .inr (7, [.ref h_a0_numbers, .int u2_a0_left, .int v_a0_purse, .int v_a0_memory])), (h_a0_numbers, .inl (cy 0, 16, .inl u3_a0_numbers))] := hD
  refine W.eq (g2 := F0 m 6 ls []) rfl ?_
  refine lv_aload_n hx hb dX10_markBy_6 rfl (lv_at hl 0 rfl) ?_
  refine lv_aload_n hx hb dX10_markBy_7 rfl (lv_at hl 1 rfl) ?_
  refine cX_t (As := [.ref h_a0]) (wr := []) C hA hP hD hS (hI.at hS) ha mfX3_markBy t4_71 t4_93 t6_11 t2_135 (by decide) (ccX3_markBy_k4 l D cy pe a ha hk h_a0 h_a0_numbers u2_a0_left v_a0_purse v_a0_memory u3_a0_numbers _ hF) [0, 1] [] rfl rfl (by decide) (by decide) (by decide) (hI.po hS hD [0, 1] rfl) rfl hl.1 rfl (Nat.le_of_ble_eq_true rfl) dX10_markBy_8 ⟨Nat.le_of_ble_eq_true rfl, Nat.le_of_ble_eq_true rfl⟩ ⟨Nat.le_of_ble_eq_true rfl, Nat.le_of_ble_eq_true rfl⟩ ?_
  rintro r4 w1 H locs ⟨u5_a0_left, u6_a0_numbers, rfl, hF⟩ hP hD hS
  have hP : va_P D CL [(h_a0, .inr (7, [.ref h_a0_numbers, .int u5_a0_left, .int v_a0_purse, .int v_a0_memory])), (h_a0_numbers, .inl (cy 0, 16, .inl u6_a0_numbers))] H := hP
  have hD : va_D A [(h_a0, .inr (7, [.ref h_a0_numbers, .int u5_a0_left, .int v_a0_purse, .int v_a0_memory])), (h_a0_numbers, .inl (cy 0, 16, .inl u6_a0_numbers))] := hD
  refine W.eq (g2 := F0 m 11 ls [.int r4]) rfl ?_
  refine lv_istore_n (lv' := [(2, .int r4), (0, .ref a), (1, .ref h_a0)]) hx hb dX10_markBy_11 rfl hl (by decide) rfl (fun ls hl => ?_)
  refine lv_iload_n hx hb dX10_markBy_12 rfl (lv_at hl 0 rfl) ?_
  refine lv_aload_n hx hb dX10_markBy_13 rfl (lv_at hl 1 rfl) ?_
  refine lv_aload_n hx hb dX10_markBy_14 rfl (lv_at hl 2 rfl) ?_
  refine cU_t (As := [.ref h_a0]) (wr := []) C hA hP hD hS (hI.at hS) ha hk ⟨"LivedAgain$Widow", "sizeBy", "(LLivedAgain$Trace;)I"⟩ "LivedAgain$Widow" mfX10_sizeBy t4_84 t4_94 t6_13 (va_Decl.of (hts _ t4_84) (hts _ t4_85)) t6_19 (by decide +kernel) (ccX10_sizeBy_k4 l D cy pe a ha hk h_a0 h_a0_numbers u5_a0_left v_a0_purse v_a0_memory u6_a0_numbers _ hF) [0, 1] [] rfl rfl (by decide) (by decide) (by decide) (hI.po hS hD [0, 1] rfl) rfl hl.1 rfl (Nat.le_of_ble_eq_true rfl) dX10_markBy_15 ⟨Nat.le_of_ble_eq_true rfl, Nat.le_of_ble_eq_true rfl⟩ ⟨Nat.le_of_ble_eq_true rfl, Nat.le_of_ble_eq_true rfl⟩ ?_
  rintro r7 w1 H locs ⟨u8_a0_left, u9_a0_numbers, rfl, hF⟩ hP hD hS
  have hP : va_P D CL [(h_a0, .inr (7, [.ref h_a0_numbers, .int u8_a0_left, .int v_a0_purse, .int v_a0_memory])), (h_a0_numbers, .inl (cy 0, 16, .inl u9_a0_numbers))] H := hP
  have hD : va_D A [(h_a0, .inr (7, [.ref h_a0_numbers, .int u8_a0_left, .int v_a0_purse, .int v_a0_memory])), (h_a0_numbers, .inl (cy 0, 16, .inl u9_a0_numbers))] := hD
  refine W.eq (g2 := F0 m 18 ls [.int r7, .int r4]) rfl ?_
  refine lv_isub hx hb dX10_markBy_18 ?_
  exact rt_i C hQ rfl hP hD hS ⟨u8_a0_left, u9_a0_numbers, rfl, hF⟩ dX10_markBy_19

def wpX3_helpOf_k5 (p0 : Int32) (pt : PT) (post : Int32 → Prop) : Prop := post p0
abbrev rmX3_helpOf_k5 : Room := { frames := 0, cells := 0, slots := 0, locals := 0 }
set_option maxHeartbeats 4000000 in
set_option maxRecDepth 100000 in
theorem ccX3_helpOf_k5 (l : Launch) (D : va_G) (cy : Nat → ClassId) (pe : Pe) (a : Nat) (ha : a ∈ pe.1) (hk : (pe.2 a).1 = 5) (p0 : Int32) (post : Int32 → Prop) (hF : wpX3_helpOf_k5 p0 (pe.2 a) post) : Cr l D cy miX3_helpOf rmX3_helpOf_k5 emI pe [.ref a, .int p0] [] post := by
  refine Cr.of (by decide) (Nat.le_of_ble_eq_true rfl) ?_
  intro p e s m args below meth c ls Q C hQ hO hP hl
  obtain ⟨hx, hb, hr, hml, hown, hts, hK, hlk, hnm⟩ := id C
  have hb : c.code = cX3_helpOf := hb
  have hml : c.maxLocals = 2 := hml
  have hown : s.vm.findClass RX3 = some m.cls := hown
  have hl : lv_has ls 2 [(0, .ref a), (1, .int p0)] := hl
  unfold wpX3_helpOf_k5 at hF
  refine lv_iload_n hx hb dX3_helpOf_0 rfl (lv_at hl 1 rfl) ?_
  exact rr_i C hQ rfl hF dX3_helpOf_1

def wpX3_bringsBy_k5 (p0 : Bool) (pt : PT) (post : Int32 → Prop) : Prop := (p0 = false → (post (-pt.2.2.2.2))) ∧ (p0 = true → (post pt.2.2.2.1))
abbrev rmX3_bringsBy_k5 : Room := { frames := 0, cells := 0, slots := 0, locals := 0 }
set_option maxHeartbeats 4000000 in
set_option maxRecDepth 100000 in
theorem ccX3_bringsBy_k5 (l : Launch) (D : va_G) (cy : Nat → ClassId) (pe : Pe) (a : Nat) (ha : a ∈ pe.1) (hk : (pe.2 a).1 = 5) (p0 : Bool) (post : Int32 → Prop) (hF : wpX3_bringsBy_k5 p0 (pe.2 a) post) : Cr l D cy miX3_bringsBy rmX3_bringsBy_k5 emI pe [.ref a, .int (bz p0)] [] post := by
  refine Cr.of (by decide) (Nat.le_of_ble_eq_true rfl) ?_
  intro p e s m args below meth c ls Q C hQ hO hP hl
  obtain ⟨hx, hb, hr, hml, hown, hts, hK, hlk, hnm⟩ := id C
  have hb : c.code = cX3_bringsBy := hb
  have hml : c.maxLocals = 2 := hml
  have hown : s.vm.findClass RX3 = some m.cls := hown
  have hl : lv_has ls 2 [(0, .ref a), (1, .int (bz p0))] := hl
  unfold wpX3_bringsBy_k5 at hF
  refine lv_iload_n hx hb dX3_bringsBy_0 rfl (lv_at hl 1 rfl) ?_
  refine lv_if_eq (tgt := 11) hx hb dX3_bringsBy_1 (by decide) (fun c_ => ?_) (fun c_ => ?_)
  · have hF := hF.1 ((bz_0 _).mp c_)
    refine lv_aload_n hx hb dX3_bringsBy_11 rfl (lv_at hl 0 rfl) ?_
    refine pe_get3 C hO ha (hts _ t2_92) (fun _ h9 => h9) dX3_bringsBy_12 ?_
    refine lv_ineg hx hb dX3_bringsBy_15 ?_
    exact rr_i C hQ rfl hF dX3_bringsBy_16
  · have hF := hF.2 ((bz_1 _).mp c_)
    refine lv_aload_n hx hb dX3_bringsBy_4 rfl (lv_at hl 0 rfl) ?_
    refine pe_get2 C hO ha (hts _ t2_88) (fun _ h9 => h9) dX3_bringsBy_5 ?_
    refine lv_goto (tgt := 16) hx hb dX3_bringsBy_8 (by decide) ?_
    exact rr_i C hQ rfl hF dX3_bringsBy_16

def wpX6_beginsWithRight_k5 (pt : PT) (post : Bool → Prop) : Prop := post false
abbrev miX6_beginsWithRight : MI := (yX6_beginsWithRight, cX6_beginsWithRight, 1, (some .boolean))
theorem mfX6_beginsWithRight : MF miX6_beginsWithRight 0 := ⟨t2_164, t1_15, by decide +kernel⟩
abbrev rmX6_beginsWithRight_k5 : Room := { frames := 0, cells := 0, slots := 0, locals := 0 }
set_option maxHeartbeats 4000000 in
set_option maxRecDepth 100000 in
theorem ccX6_beginsWithRight_k5 (l : Launch) (D : va_G) (cy : Nat → ClassId) (pe : Pe) (a : Nat) (ha : a ∈ pe.1) (hk : (pe.2 a).1 = 5) (post : Bool → Prop) (hF : wpX6_beginsWithRight_k5 (pe.2 a) post) : Cr l D cy miX6_beginsWithRight rmX6_beginsWithRight_k5 emB pe [.ref a] [] post := by
  refine Cr.of (by decide) (Nat.le_of_ble_eq_true rfl) ?_
  intro p e s m args below meth c ls Q C hQ hO hP hl
  obtain ⟨hx, hb, hr, hml, hown, hts, hK, hlk, hnm⟩ := id C
  have hb : c.code = cX6_beginsWithRight := hb
  have hml : c.maxLocals = 1 := hml
  have hown : s.vm.findClass RX6 = some m.cls := hown
  have hl : lv_has ls 1 [(0, .ref a)] := hl
  unfold wpX6_beginsWithRight_k5 at hF
  refine lv_iconst (v := 0) hx hb dX6_beginsWithRight_0 (by decide) ?_
  refine W.eq (g2 := F0 m 1 ls [.int (bz false)]) rfl ?_
  exact rr_b C hQ rfl hF dX6_beginsWithRight_1

def wpX6_mayUseRight_k5 (pt : PT) (post : Bool → Prop) : Prop := post true
abbrev miX6_mayUseRight : MI := (yX6_mayUseRight, cX6_mayUseRight, 1, (some .boolean))
theorem mfX6_mayUseRight : MF miX6_mayUseRight 0 := ⟨t3_3, t1_15, by decide +kernel⟩
abbrev rmX6_mayUseRight_k5 : Room := { frames := 0, cells := 0, slots := 0, locals := 0 }
set_option maxHeartbeats 4000000 in
set_option maxRecDepth 100000 in
theorem ccX6_mayUseRight_k5 (l : Launch) (D : va_G) (cy : Nat → ClassId) (pe : Pe) (a : Nat) (ha : a ∈ pe.1) (hk : (pe.2 a).1 = 5) (post : Bool → Prop) (hF : wpX6_mayUseRight_k5 (pe.2 a) post) : Cr l D cy miX6_mayUseRight rmX6_mayUseRight_k5 emB pe [.ref a] [] post := by
  refine Cr.of (by decide) (Nat.le_of_ble_eq_true rfl) ?_
  intro p e s m args below meth c ls Q C hQ hO hP hl
  obtain ⟨hx, hb, hr, hml, hown, hts, hK, hlk, hnm⟩ := id C
  have hb : c.code = cX6_mayUseRight := hb
  have hml : c.maxLocals = 1 := hml
  have hown : s.vm.findClass RX6 = some m.cls := hown
  have hl : lv_has ls 1 [(0, .ref a)] := hl
  unfold wpX6_mayUseRight_k5 at hF
  refine lv_iconst (v := 1) hx hb dX6_mayUseRight_0 (by decide) ?_
  refine W.eq (g2 := F0 m 1 ls [.int (bz true)]) rfl ?_
  exact rr_b C hQ rfl hF dX6_mayUseRight_1

def wpX6_ownKind_k5 (pt : PT) (post : Int32 → Prop) : Prop := post 5
abbrev miX6_ownKind : MI := (yX6_ownKind, cX6_ownKind, 1, (some .int))
theorem mfX6_ownKind : MF miX6_ownKind 0 := ⟨t4_20, t1_15, by decide +kernel⟩
abbrev rmX6_ownKind_k5 : Room := { frames := 0, cells := 0, slots := 0, locals := 0 }
set_option maxHeartbeats 4000000 in
set_option maxRecDepth 100000 in
theorem ccX6_ownKind_k5 (l : Launch) (D : va_G) (cy : Nat → ClassId) (pe : Pe) (a : Nat) (ha : a ∈ pe.1) (hk : (pe.2 a).1 = 5) (post : Int32 → Prop) (hF : wpX6_ownKind_k5 (pe.2 a) post) : Cr l D cy miX6_ownKind rmX6_ownKind_k5 emI pe [.ref a] [] post := by
  refine Cr.of (by decide) (Nat.le_of_ble_eq_true rfl) ?_
  intro p e s m args below meth c ls Q C hQ hO hP hl
  obtain ⟨hx, hb, hr, hml, hown, hts, hK, hlk, hnm⟩ := id C
  have hb : c.code = cX6_ownKind := hb
  have hml : c.maxLocals = 1 := hml
  have hown : s.vm.findClass RX6 = some m.cls := hown
  have hl : lv_has ls 1 [(0, .ref a)] := hl
  unfold wpX6_ownKind_k5 at hF
  refine lv_iconst (v := 5) hx hb dX6_ownKind_0 (by decide) ?_
  exact rr_i C hQ rfl hF dX6_ownKind_1

def wpX3_oddsBy_k5 (p0 : Int32) (pt : PT) (post : Int32 → Prop) : Prop := wpX3_helpOf_k5 p0 pt (fun r1 => post (if (pt.2.2.1 + r1) < 10 then (pt.2.2.1 + r1) else 10))
abbrev rmX3_oddsBy_k5 : Room := { frames := 1, cells := 0, slots := 0, locals := 21 }
set_option maxHeartbeats 4000000 in
set_option maxRecDepth 100000 in
theorem ccX3_oddsBy_k5 (l : Launch) (D : va_G) (cy : Nat → ClassId) (pe : Pe) (a : Nat) (ha : a ∈ pe.1) (hk : (pe.2 a).1 = 5) (p0 : Int32) (post : Int32 → Prop) (hF : wpX3_oddsBy_k5 p0 (pe.2 a) post) : Cr l D cy miX3_oddsBy rmX3_oddsBy_k5 emI pe [.ref a, .int p0] [] post := by
  refine Cr.of (by decide) (Nat.le_of_ble_eq_true rfl) ?_
  intro p e s m args below meth c ls Q C hQ hO hP hl
  obtain ⟨hx, hb, hr, hml, hown, hts, hK, hlk, hnm⟩ := id C
  have hb : c.code = cX3_oddsBy := hb
  have hml : c.maxLocals = 2 := hml
  have hown : s.vm.findClass RX3 = some m.cls := hown
  have hl : lv_has ls 2 [(0, .ref a), (1, .int p0)] := hl
  unfold wpX3_oddsBy_k5 at hF
  refine lv_bipush (v := 10) hx hb dX3_oddsBy_0 (by decide) ?_
  refine lv_aload_n hx hb dX3_oddsBy_2 rfl (lv_at hl 0 rfl) ?_
  refine pe_get1 C hO ha (hts _ t2_86) (fun _ h9 => h9) dX3_oddsBy_3 ?_
  refine lv_aload_n hx hb dX3_oddsBy_6 rfl (lv_at hl 0 rfl) ?_
  refine lv_iload_n hx hb dX3_oddsBy_7 rfl (lv_at hl 1 rfl) ?_
  refine cU_r (As := [.int p0]) C hO ha hk ⟨"LivedAgain$Person", "helpOf", "(I)I"⟩ "LivedAgain$Person" mfX3_helpOf t2_211 t2_210 t2_212 (va_Decl.of (hts _ t2_211) (hts _ t2_220)) t2_218 (by decide +kernel) (ccX3_helpOf_k5 l D cy pe a ha hk p0 _ hF) rfl rfl rfl hl.1 rfl (Nat.le_of_ble_eq_true rfl) dX3_oddsBy_8 ⟨Nat.le_of_ble_eq_true rfl, Nat.le_of_ble_eq_true rfl⟩ ⟨Nat.le_of_ble_eq_true rfl, Nat.le_of_ble_eq_true rfl⟩ ?_
  intro r1 hF
  refine W.eq (g2 := F0 m 11 ls [.int r1, .int ((pe.2 a).2.2.1), .int 10]) rfl ?_
  refine lv_iadd hx hb dX3_oddsBy_11 ?_
  refine va_mmin hx hb (hml.trans hl.1.symm) hown (hts _ t2_221) (hts _ t2_153) (hts _ t1_16) (hts _ t2_154) (by decide) (Nat.le_of_ble_eq_true rfl) (by decide) (by decide) dX3_oddsBy_12 ?_
  exact rr_i C hQ rfl hF dX3_oddsBy_15

def wpX3_waysToGo_k5 (p0 : Int32) (p1 : Bool) (pt : PT) (post : Int32 → Prop) : Prop := wpX3_oddsBy_k5 p0 pt (fun r1 => (p1 = false → (post (10 - r1))) ∧ (p1 = true → (post r1)))
abbrev rmX3_waysToGo_k5 : Room := { frames := 2, cells := 0, slots := 0, locals := 42 }
set_option maxHeartbeats 4000000 in
set_option maxRecDepth 100000 in
theorem ccX3_waysToGo_k5 (l : Launch) (D : va_G) (cy : Nat → ClassId) (pe : Pe) (a : Nat) (ha : a ∈ pe.1) (hk : (pe.2 a).1 = 5) (p0 : Int32) (p1 : Bool) (post : Int32 → Prop) (hF : wpX3_waysToGo_k5 p0 p1 (pe.2 a) post) : Cr l D cy miX3_waysToGo rmX3_waysToGo_k5 emI pe [.ref a, .int p0, .int (bz p1)] [] post := by
  refine Cr.of (by decide) (Nat.le_of_ble_eq_true rfl) ?_
  intro p e s m args below meth c ls Q C hQ hO hP hl
  obtain ⟨hx, hb, hr, hml, hown, hts, hK, hlk, hnm⟩ := id C
  have hb : c.code = cX3_waysToGo := hb
  have hml : c.maxLocals = 4 := hml
  have hown : s.vm.findClass RX3 = some m.cls := hown
  have hl : lv_has ls 4 [(0, .ref a), (1, .int p0), (2, .int (bz p1))] := hl
  unfold wpX3_waysToGo_k5 at hF
  refine lv_aload_n hx hb dX3_waysToGo_0 rfl (lv_at hl 0 rfl) ?_
  refine lv_iload_n hx hb dX3_waysToGo_1 rfl (lv_at hl 1 rfl) ?_
  refine cU_r (As := [.int p0]) C hO ha hk ⟨"LivedAgain$Person", "oddsBy", "(I)I"⟩ "LivedAgain$Person" mfX3_oddsBy t2_202 t3_105 t2_203 (va_Decl.of (hts _ t2_202) (hts _ t2_209)) t2_207 (by decide +kernel) (ccX3_oddsBy_k5 l D cy pe a ha hk p0 _ hF) rfl rfl rfl hl.1 rfl (Nat.le_of_ble_eq_true rfl) dX3_waysToGo_2 ⟨Nat.le_of_ble_eq_true rfl, Nat.le_of_ble_eq_true rfl⟩ ⟨Nat.le_of_ble_eq_true rfl, Nat.le_of_ble_eq_true rfl⟩ ?_
  intro r1 hF
  refine W.eq (g2 := F0 m 5 ls [.int r1]) rfl ?_
  refine lv_istore_n (lv' := [(3, .int r1), (0, .ref a), (1, .int p0), (2, .int (bz p1))]) hx hb dX3_waysToGo_5 rfl hl (by decide) rfl (fun ls hl => ?_)
  refine lv_iload_n hx hb dX3_waysToGo_6 rfl (lv_at hl 3 rfl) ?_
  refine lv_if_eq (tgt := 14) hx hb dX3_waysToGo_7 (by decide) (fun c_ => ?_) (fun c_ => ?_)
  · have hF := hF.1 ((bz_0 _).mp c_)
    refine lv_bipush (v := 10) hx hb dX3_waysToGo_14 (by decide) ?_
    refine lv_iload_n hx hb dX3_waysToGo_16 rfl (lv_at hl 0 rfl) ?_
    refine lv_isub hx hb dX3_waysToGo_17 ?_
    exact rr_i C hQ rfl hF dX3_waysToGo_18
  · have hF := hF.2 ((bz_1 _).mp c_)
    refine lv_iload_n hx hb dX3_waysToGo_10 rfl (lv_at hl 0 rfl) ?_
    refine lv_goto (tgt := 18) hx hb dX3_waysToGo_11 (by decide) ?_
    exact rr_i C hQ rfl hF dX3_waysToGo_18

def wpX3_meanTenths_k5 (p0 : Int32) (pt : PT) (post : Int64 → Prop) : Prop := wpX3_waysToGo_k5 p0 true pt (fun r1 => wpX3_bringsBy_k5 true pt (fun r2 => wpX3_waysToGo_k5 p0 false pt (fun r3 => wpX3_bringsBy_k5 false pt (fun r4 => post ((((r1).toInt64) * ((r2).toInt64)) + (((r3).toInt64) * ((r4).toInt64)))))))
abbrev rmX3_meanTenths_k5 : Room := { frames := 3, cells := 0, slots := 0, locals := 65 }
set_option maxHeartbeats 4000000 in
set_option maxRecDepth 100000 in
theorem ccX3_meanTenths_k5 (l : Launch) (D : va_G) (cy : Nat → ClassId) (pe : Pe) (a : Nat) (ha : a ∈ pe.1) (hk : (pe.2 a).1 = 5) (p0 : Int32) (post : Int64 → Prop) (hF : wpX3_meanTenths_k5 p0 (pe.2 a) post) : Cr l D cy miX3_meanTenths rmX3_meanTenths_k5 emL pe [.ref a, .int p0] [] post := by
  refine Cr.of (by decide) (Nat.le_of_ble_eq_true rfl) ?_
  intro p e s m args below meth c ls Q C hQ hO hP hl
  obtain ⟨hx, hb, hr, hml, hown, hts, hK, hlk, hnm⟩ := id C
  have hb : c.code = cX3_meanTenths := hb
  have hml : c.maxLocals = 2 := hml
  have hown : s.vm.findClass RX3 = some m.cls := hown
  have hl : lv_has ls 2 [(0, .ref a), (1, .int p0)] := hl
  unfold wpX3_meanTenths_k5 at hF
  refine lv_aload_n hx hb dX3_meanTenths_0 rfl (lv_at hl 0 rfl) ?_
  refine lv_iload_n hx hb dX3_meanTenths_1 rfl (lv_at hl 1 rfl) ?_
  refine lv_iconst (v := 1) hx hb dX3_meanTenths_2 (by decide) ?_
  refine cU_r (As := [.int p0, .int (bz true)]) C hO ha hk ⟨"LivedAgain$Person", "waysToGo", "(IZ)I"⟩ "LivedAgain$Person" mfX3_waysToGo t3_97 t3_188 t3_98 (va_Decl.of (hts _ t3_97) (hts _ t3_104)) t3_102 (by decide +kernel) (ccX3_waysToGo_k5 l D cy pe a ha hk p0 true _ hF) rfl rfl rfl hl.1 rfl (Nat.le_of_ble_eq_true rfl) dX3_meanTenths_3 ⟨Nat.le_of_ble_eq_true rfl, Nat.le_of_ble_eq_true rfl⟩ ⟨Nat.le_of_ble_eq_true rfl, Nat.le_of_ble_eq_true rfl⟩ ?_
  intro r1 hF
  refine W.eq (g2 := F0 m 6 ls [.int r1]) rfl ?_
  refine lv_i2l hx hb dX3_meanTenths_6 rfl ?_
  refine lv_aload_n hx hb dX3_meanTenths_7 rfl (lv_at hl 0 rfl) ?_
  refine lv_iconst (v := 1) hx hb dX3_meanTenths_8 (by decide) ?_
  refine cU_r (As := [.int (bz true)]) C hO ha hk ⟨"LivedAgain$Person", "bringsBy", "(Z)I"⟩ "LivedAgain$Person" mfX3_bringsBy t3_21 t3_189 t3_22 (va_Decl.of (hts _ t3_21) (hts _ t3_35)) t3_33 (by decide +kernel) (ccX3_bringsBy_k5 l D cy pe a ha hk true _ hF) rfl rfl rfl hl.1 rfl (Nat.le_of_ble_eq_true rfl) dX3_meanTenths_9 ⟨Nat.le_of_ble_eq_true rfl, Nat.le_of_ble_eq_true rfl⟩ ⟨Nat.le_of_ble_eq_true rfl, Nat.le_of_ble_eq_true rfl⟩ ?_
  intro r2 hF
  refine W.eq (g2 := F0 m 12 ls [.int r2, .long ((r1).toInt64)]) rfl ?_
  refine lv_i2l hx hb dX3_meanTenths_12 rfl ?_
  refine lv_lmul hx hb dX3_meanTenths_13 ?_
  refine lv_aload_n hx hb dX3_meanTenths_14 rfl (lv_at hl 0 rfl) ?_
  refine lv_iload_n hx hb dX3_meanTenths_15 rfl (lv_at hl 1 rfl) ?_
  refine lv_iconst (v := 0) hx hb dX3_meanTenths_16 (by decide) ?_
  refine cU_r (As := [.int p0, .int (bz false)]) C hO ha hk ⟨"LivedAgain$Person", "waysToGo", "(IZ)I"⟩ "LivedAgain$Person" mfX3_waysToGo t3_97 t3_188 t3_98 (va_Decl.of (hts _ t3_97) (hts _ t3_104)) t3_102 (by decide +kernel) (ccX3_waysToGo_k5 l D cy pe a ha hk p0 false _ hF) rfl rfl rfl hl.1 rfl (Nat.le_of_ble_eq_true rfl) dX3_meanTenths_17 ⟨Nat.le_of_ble_eq_true rfl, Nat.le_of_ble_eq_true rfl⟩ ⟨Nat.le_of_ble_eq_true rfl, Nat.le_of_ble_eq_true rfl⟩ ?_
  intro r3 hF
  refine W.eq (g2 := F0 m 20 ls [.int r3, .long (((r1).toInt64) * ((r2).toInt64))]) rfl ?_
  refine lv_i2l hx hb dX3_meanTenths_20 rfl ?_
  refine lv_aload_n hx hb dX3_meanTenths_21 rfl (lv_at hl 0 rfl) ?_
  refine lv_iconst (v := 0) hx hb dX3_meanTenths_22 (by decide) ?_
  refine cU_r (As := [.int (bz false)]) C hO ha hk ⟨"LivedAgain$Person", "bringsBy", "(Z)I"⟩ "LivedAgain$Person" mfX3_bringsBy t3_21 t3_189 t3_22 (va_Decl.of (hts _ t3_21) (hts _ t3_35)) t3_33 (by decide +kernel) (ccX3_bringsBy_k5 l D cy pe a ha hk false _ hF) rfl rfl rfl hl.1 rfl (Nat.le_of_ble_eq_true rfl) dX3_meanTenths_23 ⟨Nat.le_of_ble_eq_true rfl, Nat.le_of_ble_eq_true rfl⟩ ⟨Nat.le_of_ble_eq_true rfl, Nat.le_of_ble_eq_true rfl⟩ ?_
  intro r4 hF
  refine W.eq (g2 := F0 m 26 ls [.int r4, .long ((r3).toInt64), .long (((r1).toInt64) * ((r2).toInt64))]) rfl ?_
  refine lv_i2l hx hb dX3_meanTenths_26 rfl ?_
  refine lv_lmul hx hb dX3_meanTenths_27 ?_
  refine lv_ladd hx hb dX3_meanTenths_28 ?_
  exact rr_l C hQ rfl hF dX3_meanTenths_29

def wlX3_worthOfRight_k5_36 (pt : PT) (post : Int64 → Prop) : Nat → Int32 → Int64 → Int64 → Int64 → Int32 → Prop
  | 0, _, _, _, _, _ => False
  | n + 1, l1, l2, l4, l6, l8 => (l1 ≤ l8 → (post l6)) ∧ (¬ l1 ≤ l8 → (wpX3_bringsBy_k5 true pt (fun r1 => wpX3_bringsBy_k5 false pt (fun r2 => wpX3_waysToGo_k5 0 true pt (fun r3 => wpX3_waysToGo_k5 0 false pt (fun r4 => (wlX3_worthOfRight_k5_36 pt post n) l1 l2 l4 ((((((r3).toInt64) * (if l2 < ((((r1).toInt64) * 10000) + l6) then ((((r1).toInt64) * 10000) + l6) else l2)) + (((r4).toInt64) * (if l2 < ((((r2).toInt64) * 10000) + l6) then ((((r2).toInt64) * 10000) + l6) else l2))) / 10) - l4) (l8 + 1)))))))
def wpX3_worthOfRight_k5 (p0 : Int32) (pt : PT) (post : Int64 → Prop) : Prop := wpX6_mayUseRight_k5 pt (fun r1 => (r1 = true → (wpX3_meanTenths_k5 1 pt (fun r2 => wpX3_meanTenths_k5 0 pt (fun r3 => wlX3_worthOfRight_k5_36 pt post fu p0 (r2 * 1000) (r3 * 1000) 0 0)))) ∧ (r1 = false → (post 0)))
abbrev rmX3_worthOfRight_k5 : Room := { frames := 4, cells := 0, slots := 0, locals := 86 }
set_option maxHeartbeats 4000000 in
set_option maxRecDepth 100000 in
theorem ccX3_worthOfRight_k5 (l : Launch) (D : va_G) (cy : Nat → ClassId) (pe : Pe) (a : Nat) (ha : a ∈ pe.1) (hk : (pe.2 a).1 = 5) (p0 : Int32) (post : Int64 → Prop) (hF : wpX3_worthOfRight_k5 p0 (pe.2 a) post) : Cr l D cy miX3_worthOfRight rmX3_worthOfRight_k5 emL pe [.ref a, .int p0] [] post := by
  refine Cr.of (by decide) (Nat.le_of_ble_eq_true rfl) ?_
  intro p e s m args below meth c ls Q C hQ hO hP hl
  obtain ⟨hx, hb, hr, hml, hown, hts, hK, hlk, hnm⟩ := id C
  have hb : c.code = cX3_worthOfRight := hb
  have hml : c.maxLocals = 13 := hml
  have hown : s.vm.findClass RX3 = some m.cls := hown
  have hl : lv_has ls 13 [(0, .ref a), (1, .int p0)] := hl
  have L_36 : ∀ (n_36 : Nat) (l1 : Int32) (l2 : Int64) (l4 : Int64) (l6 : Int64) (l8 : Int32) (ls : Array Slot), lv_has ls 13 [(0, .ref a), (1, .int l1), (2, .long l2), (4, .long l4), (6, .long l6), (8, .int l8)] → wlX3_worthOfRight_k5_36 (pe.2 a) post n_36 l1 l2 l4 l6 l8 → W p l e rmX3_worthOfRight_k5 s m args below meth c s.heap [] 0 0 Q (F0 m 36 ls []) := by
    intro n_36
    induction n_36 with
    | zero =>
      intro l1 l2 l4 l6 l8 ls  hl hF
      simp only [wlX3_worthOfRight_k5_36] at hF
    | succ n_36 ih_36 =>
      intro l1 l2 l4 l6 l8 ls  hl hF
      unfold wlX3_worthOfRight_k5_36 at hF
      refine lv_iload hx hb dX3_worthOfRight_36 (lv_at hl 5 rfl) ?_
      refine lv_iload_n hx hb dX3_worthOfRight_38 rfl (lv_at hl 1 rfl) ?_
      refine lv_icmp_ge (tgt := 116) hx hb dX3_worthOfRight_39 (by decide) (fun c_ => ?_) (fun c_ => ?_)
      · have hF := hF.1 c_
        refine lv_lload hx hb dX3_worthOfRight_116 (lv_at hl 4 rfl) ?_
        exact rr_l C hQ rfl hF dX3_worthOfRight_118
      · have hF := hF.2 c_
        refine lv_aload_n hx hb dX3_worthOfRight_42 rfl (lv_at hl 0 rfl) ?_
        refine lv_iconst (v := 1) hx hb dX3_worthOfRight_43 (by decide) ?_
        refine cU_r (As := [.int (bz true)]) C hO ha hk ⟨"LivedAgain$Person", "bringsBy", "(Z)I"⟩ "LivedAgain$Person" mfX3_bringsBy t3_21 t3_189 t3_22 (va_Decl.of (hts _ t3_21) (hts _ t3_35)) t3_33 (by decide +kernel) (ccX3_bringsBy_k5 l D cy pe a ha hk true _ hF) rfl rfl rfl hl.1 rfl (Nat.le_of_ble_eq_true rfl) dX3_worthOfRight_44 ⟨Nat.le_of_ble_eq_true rfl, Nat.le_of_ble_eq_true rfl⟩ ⟨Nat.le_of_ble_eq_true rfl, Nat.le_of_ble_eq_true rfl⟩ ?_
        intro r1 hF
        refine W.eq (g2 := F0 m 47 ls [.int r1]) rfl ?_
        refine lv_i2l hx hb dX3_worthOfRight_47 rfl ?_
        refine lv_ldc2 hx hb hown (hts _ t3_191) dX3_worthOfRight_48 ?_
        refine lv_lmul hx hb dX3_worthOfRight_51 ?_
        refine lv_lload hx hb dX3_worthOfRight_52 (lv_at hl 4 rfl) ?_
        refine lv_ladd hx hb dX3_worthOfRight_54 ?_
        refine lv_lload_n hx hb dX3_worthOfRight_55 rfl (lv_at hl 2 rfl) ?_
        refine va_mmax_long hx hb (hml.trans hl.1.symm) hown (hts _ t3_192) (hts _ t3_193) (hts _ t1_16) (hts _ t3_194) (by decide) (Nat.le_of_ble_eq_true rfl) (by decide) (by decide) dX3_worthOfRight_56 ?_
        refine lv_lstore (lv' := [(9, .long (if l2 < ((((r1).toInt64) * 10000) + l6) then ((((r1).toInt64) * 10000) + l6) else l2)), (0, .ref a), (1, .int l1), (2, .long l2), (4, .long l4), (6, .long l6), (8, .int l8)]) hx hb dX3_worthOfRight_59 hl (by decide) rfl (fun ls hl => ?_)
        refine lv_aload_n hx hb dX3_worthOfRight_61 rfl (lv_at hl 1 rfl) ?_
        refine lv_iconst (v := 0) hx hb dX3_worthOfRight_62 (by decide) ?_
        refine cU_r (As := [.int (bz false)]) C hO ha hk ⟨"LivedAgain$Person", "bringsBy", "(Z)I"⟩ "LivedAgain$Person" mfX3_bringsBy t3_21 t3_189 t3_22 (va_Decl.of (hts _ t3_21) (hts _ t3_35)) t3_33 (by decide +kernel) (ccX3_bringsBy_k5 l D cy pe a ha hk false _ hF) rfl rfl rfl hl.1 rfl (Nat.le_of_ble_eq_true rfl) dX3_worthOfRight_63 ⟨Nat.le_of_ble_eq_true rfl, Nat.le_of_ble_eq_true rfl⟩ ⟨Nat.le_of_ble_eq_true rfl, Nat.le_of_ble_eq_true rfl⟩ ?_
        intro r2 hF
        refine W.eq (g2 := F0 m 66 ls [.int r2]) rfl ?_
        refine lv_i2l hx hb dX3_worthOfRight_66 rfl ?_
        refine lv_ldc2 hx hb hown (hts _ t3_191) dX3_worthOfRight_67 ?_
        refine lv_lmul hx hb dX3_worthOfRight_70 ?_
        refine lv_lload hx hb dX3_worthOfRight_71 (lv_at hl 5 rfl) ?_
        refine lv_ladd hx hb dX3_worthOfRight_73 ?_
        refine lv_lload_n hx hb dX3_worthOfRight_74 rfl (lv_at hl 3 rfl) ?_
        refine va_mmax_long hx hb (hml.trans hl.1.symm) hown (hts _ t3_192) (hts _ t3_193) (hts _ t1_16) (hts _ t3_194) (by decide) (Nat.le_of_ble_eq_true rfl) (by decide) (by decide) dX3_worthOfRight_75 ?_
        refine lv_lstore (lv' := [(11, .long (if l2 < ((((r2).toInt64) * 10000) + l6) then ((((r2).toInt64) * 10000) + l6) else l2)), (9, .long (if l2 < ((((r1).toInt64) * 10000) + l6) then ((((r1).toInt64) * 10000) + l6) else l2)), (0, .ref a), (1, .int l1), (2, .long l2), (4, .long l4), (6, .long l6), (8, .int l8)]) hx hb dX3_worthOfRight_78 hl (by decide) rfl (fun ls hl => ?_)
        refine lv_aload_n hx hb dX3_worthOfRight_80 rfl (lv_at hl 2 rfl) ?_
        refine lv_iconst (v := 0) hx hb dX3_worthOfRight_81 (by decide) ?_
        refine lv_iconst (v := 1) hx hb dX3_worthOfRight_82 (by decide) ?_
        refine cU_r (As := [.int 0, .int (bz true)]) C hO ha hk ⟨"LivedAgain$Person", "waysToGo", "(IZ)I"⟩ "LivedAgain$Person" mfX3_waysToGo t3_97 t3_188 t3_98 (va_Decl.of (hts _ t3_97) (hts _ t3_104)) t3_102 (by decide +kernel) (ccX3_waysToGo_k5 l D cy pe a ha hk 0 true _ hF) rfl rfl rfl hl.1 rfl (Nat.le_of_ble_eq_true rfl) dX3_worthOfRight_83 ⟨Nat.le_of_ble_eq_true rfl, Nat.le_of_ble_eq_true rfl⟩ ⟨Nat.le_of_ble_eq_true rfl, Nat.le_of_ble_eq_true rfl⟩ ?_
        intro r3 hF
        refine W.eq (g2 := F0 m 86 ls [.int r3]) rfl ?_
        refine lv_i2l hx hb dX3_worthOfRight_86 rfl ?_
        refine lv_lload hx hb dX3_worthOfRight_87 (lv_at hl 1 rfl) ?_
        refine lv_lmul hx hb dX3_worthOfRight_89 ?_
        refine lv_aload_n hx hb dX3_worthOfRight_90 rfl (lv_at hl 2 rfl) ?_
        refine lv_iconst (v := 0) hx hb dX3_worthOfRight_91 (by decide) ?_
        refine lv_iconst (v := 0) hx hb dX3_worthOfRight_92 (by decide) ?_
        refine cU_r (As := [.int 0, .int (bz false)]) C hO ha hk ⟨"LivedAgain$Person", "waysToGo", "(IZ)I"⟩ "LivedAgain$Person" mfX3_waysToGo t3_97 t3_188 t3_98 (va_Decl.of (hts _ t3_97) (hts _ t3_104)) t3_102 (by decide +kernel) (ccX3_waysToGo_k5 l D cy pe a ha hk 0 false _ hF) rfl rfl rfl hl.1 rfl (Nat.le_of_ble_eq_true rfl) dX3_worthOfRight_93 ⟨Nat.le_of_ble_eq_true rfl, Nat.le_of_ble_eq_true rfl⟩ ⟨Nat.le_of_ble_eq_true rfl, Nat.le_of_ble_eq_true rfl⟩ ?_
        intro r4 hF
        refine W.eq (g2 := F0 m 96 ls [.int r4, .long (((r3).toInt64) * (if l2 < ((((r1).toInt64) * 10000) + l6) then ((((r1).toInt64) * 10000) + l6) else l2))]) rfl ?_
        refine lv_i2l hx hb dX3_worthOfRight_96 rfl ?_
        refine lv_lload hx hb dX3_worthOfRight_97 (lv_at hl 0 rfl) ?_
        refine lv_lmul hx hb dX3_worthOfRight_99 ?_
        refine lv_ladd hx hb dX3_worthOfRight_100 ?_
        refine lv_ldc2 hx hb hown (hts _ t3_195) dX3_worthOfRight_101 ?_
        refine lv_ldiv hx hb dX3_worthOfRight_104 (by decide) ?_
        refine lv_lload hx hb dX3_worthOfRight_105 (lv_at hl 5 rfl) ?_
        refine lv_lsub hx hb dX3_worthOfRight_107 ?_
        refine lv_lstore (lv' := [(6, .long ((((((r3).toInt64) * (if l2 < ((((r1).toInt64) * 10000) + l6) then ((((r1).toInt64) * 10000) + l6) else l2)) + (((r4).toInt64) * (if l2 < ((((r2).toInt64) * 10000) + l6) then ((((r2).toInt64) * 10000) + l6) else l2))) / 10) - l4)), (11, .long (if l2 < ((((r2).toInt64) * 10000) + l6) then ((((r2).toInt64) * 10000) + l6) else l2)), (9, .long (if l2 < ((((r1).toInt64) * 10000) + l6) then ((((r1).toInt64) * 10000) + l6) else l2)), (0, .ref a), (1, .int l1), (2, .long l2), (4, .long l4), (8, .int l8)]) hx hb dX3_worthOfRight_108 hl (by decide) rfl (fun ls hl => ?_)
        refine lv_iinc (v := (l8 + 1)) (lv' := [(8, .int (l8 + 1)), (6, .long ((((((r3).toInt64) * (if l2 < ((((r1).toInt64) * 10000) + l6) then ((((r1).toInt64) * 10000) + l6) else l2)) + (((r4).toInt64) * (if l2 < ((((r2).toInt64) * 10000) + l6) then ((((r2).toInt64) * 10000) + l6) else l2))) / 10) - l4)), (11, .long (if l2 < ((((r2).toInt64) * 10000) + l6) then ((((r2).toInt64) * 10000) + l6) else l2)), (9, .long (if l2 < ((((r1).toInt64) * 10000) + l6) then ((((r1).toInt64) * 10000) + l6) else l2)), (0, .ref a), (1, .int l1), (2, .long l2), (4, .long l4)]) hx hb dX3_worthOfRight_110 hl (k := 7) rfl rfl (by decide) rfl (fun ls hl => ?_)
        refine lv_goto (tgt := 36) hx hb dX3_worthOfRight_113 (by decide) ?_
        exact ih_36 l1 l2 l4 ((((((r3).toInt64) * (if l2 < ((((r1).toInt64) * 10000) + l6) then ((((r1).toInt64) * 10000) + l6) else l2)) + (((r4).toInt64) * (if l2 < ((((r2).toInt64) * 10000) + l6) then ((((r2).toInt64) * 10000) + l6) else l2))) / 10) - l4) (l8 + 1) ls  (lv_sub hl [4, 5, 6, 7, 1, 0] rfl) hF
  unfold wpX3_worthOfRight_k5 at hF
  refine lv_aload_n hx hb dX3_worthOfRight_0 rfl (lv_at hl 0 rfl) ?_
  refine cU_r (As := []) C hO ha hk ⟨"LivedAgain$Person", "mayUseRight", "()Z"⟩ "LivedAgain$Person" mfX6_mayUseRight t3_2 t3_178 t2_237 (va_Decl.of (hts _ t2_236) (hts _ t3_7)) t3_1 (by decide +kernel) (ccX6_mayUseRight_k5 l D cy pe a ha hk _ hF) rfl rfl rfl hl.1 rfl (Nat.le_of_ble_eq_true rfl) dX3_worthOfRight_1 ⟨Nat.le_of_ble_eq_true rfl, Nat.le_of_ble_eq_true rfl⟩ ⟨Nat.le_of_ble_eq_true rfl, Nat.le_of_ble_eq_true rfl⟩ ?_
  intro r1 hF
  refine W.eq (g2 := F0 m 4 ls [.int (bz r1)]) rfl ?_
  refine lv_if_ne (tgt := 9) hx hb dX3_worthOfRight_4 (by decide) (fun c_ => ?_) (fun c_ => ?_)
  · have hF := hF.1 ((bz_1 _).mp c_)
    refine lv_aload_n hx hb dX3_worthOfRight_9 rfl (lv_at hl 0 rfl) ?_
    refine lv_iconst (v := 1) hx hb dX3_worthOfRight_10 (by decide) ?_
    refine cU_r (As := [.int 1]) C hO ha hk ⟨"LivedAgain$Person", "meanTenths", "(I)J"⟩ "LivedAgain$Person" mfX3_meanTenths t3_180 t3_179 t3_181 (va_Decl.of (hts _ t3_180) (hts _ t3_187)) t3_185 (by decide +kernel) (ccX3_meanTenths_k5 l D cy pe a ha hk 1 _ hF) rfl rfl rfl hl.1 rfl (Nat.le_of_ble_eq_true rfl) dX3_worthOfRight_11 ⟨Nat.le_of_ble_eq_true rfl, Nat.le_of_ble_eq_true rfl⟩ ⟨Nat.le_of_ble_eq_true rfl, Nat.le_of_ble_eq_true rfl⟩ ?_
    intro r2 hF
    refine W.eq (g2 := F0 m 14 ls [.long r2]) rfl ?_
    refine lv_ldc2 hx hb hown (hts _ t3_190) dX3_worthOfRight_14 ?_
    refine lv_lmul hx hb dX3_worthOfRight_17 ?_
    refine lv_lstore_n (lv' := [(2, .long (r2 * 1000)), (0, .ref a), (1, .int p0)]) hx hb dX3_worthOfRight_18 rfl hl (by decide) rfl (fun ls hl => ?_)
    refine lv_aload_n hx hb dX3_worthOfRight_19 rfl (lv_at hl 1 rfl) ?_
    refine lv_iconst (v := 0) hx hb dX3_worthOfRight_20 (by decide) ?_
    refine cU_r (As := [.int 0]) C hO ha hk ⟨"LivedAgain$Person", "meanTenths", "(I)J"⟩ "LivedAgain$Person" mfX3_meanTenths t3_180 t3_179 t3_181 (va_Decl.of (hts _ t3_180) (hts _ t3_187)) t3_185 (by decide +kernel) (ccX3_meanTenths_k5 l D cy pe a ha hk 0 _ hF) rfl rfl rfl hl.1 rfl (Nat.le_of_ble_eq_true rfl) dX3_worthOfRight_21 ⟨Nat.le_of_ble_eq_true rfl, Nat.le_of_ble_eq_true rfl⟩ ⟨Nat.le_of_ble_eq_true rfl, Nat.le_of_ble_eq_true rfl⟩ ?_
    intro r3 hF
    refine W.eq (g2 := F0 m 24 ls [.long r3]) rfl ?_
    refine lv_ldc2 hx hb hown (hts _ t3_190) dX3_worthOfRight_24 ?_
    refine lv_lmul hx hb dX3_worthOfRight_27 ?_
    refine lv_lstore (lv' := [(4, .long (r3 * 1000)), (2, .long (r2 * 1000)), (0, .ref a), (1, .int p0)]) hx hb dX3_worthOfRight_28 hl (by decide) rfl (fun ls hl => ?_)
    refine lv_lconst (v := 0) hx hb dX3_worthOfRight_30 (by decide) ?_
    refine lv_lstore (lv' := [(6, .long 0), (4, .long (r3 * 1000)), (2, .long (r2 * 1000)), (0, .ref a), (1, .int p0)]) hx hb dX3_worthOfRight_31 hl (by decide) rfl (fun ls hl => ?_)
    refine lv_iconst (v := 0) hx hb dX3_worthOfRight_33 (by decide) ?_
    refine lv_istore (lv' := [(8, .int 0), (6, .long 0), (4, .long (r3 * 1000)), (2, .long (r2 * 1000)), (0, .ref a), (1, .int p0)]) hx hb dX3_worthOfRight_34 hl (by decide) rfl (fun ls hl => ?_)
    exact L_36 fu p0 (r2 * 1000) (r3 * 1000) 0 0 ls  (lv_sub hl [4, 5, 3, 2, 1, 0] rfl) hF
  · have hF := hF.2 ((bz_0 _).mp c_)
    refine lv_lconst (v := 0) hx hb dX3_worthOfRight_7 (by decide) ?_
    exact rr_l C hQ rfl hF dX3_worthOfRight_8

def wpX3_sizeBy_k5 (v_a0_left : Int32) (v_a0_purse : Int32) (v_a0_numbers : Nat → Int32) (pt : PT) (post : Int32 → Int32 → (Nat → Int32) → Prop) : Prop := wpX8_leave 10 v_a0_left v_a0_numbers (fun _ u2_a0_left u3_a0_numbers => post v_a0_purse u2_a0_left u3_a0_numbers)
abbrev rmX3_sizeBy_k5 : Room := { frames := 1, cells := 0, slots := 0, locals := 21 }
set_option maxHeartbeats 4000000 in
set_option maxRecDepth 100000 in
theorem ccX3_sizeBy_k5 (l : Launch) (D : va_G) (cy : Nat → ClassId) (pe : Pe) (a : Nat) (ha : a ∈ pe.1) (hk : (pe.2 a).1 = 5) (h_a0 : Nat) (h_a0_numbers : Nat) (v_a0_left : Int32) (v_a0_purse : Int32) (v_a0_memory : Int32) (v_a0_numbers : Nat → Int32) (post : Int32 → Int32 → (Nat → Int32) → Prop) (hF : wpX3_sizeBy_k5 v_a0_left v_a0_purse v_a0_numbers (pe.2 a) post) : Ct l D cy miX3_sizeBy rmX3_sizeBy_k5 emI pe [.ref a, .ref h_a0] [(h_a0, .inr (7, [.ref h_a0_numbers, .int v_a0_left, .int v_a0_purse, .int v_a0_memory])), (h_a0_numbers, .inl (cy 0, 16, .inl v_a0_numbers))] (fun r w1 => ∃ (w_a0_left : Int32) (w_a0_numbers : Nat → Int32), w1 = [(h_a0, .inr (7, [.ref h_a0_numbers, .int w_a0_left, .int v_a0_purse, .int v_a0_memory])), (h_a0_numbers, .inl (cy 0, 16, .inl w_a0_numbers))] ∧ post r w_a0_left w_a0_numbers) := by
  refine Ct.of (by decide) (Nat.le_of_ble_eq_true rfl) ?_
  intro p e s m args below meth c A ls Q C hQ hA hI hP hD hS hl
  obtain ⟨hx, hb, hr, hml, hown, hts, hK, hlk, hnm⟩ := id C
  have hb : c.code = cX3_sizeBy := hb
  have hml : c.maxLocals = 2 := hml
  have hown : s.vm.findClass RX3 = some m.cls := hown
  have hl : lv_has ls 2 [(0, .ref a), (1, .ref h_a0)] := hl
  unfold wpX3_sizeBy_k5 at hF
  refine lv_aload_n hx hb dX3_sizeBy_0 rfl (lv_at hl 1 rfl) ?_
  refine lv_bipush (v := 10) hx hb dX3_sizeBy_1 (by decide) ?_
  refine cV_t (As := [.int 10]) (wr := []) C hA hP hD hS mfX8_leave t4_51 t4_52 t4_73 (ccX8_leave l D cy h_a0 h_a0_numbers v_a0_left v_a0_purse v_a0_memory v_a0_numbers 10 _ hF) [0, 1] [] rfl rfl (by decide) (by decide) (by decide) PO.np 0 7 rfl rfl rfl rfl hl.1 rfl (Nat.le_of_ble_eq_true rfl) dX3_sizeBy_3 ⟨Nat.le_of_ble_eq_true rfl, Nat.le_of_ble_eq_true rfl⟩ ⟨Nat.le_of_ble_eq_true rfl, Nat.le_of_ble_eq_true rfl⟩ ?_
  rintro ⟨⟩ w1 H locs ⟨u2_a0_left, u3_a0_numbers, rfl, hF⟩ hP hD hS
  have hP : va_P D CL [(h_a0, .inr (7, [.ref h_a0_numbers, .int u2_a0_left, .int v_a0_purse, .int v_a0_memory])), (h_a0_numbers, .inl (cy 0, 16, .inl u3_a0_numbers))] H := hP
  have hD : va_D A [(h_a0, .inr (7, [.ref h_a0_numbers, .int u2_a0_left, .int v_a0_purse, .int v_a0_memory])), (h_a0_numbers, .inl (cy 0, 16, .inl u3_a0_numbers))] := hD
  refine W.eq (g2 := F0 m 6 ls []) rfl ?_
  refine lv_aload_n hx hb dX3_sizeBy_6 rfl (lv_at hl 1 rfl) ?_
  refine va_get (D := D) (ci := 7) (v := .int v_a0_purse) (C := RX8) (T := TX8) (N := 4) hx hb hts inTX8 hown hK.1 hP 0 rfl rfl 2 (by decide) (hts _ t1_165) (fun _ h9 => h9) rfl dX3_sizeBy_7 ?_
  exact rt_i C hQ rfl hP hD hS ⟨u2_a0_left, u3_a0_numbers, rfl, hF⟩ dX3_sizeBy_10

def wpX10_sizeBy_k5 (v_a0_left : Int32) (v_a0_purse : Int32) (v_a0_numbers : Nat → Int32) (pt : PT) (post : Int32 → Int32 → (Nat → Int32) → Prop) : Prop := wpX8_leave 13 v_a0_left v_a0_numbers (fun _ u2_a0_left u3_a0_numbers => wpX3_sizeBy_k5 u2_a0_left v_a0_purse u3_a0_numbers pt (fun r4 u5_a0_left u6_a0_numbers => post (r4 - 100) u5_a0_left u6_a0_numbers))
abbrev rmX10_sizeBy_k5 : Room := { frames := 2, cells := 0, slots := 0, locals := 42 }
set_option maxHeartbeats 4000000 in
set_option maxRecDepth 100000 in
theorem ccX10_sizeBy_k5 (l : Launch) (D : va_G) (cy : Nat → ClassId) (pe : Pe) (a : Nat) (ha : a ∈ pe.1) (hk : (pe.2 a).1 = 5) (h_a0 : Nat) (h_a0_numbers : Nat) (v_a0_left : Int32) (v_a0_purse : Int32) (v_a0_memory : Int32) (v_a0_numbers : Nat → Int32) (post : Int32 → Int32 → (Nat → Int32) → Prop) (hF : wpX10_sizeBy_k5 v_a0_left v_a0_purse v_a0_numbers (pe.2 a) post) : Ct l D cy miX10_sizeBy rmX10_sizeBy_k5 emI pe [.ref a, .ref h_a0] [(h_a0, .inr (7, [.ref h_a0_numbers, .int v_a0_left, .int v_a0_purse, .int v_a0_memory])), (h_a0_numbers, .inl (cy 0, 16, .inl v_a0_numbers))] (fun r w1 => ∃ (w_a0_left : Int32) (w_a0_numbers : Nat → Int32), w1 = [(h_a0, .inr (7, [.ref h_a0_numbers, .int w_a0_left, .int v_a0_purse, .int v_a0_memory])), (h_a0_numbers, .inl (cy 0, 16, .inl w_a0_numbers))] ∧ post r w_a0_left w_a0_numbers) := by
  refine Ct.of (by decide) (Nat.le_of_ble_eq_true rfl) ?_
  intro p e s m args below meth c A ls Q C hQ hA hI hP hD hS hl
  obtain ⟨hx, hb, hr, hml, hown, hts, hK, hlk, hnm⟩ := id C
  have hb : c.code = cX10_sizeBy := hb
  have hml : c.maxLocals = 2 := hml
  have hown : s.vm.findClass RX10 = some m.cls := hown
  have hl : lv_has ls 2 [(0, .ref a), (1, .ref h_a0)] := hl
  unfold wpX10_sizeBy_k5 at hF
  refine lv_aload_n hx hb dX10_sizeBy_0 rfl (lv_at hl 1 rfl) ?_
  refine lv_bipush (v := 13) hx hb dX10_sizeBy_1 (by decide) ?_
  refine cV_t (As := [.int 13]) (wr := []) C hA hP hD hS mfX8_leave t4_51 t4_52 t4_86 (ccX8_leave l D cy h_a0 h_a0_numbers v_a0_left v_a0_purse v_a0_memory v_a0_numbers 13 _ hF) [0, 1] [] rfl rfl (by decide) (by decide) (by decide) PO.np 0 7 rfl rfl rfl rfl hl.1 rfl (Nat.le_of_ble_eq_true rfl) dX10_sizeBy_3 ⟨Nat.le_of_ble_eq_true rfl, Nat.le_of_ble_eq_true rfl⟩ ⟨Nat.le_of_ble_eq_true rfl, Nat.le_of_ble_eq_true rfl⟩ ?_
  rintro ⟨⟩ w1 H locs ⟨u2_a0_left, u3_a0_numbers, rfl, hF⟩ hP hD hS
  have hP : va_P D CL [(h_a0, .inr (7, [.ref h_a0_numbers, .int u2_a0_left, .int v_a0_purse, .int v_a0_memory])), (h_a0_numbers, .inl (cy 0, 16, .inl u3_a0_numbers))] H := hP
  have hD : va_D A [(h_a0, .inr (7, [.ref h_a0_numbers, .int u2_a0_left, .int v_a0_purse, .int v_a0_memory])), (h_a0_numbers, .inl (cy 0, 16, .inl u3_a0_numbers))] := hD
  refine W.eq (g2 := F0 m 6 ls []) rfl ?_
  refine lv_aload_n hx hb dX10_sizeBy_6 rfl (lv_at hl 0 rfl) ?_
  refine lv_aload_n hx hb dX10_sizeBy_7 rfl (lv_at hl 1 rfl) ?_
  refine cX_t (As := [.ref h_a0]) (wr := []) C hA hP hD hS (hI.at hS) ha mfX3_sizeBy t4_45 t4_87 t4_46 t2_135 (by decide) (ccX3_sizeBy_k5 l D cy pe a ha hk h_a0 h_a0_numbers u2_a0_left v_a0_purse v_a0_memory u3_a0_numbers _ hF) [0, 1] [] rfl rfl (by decide) (by decide) (by decide) (hI.po hS hD [0, 1] rfl) rfl hl.1 rfl (Nat.le_of_ble_eq_true rfl) dX10_sizeBy_8 ⟨Nat.le_of_ble_eq_true rfl, Nat.le_of_ble_eq_true rfl⟩ ⟨Nat.le_of_ble_eq_true rfl, Nat.le_of_ble_eq_true rfl⟩ ?_
  rintro r4 w1 H locs ⟨u5_a0_left, u6_a0_numbers, rfl, hF⟩ hP hD hS
  have hP : va_P D CL [(h_a0, .inr (7, [.ref h_a0_numbers, .int u5_a0_left, .int v_a0_purse, .int v_a0_memory])), (h_a0_numbers, .inl (cy 0, 16, .inl u6_a0_numbers))] H := hP
  have hD : va_D A [(h_a0, .inr (7, [.ref h_a0_numbers, .int u5_a0_left, .int v_a0_purse, .int v_a0_memory])), (h_a0_numbers, .inl (cy 0, 16, .inl u6_a0_numbers))] := hD
  refine W.eq (g2 := F0 m 11 ls [.int r4]) rfl ?_
  refine lv_bipush (v := 100) hx hb dX10_sizeBy_11 (by decide) ?_
  refine lv_isub hx hb dX10_sizeBy_13 ?_
  exact rt_i C hQ rfl hP hD hS ⟨u5_a0_left, u6_a0_numbers, rfl, hF⟩ dX10_sizeBy_14

def wpX6_sizeBy_k5 (v_a0_left : Int32) (v_a0_purse : Int32) (v_a0_numbers : Nat → Int32) (pt : PT) (post : Int32 → Int32 → (Nat → Int32) → Prop) : Prop := wpX8_leave 14 v_a0_left v_a0_numbers (fun _ u2_a0_left u3_a0_numbers => wpX10_sizeBy_k5 u2_a0_left v_a0_purse u3_a0_numbers pt (fun r4 u5_a0_left u6_a0_numbers => post (2 * r4) u5_a0_left u6_a0_numbers))
abbrev miX6_sizeBy : MI := (yX6_sizeBy, cX6_sizeBy, 2, (some .int))
theorem mfX6_sizeBy : MF miX6_sizeBy 1 := ⟨t4_81, t1_15, by decide +kernel⟩
abbrev rmX6_sizeBy_k5 : Room := { frames := 3, cells := 0, slots := 0, locals := 63 }
set_option maxHeartbeats 4000000 in
set_option maxRecDepth 100000 in
theorem ccX6_sizeBy_k5 (l : Launch) (D : va_G) (cy : Nat → ClassId) (pe : Pe) (a : Nat) (ha : a ∈ pe.1) (hk : (pe.2 a).1 = 5) (h_a0 : Nat) (h_a0_numbers : Nat) (v_a0_left : Int32) (v_a0_purse : Int32) (v_a0_memory : Int32) (v_a0_numbers : Nat → Int32) (post : Int32 → Int32 → (Nat → Int32) → Prop) (hF : wpX6_sizeBy_k5 v_a0_left v_a0_purse v_a0_numbers (pe.2 a) post) : Ct l D cy miX6_sizeBy rmX6_sizeBy_k5 emI pe [.ref a, .ref h_a0] [(h_a0, .inr (7, [.ref h_a0_numbers, .int v_a0_left, .int v_a0_purse, .int v_a0_memory])), (h_a0_numbers, .inl (cy 0, 16, .inl v_a0_numbers))] (fun r w1 => ∃ (w_a0_left : Int32) (w_a0_numbers : Nat → Int32), w1 = [(h_a0, .inr (7, [.ref h_a0_numbers, .int w_a0_left, .int v_a0_purse, .int v_a0_memory])), (h_a0_numbers, .inl (cy 0, 16, .inl w_a0_numbers))] ∧ post r w_a0_left w_a0_numbers) := by
  refine Ct.of (by decide) (Nat.le_of_ble_eq_true rfl) ?_
  intro p e s m args below meth c A ls Q C hQ hA hI hP hD hS hl
  obtain ⟨hx, hb, hr, hml, hown, hts, hK, hlk, hnm⟩ := id C
  have hb : c.code = cX6_sizeBy := hb
  have hml : c.maxLocals = 2 := hml
  have hown : s.vm.findClass RX6 = some m.cls := hown
  have hl : lv_has ls 2 [(0, .ref a), (1, .ref h_a0)] := hl
  unfold wpX6_sizeBy_k5 at hF
  refine lv_aload_n hx hb dX6_sizeBy_0 rfl (lv_at hl 1 rfl) ?_
  refine lv_bipush (v := 14) hx hb dX6_sizeBy_1 (by decide) ?_
  refine cV_t (As := [.int 14]) (wr := []) C hA hP hD hS mfX8_leave t4_51 t4_52 t4_82 (ccX8_leave l D cy h_a0 h_a0_numbers v_a0_left v_a0_purse v_a0_memory v_a0_numbers 14 _ hF) [0, 1] [] rfl rfl (by decide) (by decide) (by decide) PO.np 0 7 rfl rfl rfl rfl hl.1 rfl (Nat.le_of_ble_eq_true rfl) dX6_sizeBy_3 ⟨Nat.le_of_ble_eq_true rfl, Nat.le_of_ble_eq_true rfl⟩ ⟨Nat.le_of_ble_eq_true rfl, Nat.le_of_ble_eq_true rfl⟩ ?_
  rintro ⟨⟩ w1 H locs ⟨u2_a0_left, u3_a0_numbers, rfl, hF⟩ hP hD hS
  have hP : va_P D CL [(h_a0, .inr (7, [.ref h_a0_numbers, .int u2_a0_left, .int v_a0_purse, .int v_a0_memory])), (h_a0_numbers, .inl (cy 0, 16, .inl u3_a0_numbers))] H := hP
  have hD : va_D A [(h_a0, .inr (7, [.ref h_a0_numbers, .int u2_a0_left, .int v_a0_purse, .int v_a0_memory])), (h_a0_numbers, .inl (cy 0, 16, .inl u3_a0_numbers))] := hD
  refine W.eq (g2 := F0 m 6 ls []) rfl ?_
  refine lv_iconst (v := 2) hx hb dX6_sizeBy_6 (by decide) ?_
  refine lv_aload_n hx hb dX6_sizeBy_7 rfl (lv_at hl 0 rfl) ?_
  refine lv_aload_n hx hb dX6_sizeBy_8 rfl (lv_at hl 1 rfl) ?_
  refine cX_t (As := [.ref h_a0]) (wr := []) C hA hP hD hS (hI.at hS) ha mfX10_sizeBy t4_84 t4_83 t6_13 t2_146 (by decide) (ccX10_sizeBy_k5 l D cy pe a ha hk h_a0 h_a0_numbers u2_a0_left v_a0_purse v_a0_memory u3_a0_numbers _ hF) [0, 1] [] rfl rfl (by decide) (by decide) (by decide) (hI.po hS hD [0, 1] rfl) rfl hl.1 rfl (Nat.le_of_ble_eq_true rfl) dX6_sizeBy_9 ⟨Nat.le_of_ble_eq_true rfl, Nat.le_of_ble_eq_true rfl⟩ ⟨Nat.le_of_ble_eq_true rfl, Nat.le_of_ble_eq_true rfl⟩ ?_
  rintro r4 w1 H locs ⟨u5_a0_left, u6_a0_numbers, rfl, hF⟩ hP hD hS
  have hP : va_P D CL [(h_a0, .inr (7, [.ref h_a0_numbers, .int u5_a0_left, .int v_a0_purse, .int v_a0_memory])), (h_a0_numbers, .inl (cy 0, 16, .inl u6_a0_numbers))] H := hP
  have hD : va_D A [(h_a0, .inr (7, [.ref h_a0_numbers, .int u5_a0_left, .int v_a0_purse, .int v_a0_memory])), (h_a0_numbers, .inl (cy 0, 16, .inl u6_a0_numbers))] := hD
  refine W.eq (g2 := F0 m 12 ls [.int r4, .int 2]) rfl ?_
  refine lv_imul hx hb dX6_sizeBy_12 ?_
  exact rt_i C hQ rfl hP hD hS ⟨u5_a0_left, u6_a0_numbers, rfl, hF⟩ dX6_sizeBy_13

def wpX3_markBy_k5 (v_a0_left : Int32) (v_a0_numbers : Nat → Int32) (pt : PT) (post : Int32 → Int32 → (Nat → Int32) → Prop) : Prop := wpX8_leave 20 v_a0_left v_a0_numbers (fun _ u2_a0_left u3_a0_numbers => post pt.2.1 u2_a0_left u3_a0_numbers)
abbrev rmX3_markBy_k5 : Room := { frames := 1, cells := 0, slots := 0, locals := 21 }
set_option maxHeartbeats 4000000 in
set_option maxRecDepth 100000 in
theorem ccX3_markBy_k5 (l : Launch) (D : va_G) (cy : Nat → ClassId) (pe : Pe) (a : Nat) (ha : a ∈ pe.1) (hk : (pe.2 a).1 = 5) (h_a0 : Nat) (h_a0_numbers : Nat) (v_a0_left : Int32) (v_a0_purse : Int32) (v_a0_memory : Int32) (v_a0_numbers : Nat → Int32) (post : Int32 → Int32 → (Nat → Int32) → Prop) (hF : wpX3_markBy_k5 v_a0_left v_a0_numbers (pe.2 a) post) : Ct l D cy miX3_markBy rmX3_markBy_k5 emI pe [.ref a, .ref h_a0] [(h_a0, .inr (7, [.ref h_a0_numbers, .int v_a0_left, .int v_a0_purse, .int v_a0_memory])), (h_a0_numbers, .inl (cy 0, 16, .inl v_a0_numbers))] (fun r w1 => ∃ (w_a0_left : Int32) (w_a0_numbers : Nat → Int32), w1 = [(h_a0, .inr (7, [.ref h_a0_numbers, .int w_a0_left, .int v_a0_purse, .int v_a0_memory])), (h_a0_numbers, .inl (cy 0, 16, .inl w_a0_numbers))] ∧ post r w_a0_left w_a0_numbers) := by
  refine Ct.of (by decide) (Nat.le_of_ble_eq_true rfl) ?_
  intro p e s m args below meth c A ls Q C hQ hA hI hP hD hS hl
  obtain ⟨hx, hb, hr, hml, hown, hts, hK, hlk, hnm⟩ := id C
  have hb : c.code = cX3_markBy := hb
  have hml : c.maxLocals = 2 := hml
  have hown : s.vm.findClass RX3 = some m.cls := hown
  have hl : lv_has ls 2 [(0, .ref a), (1, .ref h_a0)] := hl
  unfold wpX3_markBy_k5 at hF
  refine lv_aload_n hx hb dX3_markBy_0 rfl (lv_at hl 1 rfl) ?_
  refine lv_bipush (v := 20) hx hb dX3_markBy_1 (by decide) ?_
  refine cV_t (As := [.int 20]) (wr := []) C hA hP hD hS mfX8_leave t4_51 t4_52 t4_73 (ccX8_leave l D cy h_a0 h_a0_numbers v_a0_left v_a0_purse v_a0_memory v_a0_numbers 20 _ hF) [0, 1] [] rfl rfl (by decide) (by decide) (by decide) PO.np 0 7 rfl rfl rfl rfl hl.1 rfl (Nat.le_of_ble_eq_true rfl) dX3_markBy_3 ⟨Nat.le_of_ble_eq_true rfl, Nat.le_of_ble_eq_true rfl⟩ ⟨Nat.le_of_ble_eq_true rfl, Nat.le_of_ble_eq_true rfl⟩ ?_
  rintro ⟨⟩ w1 H locs ⟨u2_a0_left, u3_a0_numbers, rfl, hF⟩ hP hD hS
  have hP : va_P D CL [(h_a0, .inr (7, [.ref h_a0_numbers, .int u2_a0_left, .int v_a0_purse, .int v_a0_memory])), (h_a0_numbers, .inl (cy 0, 16, .inl u3_a0_numbers))] H := hP
  have hD : va_D A [(h_a0, .inr (7, [.ref h_a0_numbers, .int u2_a0_left, .int v_a0_purse, .int v_a0_memory])), (h_a0_numbers, .inl (cy 0, 16, .inl u3_a0_numbers))] := hD
  refine W.eq (g2 := F0 m 6 ls []) rfl ?_
  refine lv_aload_n hx hb dX3_markBy_6 rfl (lv_at hl 0 rfl) ?_
  refine pe_get0 C (hI.at hS) ha (hts _ t2_85) (fun _ h9 => h9) dX3_markBy_7 ?_
  exact rt_i C hQ rfl hP hD hS ⟨u2_a0_left, u3_a0_numbers, rfl, hF⟩ dX3_markBy_10

def wpX10_markBy_k5 (v_a0_left : Int32) (v_a0_purse : Int32) (v_a0_numbers : Nat → Int32) (pt : PT) (post : Int32 → Int32 → (Nat → Int32) → Prop) : Prop := wpX8_leave 23 v_a0_left v_a0_numbers (fun _ u2_a0_left u3_a0_numbers => wpX3_markBy_k5 u2_a0_left u3_a0_numbers pt (fun r4 u5_a0_left u6_a0_numbers => wpX6_sizeBy_k5 u5_a0_left v_a0_purse u6_a0_numbers pt (fun r7 u8_a0_left u9_a0_numbers => post (r4 - r7) u8_a0_left u9_a0_numbers)))
abbrev rmX10_markBy_k5 : Room := { frames := 4, cells := 0, slots := 0, locals := 84 }
set_option maxHeartbeats 4000000 in
set_option maxRecDepth 100000 in
theorem ccX10_markBy_k5 (l : Launch) (D : va_G) (cy : Nat → ClassId) (pe : Pe) (a : Nat) (ha : a ∈ pe.1) (hk : (pe.2 a).1 = 5) (h_a0 : Nat) (h_a0_numbers : Nat) (v_a0_left : Int32) (v_a0_purse : Int32) (v_a0_memory : Int32) (v_a0_numbers : Nat → Int32) (post : Int32 → Int32 → (Nat → Int32) → Prop) (hF : wpX10_markBy_k5 v_a0_left v_a0_purse v_a0_numbers (pe.2 a) post) : Ct l D cy miX10_markBy rmX10_markBy_k5 emI pe [.ref a, .ref h_a0] [(h_a0, .inr (7, [.ref h_a0_numbers, .int v_a0_left, .int v_a0_purse, .int v_a0_memory])), (h_a0_numbers, .inl (cy 0, 16, .inl v_a0_numbers))] (fun r w1 => ∃ (w_a0_left : Int32) (w_a0_numbers : Nat → Int32), w1 = [(h_a0, .inr (7, [.ref h_a0_numbers, .int w_a0_left, .int v_a0_purse, .int v_a0_memory])), (h_a0_numbers, .inl (cy 0, 16, .inl w_a0_numbers))] ∧ post r w_a0_left w_a0_numbers) := by
  refine Ct.of (by decide) (Nat.le_of_ble_eq_true rfl) ?_
  intro p e s m args below meth c A ls Q C hQ hA hI hP hD hS hl
  obtain ⟨hx, hb, hr, hml, hown, hts, hK, hlk, hnm⟩ := id C
  have hb : c.code = cX10_markBy := hb
  have hml : c.maxLocals = 3 := hml
  have hown : s.vm.findClass RX10 = some m.cls := hown
  have hl : lv_has ls 3 [(0, .ref a), (1, .ref h_a0)] := hl
  unfold wpX10_markBy_k5 at hF
  refine lv_aload_n hx hb dX10_markBy_0 rfl (lv_at hl 1 rfl) ?_
  refine lv_bipush (v := 23) hx hb dX10_markBy_1 (by decide) ?_
  refine cV_t (As := [.int 23]) (wr := []) C hA hP hD hS mfX8_leave t4_51 t4_52 t4_86 (ccX8_leave l D cy h_a0 h_a0_numbers v_a0_left v_a0_purse v_a0_memory v_a0_numbers 23 _ hF) [0, 1] [] rfl rfl (by decide) (by decide) (by decide) PO.np 0 7 rfl rfl rfl rfl hl.1 rfl (Nat.le_of_ble_eq_true rfl) dX10_markBy_3 ⟨Nat.le_of_ble_eq_true rfl, Nat.le_of_ble_eq_true rfl⟩ ⟨Nat.le_of_ble_eq_true rfl, Nat.le_of_ble_eq_true rfl⟩ ?_
  rintro ⟨⟩ w1 H locs ⟨u2_a0_left, u3_a0_numbers, rfl, hF⟩ hP hD hS
  have hP : va_P D CL [(h_a0, .inr (7, [.ref h_a0_numbers, .int u2_a0_left, .int v_a0_purse, .int v_a0_memory])), (h_a0_numbers, .inl (cy 0, 16, .inl u3_a0_numbers))] H := hP
  have hD : va_D A [(h_a0, .inr (7, [.ref h_a0_numbers, .int u2_a0_left, .int v_a0_purse, .int v_a0_memory])), (h_a0_numbers, .inl (cy 0, 16, .inl u3_a0_numbers))] := hD
  refine W.eq (g2 := F0 m 6 ls []) rfl ?_
  refine lv_aload_n hx hb dX10_markBy_6 rfl (lv_at hl 0 rfl) ?_
  refine lv_aload_n hx hb dX10_markBy_7 rfl (lv_at hl 1 rfl) ?_
  refine cX_t (As := [.ref h_a0]) (wr := []) C hA hP hD hS (hI.at hS) ha mfX3_markBy t4_71 t4_93 t6_11 t2_135 (by decide) (ccX3_markBy_k5 l D cy pe a ha hk h_a0 h_a0_numbers u2_a0_left v_a0_purse v_a0_memory u3_a0_numbers _ hF) [0, 1] [] rfl rfl (by decide) (by decide) (by decide) (hI.po hS hD [0, 1] rfl) rfl hl.1 rfl (Nat.le_of_ble_eq_true rfl) dX10_markBy_8 ⟨Nat.le_of_ble_eq_true rfl, Nat.le_of_ble_eq_true rfl⟩ ⟨Nat.le_of_ble_eq_true rfl, Nat.le_of_ble_eq_true rfl⟩ ?_
  rintro r4 w1 H locs ⟨u5_a0_left, u6_a0_numbers, rfl, hF⟩ hP hD hS
  have hP : va_P D CL [(h_a0, .inr (7, [.ref h_a0_numbers, .int u5_a0_left, .int v_a0_purse, .int v_a0_memory])), (h_a0_numbers, .inl (cy 0, 16, .inl u6_a0_numbers))] H := hP
  have hD : va_D A [(h_a0, .inr (7, [.ref h_a0_numbers, .int u5_a0_left, .int v_a0_purse, .int v_a0_memory])), (h_a0_numbers, .inl (cy 0, 16, .inl u6_a0_numbers))] := hD
  refine W.eq (g2 := F0 m 11 ls [.int r4]) rfl ?_
  refine lv_istore_n (lv' := [(2, .int r4), (0, .ref a), (1, .ref h_a0)]) hx hb dX10_markBy_11 rfl hl (by decide) rfl (fun ls hl => ?_)
  refine lv_iload_n hx hb dX10_markBy_12 rfl (lv_at hl 0 rfl) ?_
  refine lv_aload_n hx hb dX10_markBy_13 rfl (lv_at hl 1 rfl) ?_
  refine lv_aload_n hx hb dX10_markBy_14 rfl (lv_at hl 2 rfl) ?_
  refine cU_t (As := [.ref h_a0]) (wr := []) C hA hP hD hS (hI.at hS) ha hk ⟨"LivedAgain$Widow", "sizeBy", "(LLivedAgain$Trace;)I"⟩ "LivedAgain$Widow" mfX6_sizeBy t4_80 t4_94 t6_13 (va_Decl.of (hts _ t4_84) (hts _ t4_85)) t6_18 (by decide +kernel) (ccX6_sizeBy_k5 l D cy pe a ha hk h_a0 h_a0_numbers u5_a0_left v_a0_purse v_a0_memory u6_a0_numbers _ hF) [0, 1] [] rfl rfl (by decide) (by decide) (by decide) (hI.po hS hD [0, 1] rfl) rfl hl.1 rfl (Nat.le_of_ble_eq_true rfl) dX10_markBy_15 ⟨Nat.le_of_ble_eq_true rfl, Nat.le_of_ble_eq_true rfl⟩ ⟨Nat.le_of_ble_eq_true rfl, Nat.le_of_ble_eq_true rfl⟩ ?_
  rintro r7 w1 H locs ⟨u8_a0_left, u9_a0_numbers, rfl, hF⟩ hP hD hS
  have hP : va_P D CL [(h_a0, .inr (7, [.ref h_a0_numbers, .int u8_a0_left, .int v_a0_purse, .int v_a0_memory])), (h_a0_numbers, .inl (cy 0, 16, .inl u9_a0_numbers))] H := hP
  have hD : va_D A [(h_a0, .inr (7, [.ref h_a0_numbers, .int u8_a0_left, .int v_a0_purse, .int v_a0_memory])), (h_a0_numbers, .inl (cy 0, 16, .inl u9_a0_numbers))] := hD
  refine W.eq (g2 := F0 m 18 ls [.int r7, .int r4]) rfl ?_
  refine lv_isub hx hb dX10_markBy_18 ?_
  exact rt_i C hQ rfl hP hD hS ⟨u8_a0_left, u9_a0_numbers, rfl, hF⟩ dX10_markBy_19
