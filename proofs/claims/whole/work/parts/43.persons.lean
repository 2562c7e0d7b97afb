-- people are made
abbrev miX3_init : MI := (yX3_init, cX3_init, 5, none)
theorem mfX3_init : MF miX3_init 4 := ⟨t2_83, t1_10, by decide +kernel⟩
abbrev miX0_init : MI := (yX0_init, cX0_init, 5, none)
theorem mfX0_init : MF miX0_init 4 := ⟨t2_80, t1_11, by decide +kernel⟩
abbrev miX2_init : MI := (yX2_init, cX2_init, 5, none)
theorem mfX2_init : MF miX2_init 4 := ⟨t2_107, t1_12, by decide +kernel⟩
abbrev miX5_init : MI := (yX5_init, cX5_init, 5, none)
theorem mfX5_init : MF miX5_init 4 := ⟨t2_118, t1_13, by decide +kernel⟩
abbrev miX10_init : MI := (yX10_init, cX10_init, 5, none)
theorem mfX10_init : MF miX10_init 4 := ⟨t2_129, t1_14, by decide +kernel⟩
abbrev miX6_init : MI := (yX6_init, cX6_init, 5, none)
theorem mfX6_init : MF miX6_init 4 := ⟨t2_140, t1_15, by decide +kernel⟩
abbrev rmX3_init : Room := { frames := 1, cells := 0, slots := 0, locals := 20 }
abbrev rmX0_init : Room := { frames := 2, cells := 0, slots := 0, locals := 44 }
abbrev rmX10_init : Room := { frames := 2, cells := 0, slots := 0, locals := 44 }
abbrev rmX2_init : Room := { frames := 3, cells := 0, slots := 0, locals := 68 }
abbrev rmX5_init : Room := { frames := 3, cells := 0, slots := 0, locals := 68 }
abbrev rmX6_init : Room := { frames := 3, cells := 0, slots := 0, locals := 68 }
set_option maxHeartbeats 4000000 in
theorem ci_P_k1 (l : Launch) (D : va_G) (cy : Nat → ClassId) (a : Nat) (p0 p1 p2 p3 : Int32) : Ct l D cy miX3_init rmX3_init emV NP [.ref a, .int p0, .int p1, .int p2, .int p3] [(a, .inr (0, [.int 0, .int 0, .int 0, .int 0]))] (fun _ w1 => w1 = [(a, .inr (0, [.int p0, .int p1, .int p2, .int p3]))]) := by
  refine Ct.of (by decide) (Nat.le_of_ble_eq_true rfl) ?_
  intro p e s m args below meth c A ls Q C hQ hA hI hP hD hS hl
  obtain ⟨hx, hb, hr, hml, hown, hts, hK, hlk, hnm⟩ := id C
  have hb : c.code = cX3_init := hb
  have hown : s.vm.findClass RX3 = some m.cls := hown
  have hl : lv_has ls 5 [(0, .ref a), (1, .int p0), (2, .int p1), (3, .int p2), (4, .int p3)] := hl
  refine lv_aload_n hx hb dX3_init_0 rfl (lv_at hl 0 rfl) ?_
  refine W.objInit hx hb hown (hts _ t2_84) (hts _ t1_24) (hts _ t1_25) rfl (by rw [hml]; exact hl.1) rfl dX3_init_1 (Nat.le_of_ble_eq_true rfl) (Nat.le_of_ble_eq_true rfl) ?_
  refine W.eq (g2 := F0 m 4 ls []) rfl ?_
  refine lv_aload_n hx hb dX3_init_4 rfl (lv_at hl 0 rfl) ?_
  refine lv_iload_n hx hb dX3_init_5 rfl (lv_at hl 1 rfl) ?_
  refine va_putF (D := D) (ci := 0) (v := .int p0) (ty := .int) (C := RX0) (T := TX0) (N := 4) hx hb hts inTX0 tyX0 tyX0_ok nmX0 hown hK.1 hP hD hS 0 rfl rfl 0 (by decide) (hts _ t2_85) (fun _ h9 => h9) rfl hnm rfl (tyX0_ok 0 (by decide)) rfl rfl (Nat.le_of_ble_eq_true rfl) dX3_init_6 (fun H locs hP hD hS => ?_)
  have hP : va_P D CL [(a, .inr (0, [.int p0, .int 0, .int 0, .int 0]))] H := hP
  have hD : va_D A [(a, .inr (0, [.int p0, .int 0, .int 0, .int 0]))] := hD
  refine lv_aload_n hx hb dX3_init_9 rfl (lv_at hl 0 rfl) ?_
  refine lv_iload_n hx hb dX3_init_10 rfl (lv_at hl 2 rfl) ?_
  refine va_putF (D := D) (ci := 0) (v := .int p1) (ty := .int) (C := RX0) (T := TX0) (N := 4) hx hb hts inTX0 tyX0 tyX0_ok nmX0 hown hK.1 hP hD hS 0 rfl rfl 1 (by decide) (hts _ t2_86) (fun _ h9 => h9) rfl hnm rfl (tyX0_ok 1 (by decide)) rfl rfl (Nat.le_of_ble_eq_true rfl) dX3_init_11 (fun H locs hP hD hS => ?_)
  have hP : va_P D CL [(a, .inr (0, [.int p0, .int p1, .int 0, .int 0]))] H := hP
  have hD : va_D A [(a, .inr (0, [.int p0, .int p1, .int 0, .int 0]))] := hD
  refine lv_aload_n hx hb dX3_init_14 rfl (lv_at hl 0 rfl) ?_
  refine lv_iload_n hx hb dX3_init_15 rfl (lv_at hl 3 rfl) ?_
  refine va_putF (D := D) (ci := 0) (v := .int p2) (ty := .int) (C := RX0) (T := TX0) (N := 4) hx hb hts inTX0 tyX0 tyX0_ok nmX0 hown hK.1 hP hD hS 0 rfl rfl 2 (by decide) (hts _ t2_88) (fun _ h9 => h9) rfl hnm rfl (tyX0_ok 2 (by decide)) rfl rfl (Nat.le_of_ble_eq_true rfl) dX3_init_16 (fun H locs hP hD hS => ?_)
  have hP : va_P D CL [(a, .inr (0, [.int p0, .int p1, .int p2, .int 0]))] H := hP
  have hD : va_D A [(a, .inr (0, [.int p0, .int p1, .int p2, .int 0]))] := hD
  refine lv_aload_n hx hb dX3_init_19 rfl (lv_at hl 0 rfl) ?_
  refine lv_iload hx hb dX3_init_20 (lv_at hl 4 rfl) ?_
  refine va_putF (D := D) (ci := 0) (v := .int p3) (ty := .int) (C := RX0) (T := TX0) (N := 4) hx hb hts inTX0 tyX0 tyX0_ok nmX0 hown hK.1 hP hD hS 0 rfl rfl 3 (by decide) (hts _ t2_92) (fun _ h9 => h9) rfl hnm rfl (tyX0_ok 3 (by decide)) rfl rfl (Nat.le_of_ble_eq_true rfl) dX3_init_22 (fun H locs hP hD hS => ?_)
  have hP : va_P D CL [(a, .inr (0, [.int p0, .int p1, .int p2, .int p3]))] H := hP
  have hD : va_D A [(a, .inr (0, [.int p0, .int p1, .int p2, .int p3]))] := hD
  exact rt_v C hQ rfl hP hD hS rfl dX3_init_25
set_option maxHeartbeats 4000000 in
theorem ci_X0_k1 (l : Launch) (D : va_G) (cy : Nat → ClassId) (a : Nat) (p0 p1 p2 p3 : Int32) : Ct l D cy miX0_init rmX0_init emV NP [.ref a, .int p0, .int p1, .int p2, .int p3] [(a, .inr (0, [.int 0, .int 0, .int 0, .int 0]))] (fun _ w1 => w1 = [(a, .inr (0, [.int p0, .int p1, .int p2, .int p3]))]) := by
  refine Ct.of (by decide) (Nat.le_of_ble_eq_true rfl) ?_
  intro p e s m args below meth c A ls Q C hQ hA hI hP hD hS hl
  obtain ⟨hx, hb, hr, hml, hown, hts, hK, hlk, hnm⟩ := id C
  have hb : c.code = cX0_init := hb
  have hl : lv_has ls 5 [(0, .ref a), (1, .int p0), (2, .int p1), (3, .int p2), (4, .int p3)] := hl
  refine lv_aload_n hx hb dX0_init_0 rfl (lv_at hl 0 rfl) ?_
  refine lv_iload_n hx hb dX0_init_1 rfl (lv_at hl 1 rfl) ?_
  refine lv_iload_n hx hb dX0_init_2 rfl (lv_at hl 2 rfl) ?_
  refine lv_iload_n hx hb dX0_init_3 rfl (lv_at hl 3 rfl) ?_
  refine lv_iload hx hb dX0_init_4 (lv_at hl 4 rfl) ?_
  refine cI_t (As := [.int p0, .int p1, .int p2, .int p3]) (wr := []) C hA hP hD hS mfX3_init t2_82 t2_81 (ci_P_k1 l D cy a p0 p1 p2 p3) rfl rfl [0] [] rfl rfl (by decide) (by decide) (by decide) PO.np rfl hl.1 rfl (Nat.le_of_ble_eq_true rfl) dX0_init_6 ⟨Nat.le_of_ble_eq_true rfl, Nat.le_of_ble_eq_true rfl⟩ ⟨Nat.le_of_ble_eq_true rfl, Nat.le_of_ble_eq_true rfl⟩ ?_
  rintro ⟨⟩ w1 H locs rfl hP hD hS
  exact rt_v C hQ rfl hP hD hS rfl dX0_init_9
set_option maxHeartbeats 4000000 in
theorem ci_P_k2 (l : Launch) (D : va_G) (cy : Nat → ClassId) (a : Nat) (p0 p1 p2 p3 : Int32) : Ct l D cy miX3_init rmX3_init emV NP [.ref a, .int p0, .int p1, .int p2, .int p3] [(a, .inr (2, [.int 0, .int 0, .int 0, .int 0]))] (fun _ w1 => w1 = [(a, .inr (2, [.int p0, .int p1, .int p2, .int p3]))]) := by
  refine Ct.of (by decide) (Nat.le_of_ble_eq_true rfl) ?_
  intro p e s m args below meth c A ls Q C hQ hA hI hP hD hS hl
  obtain ⟨hx, hb, hr, hml, hown, hts, hK, hlk, hnm⟩ := id C
  have hb : c.code = cX3_init := hb
  have hown : s.vm.findClass RX3 = some m.cls := hown
  have hl : lv_has ls 5 [(0, .ref a), (1, .int p0), (2, .int p1), (3, .int p2), (4, .int p3)] := hl
  refine lv_aload_n hx hb dX3_init_0 rfl (lv_at hl 0 rfl) ?_
  refine W.objInit hx hb hown (hts _ t2_84) (hts _ t1_24) (hts _ t1_25) rfl (by rw [hml]; exact hl.1) rfl dX3_init_1 (Nat.le_of_ble_eq_true rfl) (Nat.le_of_ble_eq_true rfl) ?_
  refine W.eq (g2 := F0 m 4 ls []) rfl ?_
  refine lv_aload_n hx hb dX3_init_4 rfl (lv_at hl 0 rfl) ?_
  refine lv_iload_n hx hb dX3_init_5 rfl (lv_at hl 1 rfl) ?_
  refine va_putF (D := D) (ci := 2) (v := .int p0) (ty := .int) (C := RX2) (T := TX2) (N := 4) hx hb hts inTX2 tyX2 tyX2_ok nmX2 hown hK.1 hP hD hS 0 rfl rfl 0 (by decide) (hts _ t2_85) (fun _ h9 => h9) rfl hnm rfl (tyX2_ok 0 (by decide)) rfl rfl (Nat.le_of_ble_eq_true rfl) dX3_init_6 (fun H locs hP hD hS => ?_)
  have hP : va_P D CL [(a, .inr (2, [.int p0, .int 0, .int 0, .int 0]))] H := hP
  have hD : va_D A [(a, .inr (2, [.int p0, .int 0, .int 0, .int 0]))] := hD
  refine lv_aload_n hx hb dX3_init_9 rfl (lv_at hl 0 rfl) ?_
  refine lv_iload_n hx hb dX3_init_10 rfl (lv_at hl 2 rfl) ?_
  refine va_putF (D := D) (ci := 2) (v := .int p1) (ty := .int) (C := RX2) (T := TX2) (N := 4) hx hb hts inTX2 tyX2 tyX2_ok nmX2 hown hK.1 hP hD hS 0 rfl rfl 1 (by decide) (hts _ t2_86) (fun _ h9 => h9) rfl hnm rfl (tyX2_ok 1 (by decide)) rfl rfl (Nat.le_of_ble_eq_true rfl) dX3_init_11 (fun H locs hP hD hS => ?_)
  have hP : va_P D CL [(a, .inr (2, [.int p0, .int p1, .int 0, .int 0]))] H := hP
  have hD : va_D A [(a, .inr (2, [.int p0, .int p1, .int 0, .int 0]))] := hD
  refine lv_aload_n hx hb dX3_init_14 rfl (lv_at hl 0 rfl) ?_
  refine lv_iload_n hx hb dX3_init_15 rfl (lv_at hl 3 rfl) ?_
  refine va_putF (D := D) (ci := 2) (v := .int p2) (ty := .int) (C := RX2) (T := TX2) (N := 4) hx hb hts inTX2 tyX2 tyX2_ok nmX2 hown hK.1 hP hD hS 0 rfl rfl 2 (by decide) (hts _ t2_88) (fun _ h9 => h9) rfl hnm rfl (tyX2_ok 2 (by decide)) rfl rfl (Nat.le_of_ble_eq_true rfl) dX3_init_16 (fun H locs hP hD hS => ?_)
  have hP : va_P D CL [(a, .inr (2, [.int p0, .int p1, .int p2, .int 0]))] H := hP
  have hD : va_D A [(a, .inr (2, [.int p0, .int p1, .int p2, .int 0]))] := hD
  refine lv_aload_n hx hb dX3_init_19 rfl (lv_at hl 0 rfl) ?_
  refine lv_iload hx hb dX3_init_20 (lv_at hl 4 rfl) ?_
  refine va_putF (D := D) (ci := 2) (v := .int p3) (ty := .int) (C := RX2) (T := TX2) (N := 4) hx hb hts inTX2 tyX2 tyX2_ok nmX2 hown hK.1 hP hD hS 0 rfl rfl 3 (by decide) (hts _ t2_92) (fun _ h9 => h9) rfl hnm rfl (tyX2_ok 3 (by decide)) rfl rfl (Nat.le_of_ble_eq_true rfl) dX3_init_22 (fun H locs hP hD hS => ?_)
  have hP : va_P D CL [(a, .inr (2, [.int p0, .int p1, .int p2, .int p3]))] H := hP
  have hD : va_D A [(a, .inr (2, [.int p0, .int p1, .int p2, .int p3]))] := hD
  exact rt_v C hQ rfl hP hD hS rfl dX3_init_25
set_option maxHeartbeats 4000000 in
theorem ci_X0_k2 (l : Launch) (D : va_G) (cy : Nat → ClassId) (a : Nat) (p0 p1 p2 p3 : Int32) : Ct l D cy miX0_init rmX0_init emV NP [.ref a, .int p0, .int p1, .int p2, .int p3] [(a, .inr (2, [.int 0, .int 0, .int 0, .int 0]))] (fun _ w1 => w1 = [(a, .inr (2, [.int p0, .int p1, .int p2, .int p3]))]) := by
  refine Ct.of (by decide) (Nat.le_of_ble_eq_true rfl) ?_
  intro p e s m args below meth c A ls Q C hQ hA hI hP hD hS hl
  obtain ⟨hx, hb, hr, hml, hown, hts, hK, hlk, hnm⟩ := id C
  have hb : c.code = cX0_init := hb
  have hl : lv_has ls 5 [(0, .ref a), (1, .int p0), (2, .int p1), (3, .int p2), (4, .int p3)] := hl
  refine lv_aload_n hx hb dX0_init_0 rfl (lv_at hl 0 rfl) ?_
  refine lv_iload_n hx hb dX0_init_1 rfl (lv_at hl 1 rfl) ?_
  refine lv_iload_n hx hb dX0_init_2 rfl (lv_at hl 2 rfl) ?_
  refine lv_iload_n hx hb dX0_init_3 rfl (lv_at hl 3 rfl) ?_
  refine lv_iload hx hb dX0_init_4 (lv_at hl 4 rfl) ?_
  refine cI_t (As := [.int p0, .int p1, .int p2, .int p3]) (wr := []) C hA hP hD hS mfX3_init t2_82 t2_81 (ci_P_k2 l D cy a p0 p1 p2 p3) rfl rfl [0] [] rfl rfl (by decide) (by decide) (by decide) PO.np rfl hl.1 rfl (Nat.le_of_ble_eq_true rfl) dX0_init_6 ⟨Nat.le_of_ble_eq_true rfl, Nat.le_of_ble_eq_true rfl⟩ ⟨Nat.le_of_ble_eq_true rfl, Nat.le_of_ble_eq_true rfl⟩ ?_
  rintro ⟨⟩ w1 H locs rfl hP hD hS
  exact rt_v C hQ rfl hP hD hS rfl dX0_init_9
set_option maxHeartbeats 4000000 in
theorem ci_X2_k2 (l : Launch) (D : va_G) (cy : Nat → ClassId) (a : Nat) (p0 p1 p2 p3 : Int32) : Ct l D cy miX2_init rmX2_init emV NP [.ref a, .int p0, .int p1, .int p2, .int p3] [(a, .inr (2, [.int 0, .int 0, .int 0, .int 0]))] (fun _ w1 => w1 = [(a, .inr (2, [.int p0, .int p1, .int p2, .int p3]))]) := by
  refine Ct.of (by decide) (Nat.le_of_ble_eq_true rfl) ?_
  intro p e s m args below meth c A ls Q C hQ hA hI hP hD hS hl
  obtain ⟨hx, hb, hr, hml, hown, hts, hK, hlk, hnm⟩ := id C
  have hb : c.code = cX2_init := hb
  have hl : lv_has ls 5 [(0, .ref a), (1, .int p0), (2, .int p1), (3, .int p2), (4, .int p3)] := hl
  refine lv_aload_n hx hb dX2_init_0 rfl (lv_at hl 0 rfl) ?_
  refine lv_iload_n hx hb dX2_init_1 rfl (lv_at hl 1 rfl) ?_
  refine lv_iload_n hx hb dX2_init_2 rfl (lv_at hl 2 rfl) ?_
  refine lv_iload_n hx hb dX2_init_3 rfl (lv_at hl 3 rfl) ?_
  refine lv_iload hx hb dX2_init_4 (lv_at hl 4 rfl) ?_
  refine cI_t (As := [.int p0, .int p1, .int p2, .int p3]) (wr := []) C hA hP hD hS mfX0_init t2_79 t2_108 (ci_X0_k2 l D cy a p0 p1 p2 p3) rfl rfl [0] [] rfl rfl (by decide) (by decide) (by decide) PO.np rfl hl.1 rfl (Nat.le_of_ble_eq_true rfl) dX2_init_6 ⟨Nat.le_of_ble_eq_true rfl, Nat.le_of_ble_eq_true rfl⟩ ⟨Nat.le_of_ble_eq_true rfl, Nat.le_of_ble_eq_true rfl⟩ ?_
  rintro ⟨⟩ w1 H locs rfl hP hD hS
  exact rt_v C hQ rfl hP hD hS rfl dX2_init_9
set_option maxHeartbeats 4000000 in
theorem ci_P_k3 (l : Launch) (D : va_G) (cy : Nat → ClassId) (a : Nat) (p0 p1 p2 p3 : Int32) : Ct l D cy miX3_init rmX3_init emV NP [.ref a, .int p0, .int p1, .int p2, .int p3] [(a, .inr (4, [.int 0, .int 0, .int 0, .int 0]))] (fun _ w1 => w1 = [(a, .inr (4, [.int p0, .int p1, .int p2, .int p3]))]) := by
  refine Ct.of (by decide) (Nat.le_of_ble_eq_true rfl) ?_
  intro p e s m args below meth c A ls Q C hQ hA hI hP hD hS hl
  obtain ⟨hx, hb, hr, hml, hown, hts, hK, hlk, hnm⟩ := id C
  have hb : c.code = cX3_init := hb
  have hown : s.vm.findClass RX3 = some m.cls := hown
  have hl : lv_has ls 5 [(0, .ref a), (1, .int p0), (2, .int p1), (3, .int p2), (4, .int p3)] := hl
  refine lv_aload_n hx hb dX3_init_0 rfl (lv_at hl 0 rfl) ?_
  refine W.objInit hx hb hown (hts _ t2_84) (hts _ t1_24) (hts _ t1_25) rfl (by rw [hml]; exact hl.1) rfl dX3_init_1 (Nat.le_of_ble_eq_true rfl) (Nat.le_of_ble_eq_true rfl) ?_
  refine W.eq (g2 := F0 m 4 ls []) rfl ?_
  refine lv_aload_n hx hb dX3_init_4 rfl (lv_at hl 0 rfl) ?_
  refine lv_iload_n hx hb dX3_init_5 rfl (lv_at hl 1 rfl) ?_
  refine va_putF (D := D) (ci := 4) (v := .int p0) (ty := .int) (C := RX5) (T := TX5) (N := 4) hx hb hts inTX5 tyX5 tyX5_ok nmX5 hown hK.1 hP hD hS 0 rfl rfl 0 (by decide) (hts _ t2_85) (fun _ h9 => h9) rfl hnm rfl (tyX5_ok 0 (by decide)) rfl rfl (Nat.le_of_ble_eq_true rfl) dX3_init_6 (fun H locs hP hD hS => ?_)
  have hP : va_P D CL [(a, .inr (4, [.int p0, .int 0, .int 0, .int 0]))] H := hP
  have hD : va_D A [(a, .inr (4, [.int p0, .int 0, .int 0, .int 0]))] := hD
  refine lv_aload_n hx hb dX3_init_9 rfl (lv_at hl 0 rfl) ?_
  refine lv_iload_n hx hb dX3_init_10 rfl (lv_at hl 2 rfl) ?_
  refine va_putF (D := D) (ci := 4) (v := .int p1) (ty := .int) (C := RX5) (T := TX5) (N := 4) hx hb hts inTX5 tyX5 tyX5_ok nmX5 hown hK.1 hP hD hS 0 rfl rfl 1 (by decide) (hts _ t2_86) (fun _ h9 => h9) rfl hnm rfl (tyX5_ok 1 (by decide)) rfl rfl (Nat.le_of_ble_eq_true rfl) dX3_init_11 (fun H locs hP hD hS => ?_)
  have hP : va_P D CL [(a, .inr (4, [.int p0, .int p1, .int 0, .int 0]))] H := hP
  have hD : va_D A [(a, .inr (4, [.int p0, .int p1, .int 0, .int 0]))] := hD
  refine lv_aload_n hx hb dX3_init_14 rfl (lv_at hl 0 rfl) ?_
  refine lv_iload_n hx hb dX3_init_15 rfl (lv_at hl 3 rfl) ?_
  refine va_putF (D := D) (ci := 4) (v := .int p2) (ty := .int) (C := RX5) (T := TX5) (N := 4) hx hb hts inTX5 tyX5 tyX5_ok nmX5 hown hK.1 hP hD hS 0 rfl rfl 2 (by decide) (hts _ t2_88) (fun _ h9 => h9) rfl hnm rfl (tyX5_ok 2 (by decide)) rfl rfl (Nat.le_of_ble_eq_true rfl) dX3_init_16 (fun H locs hP hD hS => ?_)
  have hP : va_P D CL [(a, .inr (4, [.int p0, .int p1, .int p2, .int 0]))] H := hP
  have hD : va_D A [(a, .inr (4, [.int p0, .int p1, .int p2, .int 0]))] := hD
  refine lv_aload_n hx hb dX3_init_19 rfl (lv_at hl 0 rfl) ?_
  refine lv_iload hx hb dX3_init_20 (lv_at hl 4 rfl) ?_
  refine va_putF (D := D) (ci := 4) (v := .int p3) (ty := .int) (C := RX5) (T := TX5) (N := 4) hx hb hts inTX5 tyX5 tyX5_ok nmX5 hown hK.1 hP hD hS 0 rfl rfl 3 (by decide) (hts _ t2_92) (fun _ h9 => h9) rfl hnm rfl (tyX5_ok 3 (by decide)) rfl rfl (Nat.le_of_ble_eq_true rfl) dX3_init_22 (fun H locs hP hD hS => ?_)
  have hP : va_P D CL [(a, .inr (4, [.int p0, .int p1, .int p2, .int p3]))] H := hP
  have hD : va_D A [(a, .inr (4, [.int p0, .int p1, .int p2, .int p3]))] := hD
  exact rt_v C hQ rfl hP hD hS rfl dX3_init_25
set_option maxHeartbeats 4000000 in
theorem ci_X0_k3 (l : Launch) (D : va_G) (cy : Nat → ClassId) (a : Nat) (p0 p1 p2 p3 : Int32) : Ct l D cy miX0_init rmX0_init emV NP [.ref a, .int p0, .int p1, .int p2, .int p3] [(a, .inr (4, [.int 0, .int 0, .int 0, .int 0]))] (fun _ w1 => w1 = [(a, .inr (4, [.int p0, .int p1, .int p2, .int p3]))]) := by
  refine Ct.of (by decide) (Nat.le_of_ble_eq_true rfl) ?_
  intro p e s m args below meth c A ls Q C hQ hA hI hP hD hS hl
  obtain ⟨hx, hb, hr, hml, hown, hts, hK, hlk, hnm⟩ := id C
  have hb : c.code = cX0_init := hb
  have hl : lv_has ls 5 [(0, .ref a), (1, .int p0), (2, .int p1), (3, .int p2), (4, .int p3)] := hl
  refine lv_aload_n hx hb dX0_init_0 rfl (lv_at hl 0 rfl) ?_
  refine lv_iload_n hx hb dX0_init_1 rfl (lv_at hl 1 rfl) ?_
  refine lv_iload_n hx hb dX0_init_2 rfl (lv_at hl 2 rfl) ?_
  refine lv_iload_n hx hb dX0_init_3 rfl (lv_at hl 3 rfl) ?_
  refine lv_iload hx hb dX0_init_4 (lv_at hl 4 rfl) ?_
  refine cI_t (As := [.int p0, .int p1, .int p2, .int p3]) (wr := []) C hA hP hD hS mfX3_init t2_82 t2_81 (ci_P_k3 l D cy a p0 p1 p2 p3) rfl rfl [0] [] rfl rfl (by decide) (by decide) (by decide) PO.np rfl hl.1 rfl (Nat.le_of_ble_eq_true rfl) dX0_init_6 ⟨Nat.le_of_ble_eq_true rfl, Nat.le_of_ble_eq_true rfl⟩ ⟨Nat.le_of_ble_eq_true rfl, Nat.le_of_ble_eq_true rfl⟩ ?_
  rintro ⟨⟩ w1 H locs rfl hP hD hS
  exact rt_v C hQ rfl hP hD hS rfl dX0_init_9
set_option maxHeartbeats 4000000 in
theorem ci_X5_k3 (l : Launch) (D : va_G) (cy : Nat → ClassId) (a : Nat) (p0 p1 p2 p3 : Int32) : Ct l D cy miX5_init rmX5_init emV NP [.ref a, .int p0, .int p1, .int p2, .int p3] [(a, .inr (4, [.int 0, .int 0, .int 0, .int 0]))] (fun _ w1 => w1 = [(a, .inr (4, [.int p0, .int p1, .int p2, .int p3]))]) := by
  refine Ct.of (by decide) (Nat.le_of_ble_eq_true rfl) ?_
  intro p e s m args below meth c A ls Q C hQ hA hI hP hD hS hl
  obtain ⟨hx, hb, hr, hml, hown, hts, hK, hlk, hnm⟩ := id C
  have hb : c.code = cX5_init := hb
  have hl : lv_has ls 5 [(0, .ref a), (1, .int p0), (2, .int p1), (3, .int p2), (4, .int p3)] := hl
  refine lv_aload_n hx hb dX5_init_0 rfl (lv_at hl 0 rfl) ?_
  refine lv_iload_n hx hb dX5_init_1 rfl (lv_at hl 1 rfl) ?_
  refine lv_iload_n hx hb dX5_init_2 rfl (lv_at hl 2 rfl) ?_
  refine lv_iload_n hx hb dX5_init_3 rfl (lv_at hl 3 rfl) ?_
  refine lv_iload hx hb dX5_init_4 (lv_at hl 4 rfl) ?_
  refine cI_t (As := [.int p0, .int p1, .int p2, .int p3]) (wr := []) C hA hP hD hS mfX0_init t2_79 t2_119 (ci_X0_k3 l D cy a p0 p1 p2 p3) rfl rfl [0] [] rfl rfl (by decide) (by decide) (by decide) PO.np rfl hl.1 rfl (Nat.le_of_ble_eq_true rfl) dX5_init_6 ⟨Nat.le_of_ble_eq_true rfl, Nat.le_of_ble_eq_true rfl⟩ ⟨Nat.le_of_ble_eq_true rfl, Nat.le_of_ble_eq_true rfl⟩ ?_
  rintro ⟨⟩ w1 H locs rfl hP hD hS
  exact rt_v C hQ rfl hP hD hS rfl dX5_init_9
set_option maxHeartbeats 4000000 in
theorem ci_P_k4 (l : Launch) (D : va_G) (cy : Nat → ClassId) (a : Nat) (p0 p1 p2 p3 : Int32) : Ct l D cy miX3_init rmX3_init emV NP [.ref a, .int p0, .int p1, .int p2, .int p3] [(a, .inr (9, [.int 0, .int 0, .int 0, .int 0]))] (fun _ w1 => w1 = [(a, .inr (9, [.int p0, .int p1, .int p2, .int p3]))]) := by
  refine Ct.of (by decide) (Nat.le_of_ble_eq_true rfl) ?_
  intro p e s m args below meth c A ls Q C hQ hA hI hP hD hS hl
  obtain ⟨hx, hb, hr, hml, hown, hts, hK, hlk, hnm⟩ := id C
  have hb : c.code = cX3_init := hb
  have hown : s.vm.findClass RX3 = some m.cls := hown
  have hl : lv_has ls 5 [(0, .ref a), (1, .int p0), (2, .int p1), (3, .int p2), (4, .int p3)] := hl
  refine lv_aload_n hx hb dX3_init_0 rfl (lv_at hl 0 rfl) ?_
  refine W.objInit hx hb hown (hts _ t2_84) (hts _ t1_24) (hts _ t1_25) rfl (by rw [hml]; exact hl.1) rfl dX3_init_1 (Nat.le_of_ble_eq_true rfl) (Nat.le_of_ble_eq_true rfl) ?_
  refine W.eq (g2 := F0 m 4 ls []) rfl ?_
  refine lv_aload_n hx hb dX3_init_4 rfl (lv_at hl 0 rfl) ?_
  refine lv_iload_n hx hb dX3_init_5 rfl (lv_at hl 1 rfl) ?_
  refine va_putF (D := D) (ci := 9) (v := .int p0) (ty := .int) (C := RX10) (T := TX10) (N := 4) hx hb hts inTX10 tyX10 tyX10_ok nmX10 hown hK.1 hP hD hS 0 rfl rfl 0 (by decide) (hts _ t2_85) (fun _ h9 => h9) rfl hnm rfl (tyX10_ok 0 (by decide)) rfl rfl (Nat.le_of_ble_eq_true rfl) dX3_init_6 (fun H locs hP hD hS => ?_)
  have hP : va_P D CL [(a, .inr (9, [.int p0, .int 0, .int 0, .int 0]))] H := hP
  have hD : va_D A [(a, .inr (9, [.int p0, .int 0, .int 0, .int 0]))] := hD
  refine lv_aload_n hx hb dX3_init_9 rfl (lv_at hl 0 rfl) ?_
  refine lv_iload_n hx hb dX3_init_10 rfl (lv_at hl 2 rfl) ?_
  refine va_putF (D := D) (ci := 9) (v := .int p1) (ty := .int) (C := RX10) (T := TX10) (N := 4) hx hb hts inTX10 tyX10 tyX10_ok nmX10 hown hK.1 hP hD hS 0 rfl rfl 1 (by decide) (hts _ t2_86) (fun _ h9 => h9) rfl hnm rfl (tyX10_ok 1 (by decide)) rfl rfl (Nat.le_of_ble_eq_true rfl) dX3_init_11 (fun H locs hP hD hS => ?_)
  have hP : va_P D CL [(a, .inr (9, [.int p0, .int p1, .int 0, .int 0]))] H := hP
  have hD : va_D A [(a, .inr (9, [.int p0, .int p1, .int 0, .int 0]))] := hD
  refine lv_aload_n hx hb dX3_init_14 rfl (lv_at hl 0 rfl) ?_
  refine lv_iload_n hx hb dX3_init_15 rfl (lv_at hl 3 rfl) ?_
  refine va_putF (D := D) (ci := 9) (v := .int p2) (ty := .int) (C := RX10) (T := TX10) (N := 4) hx hb hts inTX10 tyX10 tyX10_ok nmX10 hown hK.1 hP hD hS 0 rfl rfl 2 (by decide) (hts _ t2_88) (fun _ h9 => h9) rfl hnm rfl (tyX10_ok 2 (by decide)) rfl rfl (Nat.le_of_ble_eq_true rfl) dX3_init_16 (fun H locs hP hD hS => ?_)
  have hP : va_P D CL [(a, .inr (9, [.int p0, .int p1, .int p2, .int 0]))] H := hP
  have hD : va_D A [(a, .inr (9, [.int p0, .int p1, .int p2, .int 0]))] := hD
  refine lv_aload_n hx hb dX3_init_19 rfl (lv_at hl 0 rfl) ?_
  refine lv_iload hx hb dX3_init_20 (lv_at hl 4 rfl) ?_
  refine va_putF (D := D) (ci := 9) (v := .int p3) (ty := .int) (C := RX10) (T := TX10) (N := 4) hx hb hts inTX10 tyX10 tyX10_ok nmX10 hown hK.1 hP hD hS 0 rfl rfl 3 (by decide) (hts _ t2_92) (fun _ h9 => h9) rfl hnm rfl (tyX10_ok 3 (by decide)) rfl rfl (Nat.le_of_ble_eq_true rfl) dX3_init_22 (fun H locs hP hD hS => ?_)
  have hP : va_P D CL [(a, .inr (9, [.int p0, .int p1, .int p2, .int p3]))] H := hP
  have hD : va_D A [(a, .inr (9, [.int p0, .int p1, .int p2, .int p3]))] := hD
  exact rt_v C hQ rfl hP hD hS rfl dX3_init_25
set_option maxHeartbeats 4000000 in
theorem ci_X10_k4 (l : Launch) (D : va_G) (cy : Nat → ClassId) (a : Nat) (p0 p1 p2 p3 : Int32) : Ct l D cy miX10_init rmX10_init emV NP [.ref a, .int p0, .int p1, .int p2, .int p3] [(a, .inr (9, [.int 0, .int 0, .int 0, .int 0]))] (fun _ w1 => w1 = [(a, .inr (9, [.int p0, .int p1, .int p2, .int p3]))]) := by
  refine Ct.of (by decide) (Nat.le_of_ble_eq_true rfl) ?_
  intro p e s m args below meth c A ls Q C hQ hA hI hP hD hS hl
  obtain ⟨hx, hb, hr, hml, hown, hts, hK, hlk, hnm⟩ := id C
  have hb : c.code = cX10_init := hb
  have hl : lv_has ls 5 [(0, .ref a), (1, .int p0), (2, .int p1), (3, .int p2), (4, .int p3)] := hl
  refine lv_aload_n hx hb dX10_init_0 rfl (lv_at hl 0 rfl) ?_
  refine lv_iload_n hx hb dX10_init_1 rfl (lv_at hl 1 rfl) ?_
  refine lv_iload_n hx hb dX10_init_2 rfl (lv_at hl 2 rfl) ?_
  refine lv_iload_n hx hb dX10_init_3 rfl (lv_at hl 3 rfl) ?_
  refine lv_iload hx hb dX10_init_4 (lv_at hl 4 rfl) ?_
  refine cI_t (As := [.int p0, .int p1, .int p2, .int p3]) (wr := []) C hA hP hD hS mfX3_init t2_82 t2_130 (ci_P_k4 l D cy a p0 p1 p2 p3) rfl rfl [0] [] rfl rfl (by decide) (by decide) (by decide) PO.np rfl hl.1 rfl (Nat.le_of_ble_eq_true rfl) dX10_init_6 ⟨Nat.le_of_ble_eq_true rfl, Nat.le_of_ble_eq_true rfl⟩ ⟨Nat.le_of_ble_eq_true rfl, Nat.le_of_ble_eq_true rfl⟩ ?_
  rintro ⟨⟩ w1 H locs rfl hP hD hS
  exact rt_v C hQ rfl hP hD hS rfl dX10_init_9
set_option maxHeartbeats 4000000 in
theorem ci_P_k5 (l : Launch) (D : va_G) (cy : Nat → ClassId) (a : Nat) (p0 p1 p2 p3 : Int32) : Ct l D cy miX3_init rmX3_init emV NP [.ref a, .int p0, .int p1, .int p2, .int p3] [(a, .inr (5, [.int 0, .int 0, .int 0, .int 0]))] (fun _ w1 => w1 = [(a, .inr (5, [.int p0, .int p1, .int p2, .int p3]))]) := by
  refine Ct.of (by decide) (Nat.le_of_ble_eq_true rfl) ?_
  intro p e s m args below meth c A ls Q C hQ hA hI hP hD hS hl
  obtain ⟨hx, hb, hr, hml, hown, hts, hK, hlk, hnm⟩ := id C
  have hb : c.code = cX3_init := hb
  have hown : s.vm.findClass RX3 = some m.cls := hown
  have hl : lv_has ls 5 [(0, .ref a), (1, .int p0), (2, .int p1), (3, .int p2), (4, .int p3)] := hl
  refine lv_aload_n hx hb dX3_init_0 rfl (lv_at hl 0 rfl) ?_
  refine W.objInit hx hb hown (hts _ t2_84) (hts _ t1_24) (hts _ t1_25) rfl (by rw [hml]; exact hl.1) rfl dX3_init_1 (Nat.le_of_ble_eq_true rfl) (Nat.le_of_ble_eq_true rfl) ?_
  refine W.eq (g2 := F0 m 4 ls []) rfl ?_
  refine lv_aload_n hx hb dX3_init_4 rfl (lv_at hl 0 rfl) ?_
  refine lv_iload_n hx hb dX3_init_5 rfl (lv_at hl 1 rfl) ?_
  refine va_putF (D := D) (ci := 5) (v := .int p0) (ty := .int) (C := RX6) (T := TX6) (N := 4) hx hb hts inTX6 tyX6 tyX6_ok nmX6 hown hK.1 hP hD hS 0 rfl rfl 0 (by decide) (hts _ t2_85) (fun _ h9 => h9) rfl hnm rfl (tyX6_ok 0 (by decide)) rfl rfl (Nat.le_of_ble_eq_true rfl) dX3_init_6 (fun H locs hP hD hS => ?_)
  have hP : va_P D CL [(a, .inr (5, [.int p0, .int 0, .int 0, .int 0]))] H := hP
  have hD : va_D A [(a, .inr (5, [.int p0, .int 0, .int 0, .int 0]))] := hD
  refine lv_aload_n hx hb dX3_init_9 rfl (lv_at hl 0 rfl) ?_
  refine lv_iload_n hx hb dX3_init_10 rfl (lv_at hl 2 rfl) ?_
  refine va_putF (D := D) (ci := 5) (v := .int p1) (ty := .int) (C := RX6) (T := TX6) (N := 4) hx hb hts inTX6 tyX6 tyX6_ok nmX6 hown hK.1 hP hD hS 0 rfl rfl 1 (by decide) (hts _ t2_86) (fun _ h9 => h9) rfl hnm rfl (tyX6_ok 1 (by decide)) rfl rfl (Nat.le_of_ble_eq_true rfl) dX3_init_11 (fun H locs hP hD hS => ?_)
  have hP : va_P D CL [(a, .inr (5, [.int p0, .int p1, .int 0, .int 0]))] H := hP
  have hD : va_D A [(a, .inr (5, [.int p0, .int p1, .int 0, .int 0]))] := hD
  refine lv_aload_n hx hb dX3_init_14 rfl (lv_at hl 0 rfl) ?_
  refine lv_iload_n hx hb dX3_init_15 rfl (lv_at hl 3 rfl) ?_
  refine va_putF (D := D) (ci := 5) (v := .int p2) (ty := .int) (C := RX6) (T := TX6) (N := 4) hx hb hts inTX6 tyX6 tyX6_ok nmX6 hown hK.1 hP hD hS 0 rfl rfl 2 (by decide) (hts _ t2_88) (fun _ h9 => h9) rfl hnm rfl (tyX6_ok 2 (by decide)) rfl rfl (Nat.le_of_ble_eq_true rfl) dX3_init_16 (fun H locs hP hD hS => ?_)
  have hP : va_P D CL [(a, .inr (5, [.int p0, .int p1, .int p2, .int 0]))] H := hP
  have hD : va_D A [(a, .inr (5, [.int p0, .int p1, .int p2, .int 0]))] := hD
  refine lv_aload_n hx hb dX3_init_19 rfl (lv_at hl 0 rfl) ?_
  refine lv_iload hx hb dX3_init_20 (lv_at hl 4 rfl) ?_
  refine va_putF (D := D) (ci := 5) (v := .int p3) (ty := .int) (C := RX6) (T := TX6) (N := 4) hx hb hts inTX6 tyX6 tyX6_ok nmX6 hown hK.1 hP hD hS 0 rfl rfl 3 (by decide) (hts _ t2_92) (fun _ h9 => h9) rfl hnm rfl (tyX6_ok 3 (by decide)) rfl rfl (Nat.le_of_ble_eq_true rfl) dX3_init_22 (fun H locs hP hD hS => ?_)
  have hP : va_P D CL [(a, .inr (5, [.int p0, .int p1, .int p2, .int p3]))] H := hP
  have hD : va_D A [(a, .inr (5, [.int p0, .int p1, .int p2, .int p3]))] := hD
  exact rt_v C hQ rfl hP hD hS rfl dX3_init_25
set_option maxHeartbeats 4000000 in
theorem ci_X10_k5 (l : Launch) (D : va_G) (cy : Nat → ClassId) (a : Nat) (p0 p1 p2 p3 : Int32) : Ct l D cy miX10_init rmX10_init emV NP [.ref a, .int p0, .int p1, .int p2, .int p3] [(a, .inr (5, [.int 0, .int 0, .int 0, .int 0]))] (fun _ w1 => w1 = [(a, .inr (5, [.int p0, .int p1, .int p2, .int p3]))]) := by
  refine Ct.of (by decide) (Nat.le_of_ble_eq_true rfl) ?_
  intro p e s m args below meth c A ls Q C hQ hA hI hP hD hS hl
  obtain ⟨hx, hb, hr, hml, hown, hts, hK, hlk, hnm⟩ := id C
  have hb : c.code = cX10_init := hb
  have hl : lv_has ls 5 [(0, .ref a), (1, .int p0), (2, .int p1), (3, .int p2), (4, .int p3)] := hl
  refine lv_aload_n hx hb dX10_init_0 rfl (lv_at hl 0 rfl) ?_
  refine lv_iload_n hx hb dX10_init_1 rfl (lv_at hl 1 rfl) ?_
  refine lv_iload_n hx hb dX10_init_2 rfl (lv_at hl 2 rfl) ?_
  refine lv_iload_n hx hb dX10_init_3 rfl (lv_at hl 3 rfl) ?_
  refine lv_iload hx hb dX10_init_4 (lv_at hl 4 rfl) ?_
  refine cI_t (As := [.int p0, .int p1, .int p2, .int p3]) (wr := []) C hA hP hD hS mfX3_init t2_82 t2_130 (ci_P_k5 l D cy a p0 p1 p2 p3) rfl rfl [0] [] rfl rfl (by decide) (by decide) (by decide) PO.np rfl hl.1 rfl (Nat.le_of_ble_eq_true rfl) dX10_init_6 ⟨Nat.le_of_ble_eq_true rfl, Nat.le_of_ble_eq_true rfl⟩ ⟨Nat.le_of_ble_eq_true rfl, Nat.le_of_ble_eq_true rfl⟩ ?_
  rintro ⟨⟩ w1 H locs rfl hP hD hS
  exact rt_v C hQ rfl hP hD hS rfl dX10_init_9
set_option maxHeartbeats 4000000 in
theorem ci_X6_k5 (l : Launch) (D : va_G) (cy : Nat → ClassId) (a : Nat) (p0 p1 p2 p3 : Int32) : Ct l D cy miX6_init rmX6_init emV NP [.ref a, .int p0, .int p1, .int p2, .int p3] [(a, .inr (5, [.int 0, .int 0, .int 0, .int 0]))] (fun _ w1 => w1 = [(a, .inr (5, [.int p0, .int p1, .int p2, .int p3]))]) := by
  refine Ct.of (by decide) (Nat.le_of_ble_eq_true rfl) ?_
  intro p e s m args below meth c A ls Q C hQ hA hI hP hD hS hl
  obtain ⟨hx, hb, hr, hml, hown, hts, hK, hlk, hnm⟩ := id C
  have hb : c.code = cX6_init := hb
  have hl : lv_has ls 5 [(0, .ref a), (1, .int p0), (2, .int p1), (3, .int p2), (4, .int p3)] := hl
  refine lv_aload_n hx hb dX6_init_0 rfl (lv_at hl 0 rfl) ?_
  refine lv_iload_n hx hb dX6_init_1 rfl (lv_at hl 1 rfl) ?_
  refine lv_iload_n hx hb dX6_init_2 rfl (lv_at hl 2 rfl) ?_
  refine lv_iload_n hx hb dX6_init_3 rfl (lv_at hl 3 rfl) ?_
  refine lv_iload hx hb dX6_init_4 (lv_at hl 4 rfl) ?_
  refine cI_t (As := [.int p0, .int p1, .int p2, .int p3]) (wr := []) C hA hP hD hS mfX10_init t2_128 t2_141 (ci_X10_k5 l D cy a p0 p1 p2 p3) rfl rfl [0] [] rfl rfl (by decide) (by decide) (by decide) PO.np rfl hl.1 rfl (Nat.le_of_ble_eq_true rfl) dX6_init_6 ⟨Nat.le_of_ble_eq_true rfl, Nat.le_of_ble_eq_true rfl⟩ ⟨Nat.le_of_ble_eq_true rfl, Nat.le_of_ble_eq_true rfl⟩ ?_
  rintro ⟨⟩ w1 H locs rfl hP hD hS
  exact rt_v C hQ rfl hP hD hS rfl dX6_init_9
def kindS (c : Int32) : Nat := if c = 102 then 1 else if c = 103 then 2 else if c = 115 then 3 else if c = 119 then 4 else 5
abbrev miX7_newPerson : MI := (yX7_newPerson, cX7_newPerson, 5, (some (.object "LivedAgain$Person")))
theorem mfX7_newPerson : MF miX7_newPerson 5 := ⟨t2_75, t1_4, by decide +kernel⟩
abbrev rmX7_newPerson : Room := { frames := 4, cells := 1, slots := 4, locals := 92 }
set_option maxHeartbeats 4000000 in
theorem ccX7_newPerson (l : Launch) (D : va_G) (cy : Nat → ClassId) (p0 p1 p2 p3 p4 : Int32) : Ct l D cy miX7_newPerson rmX7_newPerson emQ NP [.int p0, .int p1, .int p2, .int p3, .int p4] [] (fun r w1 => ∃ q : Nat, r = some q ∧ w1 = [(q, PEl (kindS p0, p1, p2, p3, p4))]) := by
  refine Ct.of (by decide) (Nat.le_of_ble_eq_true rfl) ?_
  intro p e s m args below meth c A ls Q C hQ hA hI hP hD hS hl
  obtain ⟨hx, hb, hr, hml, hown, hts, hK, hlk, hnm⟩ := id C
  have hb : c.code = cX7_newPerson := hb
  have hown : s.vm.findClass RX7 = some m.cls := hown
  have hl : lv_has ls 5 [(0, .int p0), (1, .int p1), (2, .int p2), (3, .int p3), (4, .int p4)] := hl
  refine lv_iload_n hx hb dX7_newPerson_0 rfl (lv_at hl 0 rfl) ?_
  by_cases cs_1 : p0 = 102
  · refine lv_lookup (tgt := 44) hx hb dX7_newPerson_1 (by decide) (by rw [cs_1]) (by decide) ?_
    refine va_new (ci := 0) (fs := [.int 0, .int 0, .int 0, .int 0]) (C := RX0) (T := TX0) (N := 4) hx hb hts inTX0 tyX0 tyX0_ok hown (hts _ t2_76) (hts _ t2_77) (hts _ t1_11) hK.1 hP hD hS hA rfl (fun j hj => by rcases (show j = 0 ∨ j = 1 ∨ j = 2 ∨ j = 3 by omega) with rfl | rfl | rfl | rfl <;> rfl) (Nat.le_of_ble_eq_true rfl) (Nat.le_of_ble_eq_true rfl) dX7_newPerson_44 (fun q H hP hD hS => ?_)
    have hP : va_P D CL [(q, .inr (0, [.int 0, .int 0, .int 0, .int 0]))] H := hP
    have hD : va_D A [(q, .inr (0, [.int 0, .int 0, .int 0, .int 0]))] := hD
    refine lv_dup hx hb dX7_newPerson_47 rfl ?_
    refine lv_iload_n hx hb dX7_newPerson_48 rfl (lv_at hl 1 rfl) ?_
    refine lv_iload_n hx hb dX7_newPerson_49 rfl (lv_at hl 2 rfl) ?_
    refine lv_iload_n hx hb dX7_newPerson_50 rfl (lv_at hl 3 rfl) ?_
    refine lv_iload hx hb dX7_newPerson_51 (lv_at hl 4 rfl) ?_
    refine cI_t (As := [.int p1, .int p2, .int p3, .int p4]) (wr := []) C hA hP hD hS mfX0_init t2_79 t2_78 (ci_X0_k1 l D cy q p1 p2 p3 p4) rfl rfl [0] [] rfl rfl (by decide) (by decide) (by decide) PO.np rfl hl.1 rfl (Nat.le_of_ble_eq_true rfl) dX7_newPerson_53 ⟨Nat.le_of_ble_eq_true rfl, Nat.le_of_ble_eq_true rfl⟩ ⟨Nat.le_of_ble_eq_true rfl, Nat.le_of_ble_eq_true rfl⟩ ?_
    rintro ⟨⟩ w1 H locs rfl hP hD hS
    refine W.eq (g2 := F0 m 56 ls [.ref q]) rfl ?_
    exact rt_q (v := some q) C hQ rfl rfl hP hD hS ⟨q, rfl, by simp only [kindS, PEl, cs_1]; rfl⟩ dX7_newPerson_56
  · by_cases cs_2 : p0 = 103
    · refine lv_lookup (tgt := 57) hx hb dX7_newPerson_1 (by decide) (by rw [cs_2]) (by decide) ?_
      refine va_new (ci := 2) (fs := [.int 0, .int 0, .int 0, .int 0]) (C := RX2) (T := TX2) (N := 4) hx hb hts inTX2 tyX2 tyX2_ok hown (hts _ t2_103) (hts _ t2_104) (hts _ t1_12) hK.1 hP hD hS hA rfl (fun j hj => by rcases (show j = 0 ∨ j = 1 ∨ j = 2 ∨ j = 3 by omega) with rfl | rfl | rfl | rfl <;> rfl) (Nat.le_of_ble_eq_true rfl) (Nat.le_of_ble_eq_true rfl) dX7_newPerson_57 (fun q H hP hD hS => ?_)
      have hP : va_P D CL [(q, .inr (2, [.int 0, .int 0, .int 0, .int 0]))] H := hP
      have hD : va_D A [(q, .inr (2, [.int 0, .int 0, .int 0, .int 0]))] := hD
      refine lv_dup hx hb dX7_newPerson_60 rfl ?_
      refine lv_iload_n hx hb dX7_newPerson_61 rfl (lv_at hl 1 rfl) ?_
      refine lv_iload_n hx hb dX7_newPerson_62 rfl (lv_at hl 2 rfl) ?_
      refine lv_iload_n hx hb dX7_newPerson_63 rfl (lv_at hl 3 rfl) ?_
      refine lv_iload hx hb dX7_newPerson_64 (lv_at hl 4 rfl) ?_
      refine cI_t (As := [.int p1, .int p2, .int p3, .int p4]) (wr := []) C hA hP hD hS mfX2_init t2_106 t2_105 (ci_X2_k2 l D cy q p1 p2 p3 p4) rfl rfl [0] [] rfl rfl (by decide) (by decide) (by decide) PO.np rfl hl.1 rfl (Nat.le_of_ble_eq_true rfl) dX7_newPerson_66 ⟨Nat.le_of_ble_eq_true rfl, Nat.le_of_ble_eq_true rfl⟩ ⟨Nat.le_of_ble_eq_true rfl, Nat.le_of_ble_eq_true rfl⟩ ?_
      rintro ⟨⟩ w1 H locs rfl hP hD hS
      refine W.eq (g2 := F0 m 69 ls [.ref q]) rfl ?_
      exact rt_q (v := some q) C hQ rfl rfl hP hD hS ⟨q, rfl, by simp only [kindS, PEl, cs_1, cs_2]; rfl⟩ dX7_newPerson_69
    · by_cases cs_3 : p0 = 115
      · refine lv_lookup (tgt := 70) hx hb dX7_newPerson_1 (by decide) (by rw [cs_3]) (by decide) ?_
        refine va_new (ci := 4) (fs := [.int 0, .int 0, .int 0, .int 0]) (C := RX5) (T := TX5) (N := 4) hx hb hts inTX5 tyX5 tyX5_ok hown (hts _ t2_114) (hts _ t2_115) (hts _ t1_13) hK.1 hP hD hS hA rfl (fun j hj => by rcases (show j = 0 ∨ j = 1 ∨ j = 2 ∨ j = 3 by omega) with rfl | rfl | rfl | rfl <;> rfl) (Nat.le_of_ble_eq_true rfl) (Nat.le_of_ble_eq_true rfl) dX7_newPerson_70 (fun q H hP hD hS => ?_)
        have hP : va_P D CL [(q, .inr (4, [.int 0, .int 0, .int 0, .int 0]))] H := hP
        have hD : va_D A [(q, .inr (4, [.int 0, .int 0, .int 0, .int 0]))] := hD
        refine lv_dup hx hb dX7_newPerson_73 rfl ?_
        refine lv_iload_n hx hb dX7_newPerson_74 rfl (lv_at hl 1 rfl) ?_
        refine lv_iload_n hx hb dX7_newPerson_75 rfl (lv_at hl 2 rfl) ?_
        refine lv_iload_n hx hb dX7_newPerson_76 rfl (lv_at hl 3 rfl) ?_
        refine lv_iload hx hb dX7_newPerson_77 (lv_at hl 4 rfl) ?_
        refine cI_t (As := [.int p1, .int p2, .int p3, .int p4]) (wr := []) C hA hP hD hS mfX5_init t2_117 t2_116 (ci_X5_k3 l D cy q p1 p2 p3 p4) rfl rfl [0] [] rfl rfl (by decide) (by decide) (by decide) PO.np rfl hl.1 rfl (Nat.le_of_ble_eq_true rfl) dX7_newPerson_79 ⟨Nat.le_of_ble_eq_true rfl, Nat.le_of_ble_eq_true rfl⟩ ⟨Nat.le_of_ble_eq_true rfl, Nat.le_of_ble_eq_true rfl⟩ ?_
        rintro ⟨⟩ w1 H locs rfl hP hD hS
        refine W.eq (g2 := F0 m 82 ls [.ref q]) rfl ?_
        exact rt_q (v := some q) C hQ rfl rfl hP hD hS ⟨q, rfl, by simp only [kindS, PEl, cs_1, cs_2, cs_3]; rfl⟩ dX7_newPerson_82
      · by_cases cs_4 : p0 = 119
        · refine lv_lookup (tgt := 83) hx hb dX7_newPerson_1 (by decide) (by rw [cs_4]) (by decide) ?_
          refine va_new (ci := 9) (fs := [.int 0, .int 0, .int 0, .int 0]) (C := RX10) (T := TX10) (N := 4) hx hb hts inTX10 tyX10 tyX10_ok hown (hts _ t2_125) (hts _ t2_126) (hts _ t1_14) hK.1 hP hD hS hA rfl (fun j hj => by rcases (show j = 0 ∨ j = 1 ∨ j = 2 ∨ j = 3 by omega) with rfl | rfl | rfl | rfl <;> rfl) (Nat.le_of_ble_eq_true rfl) (Nat.le_of_ble_eq_true rfl) dX7_newPerson_83 (fun q H hP hD hS => ?_)
          have hP : va_P D CL [(q, .inr (9, [.int 0, .int 0, .int 0, .int 0]))] H := hP
          have hD : va_D A [(q, .inr (9, [.int 0, .int 0, .int 0, .int 0]))] := hD
          refine lv_dup hx hb dX7_newPerson_86 rfl ?_
          refine lv_iload_n hx hb dX7_newPerson_87 rfl (lv_at hl 1 rfl) ?_
          refine lv_iload_n hx hb dX7_newPerson_88 rfl (lv_at hl 2 rfl) ?_
          refine lv_iload_n hx hb dX7_newPerson_89 rfl (lv_at hl 3 rfl) ?_
          refine lv_iload hx hb dX7_newPerson_90 (lv_at hl 4 rfl) ?_
          refine cI_t (As := [.int p1, .int p2, .int p3, .int p4]) (wr := []) C hA hP hD hS mfX10_init t2_128 t2_127 (ci_X10_k4 l D cy q p1 p2 p3 p4) rfl rfl [0] [] rfl rfl (by decide) (by decide) (by decide) PO.np rfl hl.1 rfl (Nat.le_of_ble_eq_true rfl) dX7_newPerson_92 ⟨Nat.le_of_ble_eq_true rfl, Nat.le_of_ble_eq_true rfl⟩ ⟨Nat.le_of_ble_eq_true rfl, Nat.le_of_ble_eq_true rfl⟩ ?_
          rintro ⟨⟩ w1 H locs rfl hP hD hS
          refine W.eq (g2 := F0 m 95 ls [.ref q]) rfl ?_
          exact rt_q (v := some q) C hQ rfl rfl hP hD hS ⟨q, rfl, by simp only [kindS, PEl, cs_1, cs_2, cs_3, cs_4]; rfl⟩ dX7_newPerson_95
        · refine lv_lookup (off := 95) (tgt := 96) hx hb dX7_newPerson_1 (by decide) (by show Op.lookupswitch.offset _ _ _ = _; rw [lv_osw cs_1 (by decide), lv_osw cs_2 (by decide), lv_osw cs_3 (by decide), lv_osw cs_4 (by decide)]; rfl) (by decide) ?_
          refine va_new (ci := 5) (fs := [.int 0, .int 0, .int 0, .int 0]) (C := RX6) (T := TX6) (N := 4) hx hb hts inTX6 tyX6 tyX6_ok hown (hts _ t2_136) (hts _ t2_137) (hts _ t1_15) hK.1 hP hD hS hA rfl (fun j hj => by rcases (show j = 0 ∨ j = 1 ∨ j = 2 ∨ j = 3 by omega) with rfl | rfl | rfl | rfl <;> rfl) (Nat.le_of_ble_eq_true rfl) (Nat.le_of_ble_eq_true rfl) dX7_newPerson_96 (fun q H hP hD hS => ?_)
          have hP : va_P D CL [(q, .inr (5, [.int 0, .int 0, .int 0, .int 0]))] H := hP
          have hD : va_D A [(q, .inr (5, [.int 0, .int 0, .int 0, .int 0]))] := hD
          refine lv_dup hx hb dX7_newPerson_99 rfl ?_
          refine lv_iload_n hx hb dX7_newPerson_100 rfl (lv_at hl 1 rfl) ?_
          refine lv_iload_n hx hb dX7_newPerson_101 rfl (lv_at hl 2 rfl) ?_
          refine lv_iload_n hx hb dX7_newPerson_102 rfl (lv_at hl 3 rfl) ?_
          refine lv_iload hx hb dX7_newPerson_103 (lv_at hl 4 rfl) ?_
          refine cI_t (As := [.int p1, .int p2, .int p3, .int p4]) (wr := []) C hA hP hD hS mfX6_init t2_139 t2_138 (ci_X6_k5 l D cy q p1 p2 p3 p4) rfl rfl [0] [] rfl rfl (by decide) (by decide) (by decide) PO.np rfl hl.1 rfl (Nat.le_of_ble_eq_true rfl) dX7_newPerson_105 ⟨Nat.le_of_ble_eq_true rfl, Nat.le_of_ble_eq_true rfl⟩ ⟨Nat.le_of_ble_eq_true rfl, Nat.le_of_ble_eq_true rfl⟩ ?_
          rintro ⟨⟩ w1 H locs rfl hP hD hS
          refine W.eq (g2 := F0 m 108 ls [.ref q]) rfl ?_
          exact rt_q (v := some q) C hQ rfl rfl hP hD hS ⟨q, rfl, by simp only [kindS, PEl, cs_1, cs_2, cs_3, cs_4]; rfl⟩ dX7_newPerson_108
theorem kindS_ok (c : Int32) : 1 ≤ kindS c ∧ kindS c ≤ 5 := by
  unfold kindS
  split
  · decide
  · split
    · decide
    · split
      · decide
      · split
        · decide
        · decide
/-- new people, beside the rest of a world -/
def nsW (ns : List (Nat × PT)) : va_W := ns.map (fun x => (x.1, PEl x.2))
def NSok (ns : List (Nat × PT)) : Prop := ∀ x ∈ ns, 1 ≤ x.2.1 ∧ x.2.1 ≤ 5
theorem NSok_0 : NSok [] := fun x h => by cases h
theorem NSok_c {q : Nat} {pt : PT} {ns : List (Nat × PT)} (h : 1 ≤ pt.1 ∧ pt.1 ≤ 5) (hn : NSok ns) : NSok ((q, pt) :: ns) := fun x hx => by
  rcases List.mem_cons.mp hx with rfl | hx
  · exact h
  · exact hn x hx
theorem new_pr {D : va_G} {ws : va_W} {H : Heap} {q k : Nat} {pt : PT} (hP : va_P D CL ws H) (hk : ws[k]? = some (q, PEl pt)) (h : 1 ≤ pt.1 ∧ pt.1 ≤ 5) : PR D ([q], fun _ => pt) H := fun a ha => by
  have e : a = q := by simpa using ha
  subst e
  exact ⟨hP k _ hk, h⟩
theorem new_any {D : va_G} {cy : Nat → ClassId} {s : State} {ws : va_W} {H : Heap} {q k : Nat} {pt : PT} (hK : KW D cy s) (hP : va_P D CL ws H) (hk : ws[k]? = some (q, PEl pt)) (h : 1 ≤ pt.1 ∧ pt.1 ≤ 5) : va_Any "LivedAgain$Person" s H q := pe_any hK (new_pr hP hk h) (by simp)

