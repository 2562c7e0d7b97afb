def wjX7_readPerson_34 (v_length : Int32) (v_bytes : Nat → Int32) (post : (Option PT) → Int32 → Int32 → Prop) (l1 : Int32) (l2 : Int32) (w_place : Int32) (w_flaw : Int32) : Prop := wpX7_readSign l2 v_length w_place w_flaw v_bytes (fun _ u2_place u3_flaw => wpX7_readNumber 10 v_length u2_place u3_flaw v_bytes (fun r4 u5_place u6_flaw => wpX7_readSign 44 v_length u5_place u6_flaw v_bytes (fun _ u8_place u9_flaw => wpX7_readNumber 99 v_length u8_place u9_flaw v_bytes (fun r10 u11_place u12_flaw => wpX7_readSign 44 v_length u11_place u12_flaw v_bytes (fun _ u14_place u15_flaw => wpX7_readNumber 99 v_length u14_place u15_flaw v_bytes (fun r16 u17_place u18_flaw => wpX7_readSign 59 v_length u17_place u18_flaw v_bytes (fun _ u20_place u21_flaw => (u21_flaw = 0 → (post (some (kindS l2, l1, r4, r10, r16)) u20_place u21_flaw)) ∧ (¬ u21_flaw = 0 → (post none u20_place u21_flaw)))))))))
def wpX7_readPerson (p0 : Int32) (v_length : Int32) (v_place : Int32) (v_flaw : Int32) (v_bytes : Nat → Int32) (post : (Option PT) → Int32 → Int32 → Prop) : Prop := wpX7_byteAt v_place v_length v_bytes (fun r1 => wpX7_isSort r1 (fun r2 => (r2 = true → ((p0 < 3 → (wjX7_readPerson_34 v_length v_bytes post p0 r1 v_place v_flaw)) ∧ (¬ p0 < 3 → (wjX7_readPerson_34 v_length v_bytes post p0 r1 v_place 3)))) ∧ (r2 = false → (wjX7_readPerson_34 v_length v_bytes post p0 r1 v_place 1))))
abbrev miX7_readPerson : MI := (yX7_readPerson, cX7_readPerson, 6, (some (.object "LivedAgain$Person")))
theorem mfX7_readPerson : MF miX7_readPerson 1 := ⟨t2_62, t1_4, by decide +kernel⟩
abbrev rmX7_readPerson : Room := { frames := 5, cells := 1, slots := 4, locals := 116 }
set_option maxHeartbeats 4000000 in
set_option maxRecDepth 100000 in
theorem ccX7_readPerson (l : Launch) (D : va_G) (cy : Nat → ClassId) (h_this : Nat) (h_bytes : Nat) (x_newcomers : Value) (v_length : Int32) (v_place : Int32) (v_flaw : Int32) (v_bytes : Nat → Int32) (p0 : Int32) (post : (Option PT) → Int32 → Int32 → Prop) (hF : wpX7_readPerson p0 v_length v_place v_flaw v_bytes post) : Ct l D cy miX7_readPerson rmX7_readPerson emQ NP [.ref h_this, .int p0] [(h_this, .inr (6, [x_newcomers, .int v_length, .int v_place, .int v_flaw, .ref h_bytes])), (h_bytes, .inl (cy 0, 60, .inl v_bytes))] (fun r w1 => (∃ (w_place : Int32) (w_flaw : Int32), r = none ∧ w1 = [(h_this, .inr (6, [x_newcomers, .int v_length, .int w_place, .int w_flaw, .ref h_bytes])), (h_bytes, .inl (cy 0, 60, .inl v_bytes))] ∧ post none w_place w_flaw) ∨ (∃ (q : Nat) (pt : PT) (w_place : Int32) (w_flaw : Int32), (1 ≤ pt.1 ∧ pt.1 ≤ 5) ∧ r = some q ∧ w1 = [(h_this, .inr (6, [x_newcomers, .int v_length, .int w_place, .int w_flaw, .ref h_bytes])), (h_bytes, .inl (cy 0, 60, .inl v_bytes))] ++ [(q, PEl pt)] ∧ post (some pt) w_place w_flaw)) := by
  refine Ct.of (by decide) (Nat.le_of_ble_eq_true rfl) ?_
  intro p e s m args below meth c A ls Q C hQ hA hI hP hD hS hl
  obtain ⟨hx, hb, hr, hml, hown, hts, hK, hlk, hnm⟩ := id C
  have hb : c.code = cX7_readPerson := hb
  have hml : c.maxLocals = 6 := hml
  have hown : s.vm.findClass RX7 = some m.cls := hown
  have hl : lv_has ls 6 [(0, .ref h_this), (1, .int p0)] := hl
  have J_34 : ∀ (l1 : Int32) (l2 : Int32) (w_place : Int32) (w_flaw : Int32) (H : Heap) (locs : List Loc) (ls : Array Slot), va_P D CL [(h_this, .inr (6, [x_newcomers, .int v_length, .int w_place, .int w_flaw, .ref h_bytes])), (h_bytes, .inl (cy 0, 60, .inl v_bytes))] H → va_D A [(h_this, .inr (6, [x_newcomers, .int v_length, .int w_place, .int w_flaw, .ref h_bytes])), (h_bytes, .inl (cy 0, 60, .inl v_bytes))] → va_S A s.heap H locs → lv_has ls 6 [(0, .ref h_this), (1, .int l1), (2, .int l2)] → wjX7_readPerson_34 v_length v_bytes post l1 l2 w_place w_flaw → W p l e rmX7_readPerson s m args below meth c H locs 0 0 Q (F0 m 34 ls []) := by
    intro l1 l2 w_place w_flaw H locs ls  hP hD hS hl hF
    unfold wjX7_readPerson_34 at hF
    refine lv_aload_n hx hb dX7_readPerson_34 rfl (lv_at hl 0 rfl) ?_
    refine lv_iload_n hx hb dX7_readPerson_35 rfl (lv_at hl 2 rfl) ?_
    refine cV_t (As := [.int l2]) (wr := []) C hA hP hD hS mfX7_readSign t2_53 ts_2 t2_51 (ccX7_readSign l D cy h_this h_bytes x_newcomers v_length w_place w_flaw v_bytes l2 _ hF) [0, 1] [] rfl rfl (by decide) (by decide) (by decide) PO.np 0 6 rfl rfl rfl rfl hl.1 rfl (Nat.le_of_ble_eq_true rfl) dX7_readPerson_36 ⟨Nat.le_of_ble_eq_true rfl, Nat.le_of_ble_eq_true rfl⟩ ⟨Nat.le_of_ble_eq_true rfl, Nat.le_of_ble_eq_true rfl⟩ ?_
    rintro ⟨⟩ w1 H locs ⟨u2_place, u3_flaw, rfl, hF⟩ hP hD hS
    have hP : va_P D CL [(h_this, .inr (6, [x_newcomers, .int v_length, .int u2_place, .int u3_flaw, .ref h_bytes])), (h_bytes, .inl (cy 0, 60, .inl v_bytes))] H := hP
    have hD : va_D A [(h_this, .inr (6, [x_newcomers, .int v_length, .int u2_place, .int u3_flaw, .ref h_bytes])), (h_bytes, .inl (cy 0, 60, .inl v_bytes))] := hD
    refine W.eq (g2 := F0 m 39 ls []) rfl ?_
    refine lv_aload_n hx hb dX7_readPerson_39 rfl (lv_at hl 0 rfl) ?_
    refine lv_bipush (v := 10) hx hb dX7_readPerson_40 (by decide) ?_
    refine cV_t (As := [.int 10]) (wr := []) C hA hP hD hS mfX7_readNumber t2_68 ts_5 t2_66 (ccX7_readNumber l D cy h_this h_bytes x_newcomers v_length u2_place u3_flaw v_bytes 10 _ hF) [0, 1] [] rfl rfl (by decide) (by decide) (by decide) PO.np 0 6 rfl rfl rfl rfl hl.1 rfl (Nat.le_of_ble_eq_true rfl) dX7_readPerson_42 ⟨Nat.le_of_ble_eq_true rfl, Nat.le_of_ble_eq_true rfl⟩ ⟨Nat.le_of_ble_eq_true rfl, Nat.le_of_ble_eq_true rfl⟩ ?_
    rintro r4 w1 H locs ⟨u5_place, u6_flaw, rfl, hF⟩ hP hD hS
    have hP : va_P D CL [(h_this, .inr (6, [x_newcomers, .int v_length, .int u5_place, .int u6_flaw, .ref h_bytes])), (h_bytes, .inl (cy 0, 60, .inl v_bytes))] H := hP
    have hD : va_D A [(h_this, .inr (6, [x_newcomers, .int v_length, .int u5_place, .int u6_flaw, .ref h_bytes])), (h_bytes, .inl (cy 0, 60, .inl v_bytes))] := hD
    refine W.eq (g2 := F0 m 45 ls [.int r4]) rfl ?_
    refine lv_istore_n (lv' := [(3, .int r4), (0, .ref h_this), (1, .int l1), (2, .int l2)]) hx hb dX7_readPerson_45 rfl hl (by decide) rfl (fun ls hl => ?_)
    refine lv_aload_n hx hb dX7_readPerson_46 rfl (lv_at hl 1 rfl) ?_
    refine lv_bipush (v := 44) hx hb dX7_readPerson_47 (by decide) ?_
    refine cV_t (As := [.int 44]) (wr := []) C hA hP hD hS mfX7_readSign t2_53 ts_2 t2_51 (ccX7_readSign l D cy h_this h_bytes x_newcomers v_length u5_place u6_flaw v_bytes 44 _ hF) [0, 1] [] rfl rfl (by decide) (by decide) (by decide) PO.np 0 6 rfl rfl rfl rfl hl.1 rfl (Nat.le_of_ble_eq_true rfl) dX7_readPerson_49 ⟨Nat.le_of_ble_eq_true rfl, Nat.le_of_ble_eq_true rfl⟩ ⟨Nat.le_of_ble_eq_true rfl, Nat.le_of_ble_eq_true rfl⟩ ?_
    rintro ⟨⟩ w1 H locs ⟨u8_place, u9_flaw, rfl, hF⟩ hP hD hS
    have hP : va_P D CL [(h_this, .inr (6, [x_newcomers, .int v_length, .int u8_place, .int u9_flaw, .ref h_bytes])), (h_bytes, .inl (cy 0, 60, .inl v_bytes))] H := hP
    have hD : va_D A [(h_this, .inr (6, [x_newcomers, .int v_length, .int u8_place, .int u9_flaw, .ref h_bytes])), (h_bytes, .inl (cy 0, 60, .inl v_bytes))] := hD
    refine W.eq (g2 := F0 m 52 ls []) rfl ?_
    refine lv_aload_n hx hb dX7_readPerson_52 rfl (lv_at hl 1 rfl) ?_
    refine lv_bipush (v := 99) hx hb dX7_readPerson_53 (by decide) ?_
    refine cV_t (As := [.int 99]) (wr := []) C hA hP hD hS mfX7_readNumber t2_68 ts_5 t2_66 (ccX7_readNumber l D cy h_this h_bytes x_newcomers v_length u8_place u9_flaw v_bytes 99 _ hF) [0, 1] [] rfl rfl (by decide) (by decide) (by decide) PO.np 0 6 rfl rfl rfl rfl hl.1 rfl (Nat.le_of_ble_eq_true rfl) dX7_readPerson_55 ⟨Nat.le_of_ble_eq_true rfl, Nat.le_of_ble_eq_true rfl⟩ ⟨Nat.le_of_ble_eq_true rfl, Nat.le_of_ble_eq_true rfl⟩ ?_
    rintro r10 w1 H locs ⟨u11_place, u12_flaw, rfl, hF⟩ hP hD hS
    have hP : va_P D CL [(h_this, .inr (6, [x_newcomers, .int v_length, .int u11_place, .int u12_flaw, .ref h_bytes])), (h_bytes, .inl (cy 0, 60, .inl v_bytes))] H := hP
    have hD : va_D A [(h_this, .inr (6, [x_newcomers, .int v_length, .int u11_place, .int u12_flaw, .ref h_bytes])), (h_bytes, .inl (cy 0, 60, .inl v_bytes))] := hD
    refine W.eq (g2 := F0 m 58 ls [.int r10]) rfl ?_
    refine lv_istore (lv' := [(4, .int r10), (3, .int r4), (0, .ref h_this), (1, .int l1), (2, .int l2)]) hx hb dX7_readPerson_58 hl (by decide) rfl (fun ls hl => ?_)
    refine lv_aload_n hx hb dX7_readPerson_60 rfl (lv_at hl 2 rfl) ?_
    refine lv_bipush (v := 44) hx hb dX7_readPerson_61 (by decide) ?_
    refine cV_t (As := [.int 44]) (wr := []) C hA hP hD hS mfX7_readSign t2_53 ts_2 t2_51 (ccX7_readSign l D cy h_this h_bytes x_newcomers v_length u11_place u12_flaw v_bytes 44 _ hF) [0, 1] [] rfl rfl (by decide) (by decide) (by decide) PO.np 0 6 rfl rfl rfl rfl hl.1 rfl (Nat.le_of_ble_eq_true rfl) dX7_readPerson_63 ⟨Nat.le_of_ble_eq_true rfl, Nat.le_of_ble_eq_true rfl⟩ ⟨Nat.le_of_ble_eq_true rfl, Nat.le_of_ble_eq_true rfl⟩ ?_
    rintro ⟨⟩ w1 H locs ⟨u14_place, u15_flaw, rfl, hF⟩ hP hD hS
    have hP : va_P D CL [(h_this, .inr (6, [x_newcomers, .int v_length, .int u14_place, .int u15_flaw, .ref h_bytes])), (h_bytes, .inl (cy 0, 60, .inl v_bytes))] H := hP
    have hD : va_D A [(h_this, .inr (6, [x_newcomers, .int v_length, .int u14_place, .int u15_flaw, .ref h_bytes])), (h_bytes, .inl (cy 0, 60, .inl v_bytes))] := hD
    refine W.eq (g2 := F0 m 66 ls []) rfl ?_
    refine lv_aload_n hx hb dX7_readPerson_66 rfl (lv_at hl 2 rfl) ?_
    refine lv_bipush (v := 99) hx hb dX7_readPerson_67 (by decide) ?_
    refine cV_t (As := [.int 99]) (wr := []) C hA hP hD hS mfX7_readNumber t2_68 ts_5 t2_66 (ccX7_readNumber l D cy h_this h_bytes x_newcomers v_length u14_place u15_flaw v_bytes 99 _ hF) [0, 1] [] rfl rfl (by decide) (by decide) (by decide) PO.np 0 6 rfl rfl rfl rfl hl.1 rfl (Nat.le_of_ble_eq_true rfl) dX7_readPerson_69 ⟨Nat.le_of_ble_eq_true rfl, Nat.le_of_ble_eq_true rfl⟩ ⟨Nat.le_of_ble_eq_true rfl, Nat.le_of_ble_eq_true rfl⟩ ?_
    rintro r16 w1 H locs ⟨u17_place, u18_flaw, rfl, hF⟩ hP hD hS
    have hP : va_P D CL [(h_this, .inr (6, [x_newcomers, .int v_length, .int u17_place, .int u18_flaw, .ref h_bytes])), (h_bytes, .inl (cy 0, 60, .inl v_bytes))] H := hP
    have hD : va_D A [(h_this, .inr (6, [x_newcomers, .int v_length, .int u17_place, .int u18_flaw, .ref h_bytes])), (h_bytes, .inl (cy 0, 60, .inl v_bytes))] := hD
    refine W.eq (g2 := F0 m 72 ls [.int r16]) rfl ?_
    refine lv_istore (lv' := [(5, .int r16), (4, .int r10), (3, .int r4), (0, .ref h_this), (1, .int l1), (2, .int l2)]) hx hb dX7_readPerson_72 hl (by decide) rfl (fun ls hl => ?_)
    refine lv_aload_n hx hb dX7_readPerson_74 rfl (lv_at hl 3 rfl) ?_
    refine lv_bipush (v := 59) hx hb dX7_readPerson_75 (by decide) ?_
    refine cV_t (As := [.int 59]) (wr := []) C hA hP hD hS mfX7_readSign t2_53 ts_2 t2_51 (ccX7_readSign l D cy h_this h_bytes x_newcomers v_length u17_place u18_flaw v_bytes 59 _ hF) [0, 1] [] rfl rfl (by decide) (by decide) (by decide) PO.np 0 6 rfl rfl rfl rfl hl.1 rfl (Nat.le_of_ble_eq_true rfl) dX7_readPerson_77 ⟨Nat.le_of_ble_eq_true rfl, Nat.le_of_ble_eq_true rfl⟩ ⟨Nat.le_of_ble_eq_true rfl, Nat.le_of_ble_eq_true rfl⟩ ?_
    rintro ⟨⟩ w1 H locs ⟨u20_place, u21_flaw, rfl, hF⟩ hP hD hS
    have hP : va_P D CL [(h_this, .inr (6, [x_newcomers, .int v_length, .int u20_place, .int u21_flaw, .ref h_bytes])), (h_bytes, .inl (cy 0, 60, .inl v_bytes))] H := hP
    have hD : va_D A [(h_this, .inr (6, [x_newcomers, .int v_length, .int u20_place, .int u21_flaw, .ref h_bytes])), (h_bytes, .inl (cy 0, 60, .inl v_bytes))] := hD
    refine W.eq (g2 := F0 m 80 ls []) rfl ?_
    refine lv_aload_n hx hb dX7_readPerson_80 rfl (lv_at hl 3 rfl) ?_
    refine va_get (D := D) (ci := 6) (v := .int u21_flaw) (C := RX7) (T := TX7) (N := 5) hx hb hts inTX7 hown hK.1 hP 0 rfl rfl 3 (by decide) (hts _ t1_62) (fun _ h9 => h9) rfl dX7_readPerson_81 ?_
    refine lv_if_eq (tgt := 91) hx hb dX7_readPerson_84 (by decide) (fun c_ => ?_) (fun c_ => ?_)
    · have hF := hF.1 c_
      refine lv_iload_n hx hb dX7_readPerson_91 rfl (lv_at hl 5 rfl) ?_
      refine lv_iload_n hx hb dX7_readPerson_92 rfl (lv_at hl 4 rfl) ?_
      refine lv_iload_n hx hb dX7_readPerson_93 rfl (lv_at hl 2 rfl) ?_
      refine lv_iload hx hb dX7_readPerson_94 (lv_at hl 1 rfl) ?_
      refine lv_iload hx hb dX7_readPerson_96 (lv_at hl 0 rfl) ?_
      refine cS_t (As := [.int l2, .int l1, .int r4, .int r10, .int r16]) (wr := [(h_this, .inr (6, [x_newcomers, .int v_length, .int u20_place, .int u21_flaw, .ref h_bytes])), (h_bytes, .inl (cy 0, 60, .inl v_bytes))]) C hA hP hD hS mfX7_newPerson t2_74 t2_73 (ccX7_newPerson l D cy l2 l1 r4 r10 r16) [] [0, 1] rfl rfl (by decide) (by decide) (by decide) PO.np rfl hl.1 rfl (Nat.le_of_ble_eq_true rfl) dX7_readPerson_98 ⟨Nat.le_of_ble_eq_true rfl, Nat.le_of_ble_eq_true rfl⟩ ⟨Nat.le_of_ble_eq_true rfl, Nat.le_of_ble_eq_true rfl⟩ ?_
      rintro r w1 H locs ⟨q22, rfl, rfl⟩ hP hD hS
      have ho_q22 := kindS_ok l2
      have hP : va_P D CL [(h_this, .inr (6, [x_newcomers, .int v_length, .int u20_place, .int u21_flaw, .ref h_bytes])), (h_bytes, .inl (cy 0, 60, .inl v_bytes)), (q22, PEl (kindS l2, l1, r4, r10, r16))] H := hP
      have hD : va_D A [(h_this, .inr (6, [x_newcomers, .int v_length, .int u20_place, .int u21_flaw, .ref h_bytes])), (h_bytes, .inl (cy 0, 60, .inl v_bytes)), (q22, PEl (kindS l2, l1, r4, r10, r16))] := hD
      refine W.eq (g2 := F0 m 101 ls [.ref q22]) rfl ?_
      refine W.widen (k := 1) (n := 4) (by decide) (by decide) ?_
      exact rt_q (v := (some q22)) C hQ rfl rfl hP hD hS (Or.inr ⟨q22, (kindS l2, l1, r4, r10, r16), u20_place, u21_flaw, ho_q22, rfl, rfl, hF⟩) dX7_readPerson_101
    · have hF := hF.2 c_
      refine lv_null hx hb dX7_readPerson_87 ?_
      refine lv_goto (tgt := 101) hx hb dX7_readPerson_88 (by decide) ?_
      refine W.widen (k := 1) (n := 4) (by decide) (by decide) ?_
      exact rt_q (v := none) C hQ rfl rfl hP hD hS (Or.inl ⟨u20_place, u21_flaw, rfl, rfl, hF⟩) dX7_readPerson_101
  unfold wpX7_readPerson at hF
  refine lv_aload_n hx hb dX7_readPerson_0 rfl (lv_at hl 0 rfl) ?_
  refine lv_aload_n hx hb dX7_readPerson_1 rfl (lv_at hl 0 rfl) ?_
  refine va_get (D := D) (ci := 6) (v := .int v_place) (C := RX7) (T := TX7) (N := 5) hx hb hts inTX7 hown hK.1 hP 0 rfl rfl 2 (by decide) (hts _ t1_60) (fun _ h9 => h9) rfl dX7_readPerson_2 ?_
  refine cV_r (As := [.int v_place]) C mfX7_byteAt t2_57 ts_3 t2_55 (ccX7_byteAt l D cy h_this h_bytes x_newcomers v_length v_place v_flaw v_bytes v_place _ hF) rfl rfl (hP.sub [0, 1] rfl) PR.np hP 0 6 rfl rfl rfl rfl hl.1 rfl (Nat.le_of_ble_eq_true rfl) dX7_readPerson_5 ⟨Nat.le_of_ble_eq_true rfl, Nat.le_of_ble_eq_true rfl⟩ ⟨Nat.le_of_ble_eq_true rfl, Nat.le_of_ble_eq_true rfl⟩ ?_
  intro r1 hF
  refine W.eq (g2 := F0 m 8 ls [.int r1]) rfl ?_
  refine lv_istore_n (lv' := [(2, .int r1), (0, .ref h_this), (1, .int p0)]) hx hb dX7_readPerson_8 rfl hl (by decide) rfl (fun ls hl => ?_)
  refine lv_iload_n hx hb dX7_readPerson_9 rfl (lv_at hl 0 rfl) ?_
  refine cS_r (As := [.int r1]) C mfX7_isSort t2_64 t2_63 (ccX7_isSort l D cy r1 _ hF) rfl rfl (hP.sub [] rfl) PR.np rfl hl.1 rfl (Nat.le_of_ble_eq_true rfl) dX7_readPerson_10 ⟨Nat.le_of_ble_eq_true rfl, Nat.le_of_ble_eq_true rfl⟩ ⟨Nat.le_of_ble_eq_true rfl, Nat.le_of_ble_eq_true rfl⟩ ?_
  intro r2 hF
  refine W.eq (g2 := F0 m 13 ls [.int (bz r2)]) rfl ?_
  refine lv_if_ne (tgt := 24) hx hb dX7_readPerson_13 (by decide) (fun c_ => ?_) (fun c_ => ?_)
  · have hF := hF.1 ((bz_1 _).mp c_)
    refine lv_iload_n hx hb dX7_readPerson_24 rfl (lv_at hl 2 rfl) ?_
    refine lv_iconst (v := 3) hx hb dX7_readPerson_25 (by decide) ?_
    refine lv_icmp_lt (tgt := 34) hx hb dX7_readPerson_26 (by decide) (fun c_ => ?_) (fun c_ => ?_)
    · have hF := hF.1 c_
      exact J_34 p0 r1 v_place v_flaw _ _ ls  hP hD hS (lv_sub hl [1, 2, 0] rfl) hF
    · have hF := hF.2 c_
      refine lv_aload_n hx hb dX7_readPerson_29 rfl (lv_at hl 1 rfl) ?_
      refine lv_iconst (v := 3) hx hb dX7_readPerson_30 (by decide) ?_
      refine va_put (D := D) (ci := 6) (v := .int 3) (ty := .int) (C := RX7) (T := TX7) (N := 5) hx hb hts inTX7 tyX7 tyX7_ok nmX7 hown hK.1 hP hD hS 0 rfl rfl 3 (by decide) (hts _ t1_62) (fun _ h9 => h9) rfl (tyX7_ok 3 (by decide)) rfl rfl (Nat.le_of_ble_eq_true rfl) dX7_readPerson_31 (fun H locs hP hD hS => ?_)
      have hP : va_P D CL [(h_this, .inr (6, [x_newcomers, .int v_length, .int v_place, .int 3, .ref h_bytes])), (h_bytes, .inl (cy 0, 60, .inl v_bytes))] H := hP
      have hD : va_D A [(h_this, .inr (6, [x_newcomers, .int v_length, .int v_place, .int 3, .ref h_bytes])), (h_bytes, .inl (cy 0, 60, .inl v_bytes))] := hD
      exact J_34 p0 r1 v_place 3 _ _ ls  hP hD hS (lv_sub hl [1, 2, 0] rfl) hF
  · have hF := hF.2 ((bz_0 _).mp c_)
    refine lv_aload_n hx hb dX7_readPerson_16 rfl (lv_at hl 1 rfl) ?_
    refine lv_iconst (v := 1) hx hb dX7_readPerson_17 (by decide) ?_
    refine va_put (D := D) (ci := 6) (v := .int 1) (ty := .int) (C := RX7) (T := TX7) (N := 5) hx hb hts inTX7 tyX7 tyX7_ok nmX7 hown hK.1 hP hD hS 0 rfl rfl 3 (by decide) (hts _ t1_62) (fun _ h9 => h9) rfl (tyX7_ok 3 (by decide)) rfl rfl (Nat.le_of_ble_eq_true rfl) dX7_readPerson_18 (fun H locs hP hD hS => ?_)
    have hP : va_P D CL [(h_this, .inr (6, [x_newcomers, .int v_length, .int v_place, .int 1, .ref h_bytes])), (h_bytes, .inl (cy 0, 60, .inl v_bytes))] H := hP
    have hD : va_D A [(h_this, .inr (6, [x_newcomers, .int v_length, .int v_place, .int 1, .ref h_bytes])), (h_bytes, .inl (cy 0, 60, .inl v_bytes))] := hD
    refine lv_goto (tgt := 34) hx hb dX7_readPerson_21 (by decide) ?_
    exact J_34 p0 r1 v_place 1 _ _ ls  hP hD hS (lv_sub hl [1, 2, 0] rfl) hF

def wpX7_readVillage (v_length : Int32) (v_place : Int32) (v_flaw : Int32) (v_bytes : Nat → Int32) (v_newcomers : Nat → Option Nat) (post : Int32 → Int32 → Int32 → Int32 → (Nat → Option Nat) → (List (Nat × PT)) → Prop) : Prop := wpX7_readSign 118 v_length 0 0 v_bytes (fun _ u2_place u3_flaw => wpX7_readSign 59 v_length u2_place u3_flaw v_bytes (fun _ u5_place u6_flaw => (¬ u6_flaw = 0 → (post 0 0 u5_place u6_flaw v_newcomers [])) ∧ (u6_flaw = 0 → ((v_length ≤ u5_place → (post 0 0 u5_place u6_flaw v_newcomers [])) ∧ (¬ v_length ≤ u5_place → (wpX7_readPerson 0 v_length u5_place u6_flaw v_bytes (fun r9 u7_place u8_flaw => (r9 = none → ((¬ u8_flaw = 0 → (post 0 0 u7_place u8_flaw v_newcomers [])) ∧ (u8_flaw = 0 → ((v_length ≤ u7_place → (post 0 0 u7_place u8_flaw v_newcomers [])) ∧ (¬ v_length ≤ u7_place → (wpX7_readPerson 1 v_length u7_place u8_flaw v_bytes (fun r13 u11_place u12_flaw => (r13 = none → ((¬ u12_flaw = 0 → (post 0 0 u11_place u12_flaw v_newcomers [])) ∧ (u12_flaw = 0 → ((v_length ≤ u11_place → (post 0 0 u11_place u12_flaw v_newcomers [])) ∧ (¬ v_length ≤ u11_place → (wpX7_readPerson 2 v_length u11_place u12_flaw v_bytes (fun r17 u15_place u16_flaw => (r17 = none → ((¬ u16_flaw = 0 → (post 0 0 u15_place u16_flaw v_newcomers [])) ∧ (u16_flaw = 0 → ((v_length ≤ u15_place → (post 0 0 u15_place u16_flaw v_newcomers [])) ∧ (¬ v_length ≤ u15_place → (wpX7_readPerson 3 v_length u15_place u16_flaw v_bytes (fun r21 u19_place u20_flaw => (r21 = none → (post 0 0 u19_place u20_flaw v_newcomers [])) ∧ (∀ (q22 : Nat) (tq22 : PT), r21 = some tq22 → (post 0 0 u19_place u20_flaw v_newcomers [(q22, tq22)]))))))))) ∧ (∀ (q18 : Nat) (tq18 : PT), r17 = some tq18 → ((¬ u16_flaw = 0 → (post 1 0 u15_place u16_flaw (va_up v_newcomers 2 (some q18)) [(q18, tq18)])) ∧ (u16_flaw = 0 → ((v_length ≤ u15_place → (post 1 0 u15_place u16_flaw (va_up v_newcomers 2 (some q18)) [(q18, tq18)])) ∧ (¬ v_length ≤ u15_place → (wpX7_readPerson 3 v_length u15_place u16_flaw v_bytes (fun r26 u24_place u25_flaw => (r26 = none → (post 1 0 u24_place u25_flaw (va_up v_newcomers 2 (some q18)) [(q18, tq18)])) ∧ (∀ (q27 : Nat) (tq27 : PT), r26 = some tq27 → (post 1 0 u24_place u25_flaw (va_up v_newcomers 2 (some q18)) [(q18, tq18), (q27, tq27)])))))))))))))))) ∧ (∀ (q14 : Nat) (tq14 : PT), r13 = some tq14 → ((¬ u12_flaw = 0 → (post 1 0 u11_place u12_flaw (va_up v_newcomers 1 (some q14)) [(q14, tq14)])) ∧ (u12_flaw = 0 → ((v_length ≤ u11_place → (post 1 0 u11_place u12_flaw (va_up v_newcomers 1 (some q14)) [(q14, tq14)])) ∧ (¬ v_length ≤ u11_place → (wpX7_readPerson 2 v_length u11_place u12_flaw v_bytes (fun r31 u29_place u30_flaw => (r31 = none → ((¬ u30_flaw = 0 → (post 1 0 u29_place u30_flaw (va_up v_newcomers 1 (some q14)) [(q14, tq14)])) ∧ (u30_flaw = 0 → ((v_length ≤ u29_place → (post 1 0 u29_place u30_flaw (va_up v_newcomers 1 (some q14)) [(q14, tq14)])) ∧ (¬ v_length ≤ u29_place → (wpX7_readPerson 3 v_length u29_place u30_flaw v_bytes (fun r35 u33_place u34_flaw => (r35 = none → (post 1 0 u33_place u34_flaw (va_up v_newcomers 1 (some q14)) [(q14, tq14)])) ∧ (∀ (q36 : Nat) (tq36 : PT), r35 = some tq36 → (post 1 0 u33_place u34_flaw (va_up v_newcomers 1 (some q14)) [(q14, tq14), (q36, tq36)]))))))))) ∧ (∀ (q32 : Nat) (tq32 : PT), r31 = some tq32 → ((¬ u30_flaw = 0 → (post 2 0 u29_place u30_flaw (va_up (va_up v_newcomers 1 (some q14)) 2 (some q32)) [(q14, tq14), (q32, tq32)])) ∧ (u30_flaw = 0 → ((v_length ≤ u29_place → (post 2 0 u29_place u30_flaw (va_up (va_up v_newcomers 1 (some q14)) 2 (some q32)) [(q14, tq14), (q32, tq32)])) ∧ (¬ v_length ≤ u29_place → (wpX7_readPerson 3 v_length u29_place u30_flaw v_bytes (fun r40 u38_place u39_flaw => (r40 = none → (post 2 0 u38_place u39_flaw (va_up (va_up v_newcomers 1 (some q14)) 2 (some q32)) [(q14, tq14), (q32, tq32)])) ∧ (∀ (q41 : Nat) (tq41 : PT), r40 = some tq41 → (post 2 0 u38_place u39_flaw (va_up (va_up v_newcomers 1 (some q14)) 2 (some q32)) [(q14, tq14), (q32, tq32), (q41, tq41)]))))))))))))))))))))))) ∧ (∀ (q10 : Nat) (tq10 : PT), r9 = some tq10 → ((¬ u8_flaw = 0 → (post 1 0 u7_place u8_flaw (va_up v_newcomers 0 (some q10)) [(q10, tq10)])) ∧ (u8_flaw = 0 → ((v_length ≤ u7_place → (post 1 0 u7_place u8_flaw (va_up v_newcomers 0 (some q10)) [(q10, tq10)])) ∧ (¬ v_length ≤ u7_place → (wpX7_readPerson 1 v_length u7_place u8_flaw v_bytes (fun r45 u43_place u44_flaw => (r45 = none → ((¬ u44_flaw = 0 → (post 1 0 u43_place u44_flaw (va_up v_newcomers 0 (some q10)) [(q10, tq10)])) ∧ (u44_flaw = 0 → ((v_length ≤ u43_place → (post 1 0 u43_place u44_flaw (va_up v_newcomers 0 (some q10)) [(q10, tq10)])) ∧ (¬ v_length ≤ u43_place → (wpX7_readPerson 2 v_length u43_place u44_flaw v_bytes (fun r49 u47_place u48_flaw => (r49 = none → ((¬ u48_flaw = 0 → (post 1 0 u47_place u48_flaw (va_up v_newcomers 0 (some q10)) [(q10, tq10)])) ∧ (u48_flaw = 0 → ((v_length ≤ u47_place → (post 1 0 u47_place u48_flaw (va_up v_newcomers 0 (some q10)) [(q10, tq10)])) ∧ (¬ v_length ≤ u47_place → (wpX7_readPerson 3 v_length u47_place u48_flaw v_bytes (fun r53 u51_place u52_flaw => (r53 = none → (post 1 0 u51_place u52_flaw (va_up v_newcomers 0 (some q10)) [(q10, tq10)])) ∧ (∀ (q54 : Nat) (tq54 : PT), r53 = some tq54 → (post 1 0 u51_place u52_flaw (va_up v_newcomers 0 (some q10)) [(q10, tq10), (q54, tq54)]))))))))) ∧ (∀ (q50 : Nat) (tq50 : PT), r49 = some tq50 → ((¬ u48_flaw = 0 → (post 2 0 u47_place u48_flaw (va_up (va_up v_newcomers 0 (some q10)) 2 (some q50)) [(q10, tq10), (q50, tq50)])) ∧ (u48_flaw = 0 → ((v_length ≤ u47_place → (post 2 0 u47_place u48_flaw (va_up (va_up v_newcomers 0 (some q10)) 2 (some q50)) [(q10, tq10), (q50, tq50)])) ∧ (¬ v_length ≤ u47_place → (wpX7_readPerson 3 v_length u47_place u48_flaw v_bytes (fun r58 u56_place u57_flaw => (r58 = none → (post 2 0 u56_place u57_flaw (va_up (va_up v_newcomers 0 (some q10)) 2 (some q50)) [(q10, tq10), (q50, tq50)])) ∧ (∀ (q59 : Nat) (tq59 : PT), r58 = some tq59 → (post 2 0 u56_place u57_flaw (va_up (va_up v_newcomers 0 (some q10)) 2 (some q50)) [(q10, tq10), (q50, tq50), (q59, tq59)])))))))))))))))) ∧ (∀ (q46 : Nat) (tq46 : PT), r45 = some tq46 → ((¬ u44_flaw = 0 → (post 2 0 u43_place u44_flaw (va_up (va_up v_newcomers 0 (some q10)) 1 (some q46)) [(q10, tq10), (q46, tq46)])) ∧ (u44_flaw = 0 → ((v_length ≤ u43_place → (post 2 0 u43_place u44_flaw (va_up (va_up v_newcomers 0 (some q10)) 1 (some q46)) [(q10, tq10), (q46, tq46)])) ∧ (¬ v_length ≤ u43_place → (wpX7_readPerson 2 v_length u43_place u44_flaw v_bytes (fun r63 u61_place u62_flaw => (r63 = none → ((¬ u62_flaw = 0 → (post 2 0 u61_place u62_flaw (va_up (va_up v_newcomers 0 (some q10)) 1 (some q46)) [(q10, tq10), (q46, tq46)])) ∧ (u62_flaw = 0 → ((v_length ≤ u61_place → (post 2 0 u61_place u62_flaw (va_up (va_up v_newcomers 0 (some q10)) 1 (some q46)) [(q10, tq10), (q46, tq46)])) ∧ (¬ v_length ≤ u61_place → (wpX7_readPerson 3 v_length u61_place u62_flaw v_bytes (fun r67 u65_place u66_flaw => (r67 = none → (post 2 0 u65_place u66_flaw (va_up (va_up v_newcomers 0 (some q10)) 1 (some q46)) [(q10, tq10), (q46, tq46)])) ∧ (∀ (q68 : Nat) (tq68 : PT), r67 = some tq68 → (post 2 0 u65_place u66_flaw (va_up (va_up v_newcomers 0 (some q10)) 1 (some q46)) [(q10, tq10), (q46, tq46), (q68, tq68)]))))))))) ∧ (∀ (q64 : Nat) (tq64 : PT), r63 = some tq64 → ((¬ u62_flaw = 0 → (post 3 0 u61_place u62_flaw (va_up (va_up (va_up v_newcomers 0 (some q10)) 1 (some q46)) 2 (some q64)) [(q10, tq10), (q46, tq46), (q64, tq64)])) ∧ (u62_flaw = 0 → ((v_length ≤ u61_place → (post 3 0 u61_place u62_flaw (va_up (va_up (va_up v_newcomers 0 (some q10)) 1 (some q46)) 2 (some q64)) [(q10, tq10), (q46, tq46), (q64, tq64)])) ∧ (¬ v_length ≤ u61_place → (wpX7_readPerson 3 v_length u61_place u62_flaw v_bytes (fun r72 u70_place u71_flaw => (r72 = none → (post 3 0 u70_place u71_flaw (va_up (va_up (va_up v_newcomers 0 (some q10)) 1 (some q46)) 2 (some q64)) [(q10, tq10), (q46, tq46), (q64, tq64)])) ∧ (∀ (q73 : Nat) (tq73 : PT), r72 = some tq73 → (post 3 0 u70_place u71_flaw (va_up (va_up (va_up v_newcomers 0 (some q10)) 1 (some q46)) 2 (some q64)) [(q10, tq10), (q46, tq46), (q64, tq64), (q73, tq73)]))))))))))))))))))))))))))))))
abbrev miX7_readVillage : MI := (yX7_readVillage, cX7_readVillage, 4, (some .int))
theorem mfX7_readVillage : MF miX7_readVillage 0 := ⟨t2_50, t1_4, by decide +kernel⟩
abbrev rmX7_readVillage : Room := { frames := 6, cells := 4, slots := 16, locals := 141 }
set_option maxHeartbeats 4000000 in
set_option maxRecDepth 100000 in
theorem ccX7_readVillage (l : Launch) (D : va_G) (cy : Nat → ClassId) (h_this : Nat) (h_bytes : Nat) (h_newcomers : Nat) (v_length : Int32) (v_place : Int32) (v_flaw : Int32) (v_bytes : Nat → Int32) (v_newcomers : Nat → Option Nat) (post : Int32 → Int32 → Int32 → Int32 → (Nat → Option Nat) → (List (Nat × PT)) → Prop) (hF : wpX7_readVillage v_length v_place v_flaw v_bytes v_newcomers post) : Ct l D cy miX7_readVillage rmX7_readVillage emI NP [.ref h_this] [(h_this, .inr (6, [.ref h_newcomers, .int v_length, .int v_place, .int v_flaw, .ref h_bytes])), (h_bytes, .inl (cy 0, 60, .inl v_bytes)), (h_newcomers, .inl (cy 3, 3, .inr (.inr (.inr (.inr v_newcomers)))))] (fun r w1 => ∃ (w_length : Int32) (w_place : Int32) (w_flaw : Int32) (w_newcomers : Nat → Option Nat) (ns : List (Nat × PT)), NSok ns ∧ w1 = [(h_this, .inr (6, [.ref h_newcomers, .int w_length, .int w_place, .int w_flaw, .ref h_bytes])), (h_bytes, .inl (cy 0, 60, .inl v_bytes)), (h_newcomers, .inl (cy 3, 3, .inr (.inr (.inr (.inr w_newcomers)))))] ++ nsW ns ∧ post r w_length w_place w_flaw w_newcomers ns) := by
  refine Ct.of (by decide) (Nat.le_of_ble_eq_true rfl) ?_
  intro p e s m args below meth c A ls Q C hQ hA hI hP hD hS hl
  obtain ⟨hx, hb, hr, hml, hown, hts, hK, hlk, hnm⟩ := id C
  have hb : c.code = cX7_readVillage := hb
  have hml : c.maxLocals = 4 := hml
  have hown : s.vm.findClass RX7 = some m.cls := hown
  have hl : lv_has ls 4 [(0, .ref h_this)] := hl
  unfold wpX7_readVillage at hF
  refine lv_aload_n hx hb dX7_readVillage_0 rfl (lv_at hl 0 rfl) ?_
  refine lv_iconst (v := 0) hx hb dX7_readVillage_1 (by decide) ?_
  refine va_put (D := D) (ci := 6) (v := .int 0) (ty := .int) (C := RX7) (T := TX7) (N := 5) hx hb hts inTX7 tyX7 tyX7_ok nmX7 hown hK.1 hP hD hS 0 rfl rfl 2 (by decide) (hts _ t1_60) (fun _ h9 => h9) rfl (tyX7_ok 2 (by decide)) rfl rfl (Nat.le_of_ble_eq_true rfl) dX7_readVillage_2 (fun H locs hP hD hS => ?_)
  have hP : va_P D CL [(h_this, .inr (6, [.ref h_newcomers, .int v_length, .int 0, .int v_flaw, .ref h_bytes])), (h_bytes, .inl (cy 0, 60, .inl v_bytes)), (h_newcomers, .inl (cy 3, 3, .inr (.inr (.inr (.inr v_newcomers)))))] H := hP
  have hD : va_D A [(h_this, .inr (6, [.ref h_newcomers, .int v_length, .int 0, .int v_flaw, .ref h_bytes])), (h_bytes, .inl (cy 0, 60, .inl v_bytes)), (h_newcomers, .inl (cy 3, 3, .inr (.inr (.inr (.inr v_newcomers)))))] := hD
  refine lv_aload_n hx hb dX7_readVillage_5 rfl (lv_at hl 0 rfl) ?_
  refine lv_iconst (v := 0) hx hb dX7_readVillage_6 (by decide) ?_
  refine va_put (D := D) (ci := 6) (v := .int 0) (ty := .int) (C := RX7) (T := TX7) (N := 5) hx hb hts inTX7 tyX7 tyX7_ok nmX7 hown hK.1 hP hD hS 0 rfl rfl 3 (by decide) (hts _ t1_62) (fun _ h9 => h9) rfl (tyX7_ok 3 (by decide)) rfl rfl (Nat.le_of_ble_eq_true rfl) dX7_readVillage_7 (fun H locs hP hD hS => ?_)
  have hP : va_P D CL [(h_this, .inr (6, [.ref h_newcomers, .int v_length, .int 0, .int 0, .ref h_bytes])), (h_bytes, .inl (cy 0, 60, .inl v_bytes)), (h_newcomers, .inl (cy 3, 3, .inr (.inr (.inr (.inr v_newcomers)))))] H := hP
  have hD : va_D A [(h_this, .inr (6, [.ref h_newcomers, .int v_length, .int 0, .int 0, .ref h_bytes])), (h_bytes, .inl (cy 0, 60, .inl v_bytes)), (h_newcomers, .inl (cy 3, 3, .inr (.inr (.inr (.inr v_newcomers)))))] := hD
  refine lv_aload_n hx hb dX7_readVillage_10 rfl (lv_at hl 0 rfl) ?_
  refine lv_bipush (v := 118) hx hb dX7_readVillage_11 (by decide) ?_
  refine cV_t (As := [.int 118]) (wr := [(h_newcomers, .inl (cy 3, 3, .inr (.inr (.inr (.inr v_newcomers)))))]) C hA hP hD hS mfX7_readSign t2_53 ts_2 t2_51 (ccX7_readSign l D cy h_this h_bytes (.ref h_newcomers) v_length 0 0 v_bytes 118 _ hF) [0, 1] [2] rfl rfl (by decide) (by decide) (by decide) PO.np 0 6 rfl rfl rfl rfl hl.1 rfl (Nat.le_of_ble_eq_true rfl) dX7_readVillage_13 ⟨Nat.le_of_ble_eq_true rfl, Nat.le_of_ble_eq_true rfl⟩ ⟨Nat.le_of_ble_eq_true rfl, Nat.le_of_ble_eq_true rfl⟩ ?_
  rintro ⟨⟩ w1 H locs ⟨u2_place, u3_flaw, rfl, hF⟩ hP hD hS
  have hP : va_P D CL [(h_newcomers, .inl (cy 3, 3, .inr (.inr (.inr (.inr v_newcomers))))), (h_this, .inr (6, [.ref h_newcomers, .int v_length, .int u2_place, .int u3_flaw, .ref h_bytes])), (h_bytes, .inl (cy 0, 60, .inl v_bytes))] H := hP
  have hD : va_D A [(h_newcomers, .inl (cy 3, 3, .inr (.inr (.inr (.inr v_newcomers))))), (h_this, .inr (6, [.ref h_newcomers, .int v_length, .int u2_place, .int u3_flaw, .ref h_bytes])), (h_bytes, .inl (cy 0, 60, .inl v_bytes))] := hD
  refine W.eq (g2 := F0 m 16 ls []) rfl ?_
  refine lv_aload_n hx hb dX7_readVillage_16 rfl (lv_at hl 0 rfl) ?_
  refine lv_bipush (v := 59) hx hb dX7_readVillage_17 (by decide) ?_
  refine cV_t (As := [.int 59]) (wr := [(h_newcomers, .inl (cy 3, 3, .inr (.inr (.inr (.inr v_newcomers)))))]) C hA hP hD hS mfX7_readSign t2_53 ts_2 t2_51 (ccX7_readSign l D cy h_this h_bytes (.ref h_newcomers) v_length u2_place u3_flaw v_bytes 59 _ hF) [1, 2] [0] rfl rfl (by decide) (by decide) (by decide) PO.np 1 6 rfl rfl rfl rfl hl.1 rfl (Nat.le_of_ble_eq_true rfl) dX7_readVillage_19 ⟨Nat.le_of_ble_eq_true rfl, Nat.le_of_ble_eq_true rfl⟩ ⟨Nat.le_of_ble_eq_true rfl, Nat.le_of_ble_eq_true rfl⟩ ?_
  rintro ⟨⟩ w1 H locs ⟨u5_place, u6_flaw, rfl, hF⟩ hP hD hS
  have hP : va_P D CL [(h_newcomers, .inl (cy 3, 3, .inr (.inr (.inr (.inr v_newcomers))))), (h_this, .inr (6, [.ref h_newcomers, .int v_length, .int u5_place, .int u6_flaw, .ref h_bytes])), (h_bytes, .inl (cy 0, 60, .inl v_bytes))] H := hP
  have hD : va_D A [(h_newcomers, .inl (cy 3, 3, .inr (.inr (.inr (.inr v_newcomers))))), (h_this, .inr (6, [.ref h_newcomers, .int v_length, .int u5_place, .int u6_flaw, .ref h_bytes])), (h_bytes, .inl (cy 0, 60, .inl v_bytes))] := hD
  refine W.eq (g2 := F0 m 22 ls []) rfl ?_
  refine lv_iconst (v := 0) hx hb dX7_readVillage_22 (by decide) ?_
  refine lv_istore_n (lv' := [(1, .int 0), (0, .ref h_this)]) hx hb dX7_readVillage_23 rfl hl (by decide) rfl (fun ls hl => ?_)
  refine lv_iconst (v := 0) hx hb dX7_readVillage_24 (by decide) ?_
  refine lv_istore_n (lv' := [(2, .int 0), (1, .int 0), (0, .ref h_this)]) hx hb dX7_readVillage_25 rfl hl (by decide) rfl (fun ls hl => ?_)
  refine lv_iload_n hx hb dX7_readVillage_26 rfl (lv_at hl 0 rfl) ?_
  refine lv_iconst (v := 3) hx hb dX7_readVillage_27 (by decide) ?_
  refine lv_icmp_gt (tgt := 80) hx hb dX7_readVillage_28 (by decide) (fun c9 => absurd c9 (by decide)) (fun _ => ?_)
  refine lv_aload_n hx hb dX7_readVillage_31 rfl (lv_at hl 2 rfl) ?_
  refine va_get (D := D) (ci := 6) (v := .int u6_flaw) (C := RX7) (T := TX7) (N := 5) hx hb hts inTX7 hown hK.1 hP 1 rfl rfl 3 (by decide) (hts _ t1_62) (fun _ h9 => h9) rfl dX7_readVillage_32 ?_
  refine lv_if_ne (tgt := 80) hx hb dX7_readVillage_35 (by decide) (fun c_ => ?_) (fun c_ => ?_)
  · have hF := hF.1 c_
    refine lv_aload_n hx hb dX7_readVillage_80 rfl (lv_at hl 2 rfl) ?_
    refine lv_iconst (v := 0) hx hb dX7_readVillage_81 (by decide) ?_
    refine va_put (D := D) (ci := 6) (v := .int 0) (ty := .int) (C := RX7) (T := TX7) (N := 5) hx hb hts inTX7 tyX7 tyX7_ok nmX7 hown hK.1 hP hD hS 1 rfl rfl 1 (by decide) (hts _ t1_58) (fun _ h9 => h9) rfl (tyX7_ok 1 (by decide)) rfl rfl (Nat.le_of_ble_eq_true rfl) dX7_readVillage_82 (fun H locs hP hD hS => ?_)
    have hP : va_P D CL [(h_newcomers, .inl (cy 3, 3, .inr (.inr (.inr (.inr v_newcomers))))), (h_this, .inr (6, [.ref h_newcomers, .int 0, .int u5_place, .int u6_flaw, .ref h_bytes])), (h_bytes, .inl (cy 0, 60, .inl v_bytes))] H := hP
    have hD : va_D A [(h_newcomers, .inl (cy 3, 3, .inr (.inr (.inr (.inr v_newcomers))))), (h_this, .inr (6, [.ref h_newcomers, .int 0, .int u5_place, .int u6_flaw, .ref h_bytes])), (h_bytes, .inl (cy 0, 60, .inl v_bytes))] := hD
    refine lv_iload_n hx hb dX7_readVillage_85 rfl (lv_at hl 1 rfl) ?_
    have hP : va_P D CL [(h_this, .inr (6, [.ref h_newcomers, .int 0, .int u5_place, .int u6_flaw, .ref h_bytes])), (h_bytes, .inl (cy 0, 60, .inl v_bytes)), (h_newcomers, .inl (cy 3, 3, .inr (.inr (.inr (.inr v_newcomers)))))] H := (hP.sub [1, 2, 0] rfl)
    have hD : va_D A [(h_this, .inr (6, [.ref h_newcomers, .int 0, .int u5_place, .int u6_flaw, .ref h_bytes])), (h_bytes, .inl (cy 0, 60, .inl v_bytes)), (h_newcomers, .inl (cy 3, 3, .inr (.inr (.inr (.inr v_newcomers)))))] := (hD.sub [1, 2, 0] (by decide) rfl)
    refine W.widen (k := 4) (n := 16) (by decide) (by decide) ?_
    exact rt_i C hQ rfl hP hD hS ⟨0, u5_place, u6_flaw, v_newcomers, [], NSok_0, rfl, hF⟩ dX7_readVillage_86
  · have hF := hF.2 c_
    refine lv_aload_n hx hb dX7_readVillage_38 rfl (lv_at hl 2 rfl) ?_
    refine va_get (D := D) (ci := 6) (v := .int u5_place) (C := RX7) (T := TX7) (N := 5) hx hb hts inTX7 hown hK.1 hP 1 rfl rfl 2 (by decide) (hts _ t1_60) (fun _ h9 => h9) rfl dX7_readVillage_39 ?_
    refine lv_aload_n hx hb dX7_readVillage_42 rfl (lv_at hl 2 rfl) ?_
    refine va_get (D := D) (ci := 6) (v := .int v_length) (C := RX7) (T := TX7) (N := 5) hx hb hts inTX7 hown hK.1 hP 1 rfl rfl 1 (by decide) (hts _ t1_58) (fun _ h9 => h9) rfl dX7_readVillage_43 ?_
    refine lv_icmp_ge (tgt := 80) hx hb dX7_readVillage_46 (by decide) (fun c_ => ?_) (fun c_ => ?_)
    · have hF := hF.1 c_
      refine lv_aload_n hx hb dX7_readVillage_80 rfl (lv_at hl 2 rfl) ?_
      refine lv_iconst (v := 0) hx hb dX7_readVillage_81 (by decide) ?_
      refine va_put (D := D) (ci := 6) (v := .int 0) (ty := .int) (C := RX7) (T := TX7) (N := 5) hx hb hts inTX7 tyX7 tyX7_ok nmX7 hown hK.1 hP hD hS 1 rfl rfl 1 (by decide) (hts _ t1_58) (fun _ h9 => h9) rfl (tyX7_ok 1 (by decide)) rfl rfl (Nat.le_of_ble_eq_true rfl) dX7_readVillage_82 (fun H locs hP hD hS => ?_)
      have hP : va_P D CL [(h_newcomers, .inl (cy 3, 3, .inr (.inr (.inr (.inr v_newcomers))))), (h_this, .inr (6, [.ref h_newcomers, .int 0, .int u5_place, .int u6_flaw, .ref h_bytes])), (h_bytes, .inl (cy 0, 60, .inl v_bytes))] H := hP
      have hD : va_D A [(h_newcomers, .inl (cy 3, 3, .inr (.inr (.inr (.inr v_newcomers))))), (h_this, .inr (6, [.ref h_newcomers, .int 0, .int u5_place, .int u6_flaw, .ref h_bytes])), (h_bytes, .inl (cy 0, 60, .inl v_bytes))] := hD
      refine lv_iload_n hx hb dX7_readVillage_85 rfl (lv_at hl 1 rfl) ?_
      have hP : va_P D CL [(h_this, .inr (6, [.ref h_newcomers, .int 0, .int u5_place, .int u6_flaw, .ref h_bytes])), (h_bytes, .inl (cy 0, 60, .inl v_bytes)), (h_newcomers, .inl (cy 3, 3, .inr (.inr (.inr (.inr v_newcomers)))))] H := (hP.sub [1, 2, 0] rfl)
      have hD : va_D A [(h_this, .inr (6, [.ref h_newcomers, .int 0, .int u5_place, .int u6_flaw, .ref h_bytes])), (h_bytes, .inl (cy 0, 60, .inl v_bytes)), (h_newcomers, .inl (cy 3, 3, .inr (.inr (.inr (.inr v_newcomers)))))] := (hD.sub [1, 2, 0] (by decide) rfl)
      refine W.widen (k := 4) (n := 16) (by decide) (by decide) ?_
      exact rt_i C hQ rfl hP hD hS ⟨0, u5_place, u6_flaw, v_newcomers, [], NSok_0, rfl, hF⟩ dX7_readVillage_86
    · have hF := hF.2 c_
      refine lv_aload_n hx hb dX7_readVillage_49 rfl (lv_at hl 2 rfl) ?_
      refine lv_iload_n hx hb dX7_readVillage_50 rfl (lv_at hl 0 rfl) ?_
      refine cV_t (As := [.int 0]) (wr := [(h_newcomers, .inl (cy 3, 3, .inr (.inr (.inr (.inr v_newcomers)))))]) C hA hP hD hS mfX7_readPerson t2_61 ts_4 t2_59 (ccX7_readPerson l D cy h_this h_bytes (.ref h_newcomers) v_length u5_place u6_flaw v_bytes 0 _ hF) [1, 2] [0] rfl rfl (by decide) (by decide) (by decide) PO.np 1 6 rfl rfl rfl rfl hl.1 rfl (Nat.le_of_ble_eq_true rfl) dX7_readVillage_51 ⟨Nat.le_of_ble_eq_true rfl, Nat.le_of_ble_eq_true rfl⟩ ⟨Nat.le_of_ble_eq_true rfl, Nat.le_of_ble_eq_true rfl⟩ ?_
      rintro r w1 H locs (⟨u7_place, u8_flaw, rfl, rfl, hF⟩ | ⟨q10, tq10, u7_place, u8_flaw, ho_q10, rfl, rfl, hF⟩) hP hD hS
      · have hF := hF.1 rfl
        have hP : va_P D CL [(h_newcomers, .inl (cy 3, 3, .inr (.inr (.inr (.inr v_newcomers))))), (h_this, .inr (6, [.ref h_newcomers, .int v_length, .int u7_place, .int u8_flaw, .ref h_bytes])), (h_bytes, .inl (cy 0, 60, .inl v_bytes))] H := hP
        have hD : va_D A [(h_newcomers, .inl (cy 3, 3, .inr (.inr (.inr (.inr v_newcomers))))), (h_this, .inr (6, [.ref h_newcomers, .int v_length, .int u7_place, .int u8_flaw, .ref h_bytes])), (h_bytes, .inl (cy 0, 60, .inl v_bytes))] := hD
        refine W.eq (g2 := F0 m 54 ls [.null]) rfl ?_
        refine lv_astore_nN (lv' := [(3, .null), (2, .int 0), (1, .int 0), (0, .ref h_this)]) hx hb dX7_readVillage_54 rfl hl (by decide) rfl (fun ls hl => ?_)
        refine lv_aload_nN hx hb dX7_readVillage_55 rfl (lv_at hl 0 rfl) ?_
        refine lv_ifnullN (tgt := 74) hx hb dX7_readVillage_56 (by decide) ?_
        refine lv_iinc (v := 1) (lv' := [(2, .int 1), (3, .null), (1, .int 0), (0, .ref h_this)]) hx hb dX7_readVillage_74 hl (k := 1) rfl rfl (by decide) rfl (fun ls hl => ?_)
        refine lv_goto (tgt := 26) hx hb dX7_readVillage_77 (by decide) ?_
        refine lv_iload_n hx hb dX7_readVillage_26 rfl (lv_at hl 0 rfl) ?_
        refine lv_iconst (v := 3) hx hb dX7_readVillage_27 (by decide) ?_
        refine lv_icmp_gt (tgt := 80) hx hb dX7_readVillage_28 (by decide) (fun c9 => absurd c9 (by decide)) (fun _ => ?_)
        refine lv_aload_n hx hb dX7_readVillage_31 rfl (lv_at hl 3 rfl) ?_
        refine va_get (D := D) (ci := 6) (v := .int u8_flaw) (C := RX7) (T := TX7) (N := 5) hx hb hts inTX7 hown hK.1 hP 1 rfl rfl 3 (by decide) (hts _ t1_62) (fun _ h9 => h9) rfl dX7_readVillage_32 ?_
        refine lv_if_ne (tgt := 80) hx hb dX7_readVillage_35 (by decide) (fun c_ => ?_) (fun c_ => ?_)
        · have hF := hF.1 c_
          refine lv_aload_n hx hb dX7_readVillage_80 rfl (lv_at hl 3 rfl) ?_
          refine lv_iconst (v := 0) hx hb dX7_readVillage_81 (by decide) ?_
          refine va_put (D := D) (ci := 6) (v := .int 0) (ty := .int) (C := RX7) (T := TX7) (N := 5) hx hb hts inTX7 tyX7 tyX7_ok nmX7 hown hK.1 hP hD hS 1 rfl rfl 1 (by decide) (hts _ t1_58) (fun _ h9 => h9) rfl (tyX7_ok 1 (by decide)) rfl rfl (Nat.le_of_ble_eq_true rfl) dX7_readVillage_82 (fun H locs hP hD hS => ?_)
          have hP : va_P D CL [(h_newcomers, .inl (cy 3, 3, .inr (.inr (.inr (.inr v_newcomers))))), (h_this, .inr (6, [.ref h_newcomers, .int 0, .int u7_place, .int u8_flaw, .ref h_bytes])), (h_bytes, .inl (cy 0, 60, .inl v_bytes))] H := hP
          have hD : va_D A [(h_newcomers, .inl (cy 3, 3, .inr (.inr (.inr (.inr v_newcomers))))), (h_this, .inr (6, [.ref h_newcomers, .int 0, .int u7_place, .int u8_flaw, .ref h_bytes])), (h_bytes, .inl (cy 0, 60, .inl v_bytes))] := hD
          refine lv_iload_n hx hb dX7_readVillage_85 rfl (lv_at hl 2 rfl) ?_
          have hP : va_P D CL [(h_this, .inr (6, [.ref h_newcomers, .int 0, .int u7_place, .int u8_flaw, .ref h_bytes])), (h_bytes, .inl (cy 0, 60, .inl v_bytes)), (h_newcomers, .inl (cy 3, 3, .inr (.inr (.inr (.inr v_newcomers)))))] H := (hP.sub [1, 2, 0] rfl)
          have hD : va_D A [(h_this, .inr (6, [.ref h_newcomers, .int 0, .int u7_place, .int u8_flaw, .ref h_bytes])), (h_bytes, .inl (cy 0, 60, .inl v_bytes)), (h_newcomers, .inl (cy 3, 3, .inr (.inr (.inr (.inr v_newcomers)))))] := (hD.sub [1, 2, 0] (by decide) rfl)
          refine W.widen (k := 4) (n := 16) (by decide) (by decide) ?_
          exact rt_i C hQ rfl hP hD hS ⟨0, u7_place, u8_flaw, v_newcomers, [], NSok_0, rfl, hF⟩ dX7_readVillage_86
        · have hF := hF.2 c_
          refine lv_aload_n hx hb dX7_readVillage_38 rfl (lv_at hl 3 rfl) ?_
          refine va_get (D := D) (ci := 6) (v := .int u7_place) (C := RX7) (T := TX7) (N := 5) hx hb hts inTX7 hown hK.1 hP 1 rfl rfl 2 (by decide) (hts _ t1_60) (fun _ h9 => h9) rfl dX7_readVillage_39 ?_
          refine lv_aload_n hx hb dX7_readVillage_42 rfl (lv_at hl 3 rfl) ?_
          refine va_get (D := D) (ci := 6) (v := .int v_length) (C := RX7) (T := TX7) (N := 5) hx hb hts inTX7 hown hK.1 hP 1 rfl rfl 1 (by decide) (hts _ t1_58) (fun _ h9 => h9) rfl dX7_readVillage_43 ?_
          refine lv_icmp_ge (tgt := 80) hx hb dX7_readVillage_46 (by decide) (fun c_ => ?_) (fun c_ => ?_)
          · have hF := hF.1 c_
            refine lv_aload_n hx hb dX7_readVillage_80 rfl (lv_at hl 3 rfl) ?_
            refine lv_iconst (v := 0) hx hb dX7_readVillage_81 (by decide) ?_
            refine va_put (D := D) (ci := 6) (v := .int 0) (ty := .int) (C := RX7) (T := TX7) (N := 5) hx hb hts inTX7 tyX7 tyX7_ok nmX7 hown hK.1 hP hD hS 1 rfl rfl 1 (by decide) (hts _ t1_58) (fun _ h9 => h9) rfl (tyX7_ok 1 (by decide)) rfl rfl (Nat.le_of_ble_eq_true rfl) dX7_readVillage_82 (fun H locs hP hD hS => ?_)
            have hP : va_P D CL [(h_newcomers, .inl (cy 3, 3, .inr (.inr (.inr (.inr v_newcomers))))), (h_this, .inr (6, [.ref h_newcomers, .int 0, .int u7_place, .int u8_flaw, .ref h_bytes])), (h_bytes, .inl (cy 0, 60, .inl v_bytes))] H := hP
            have hD : va_D A [(h_newcomers, .inl (cy 3, 3, .inr (.inr (.inr (.inr v_newcomers))))), (h_this, .inr (6, [.ref h_newcomers, .int 0, .int u7_place, .int u8_flaw, .ref h_bytes])), (h_bytes, .inl (cy 0, 60, .inl v_bytes))] := hD
            refine lv_iload_n hx hb dX7_readVillage_85 rfl (lv_at hl 2 rfl) ?_
            have hP : va_P D CL [(h_this, .inr (6, [.ref h_newcomers, .int 0, .int u7_place, .int u8_flaw, .ref h_bytes])), (h_bytes, .inl (cy 0, 60, .inl v_bytes)), (h_newcomers, .inl (cy 3, 3, .inr (.inr (.inr (.inr v_newcomers)))))] H := (hP.sub [1, 2, 0] rfl)
            have hD : va_D A [(h_this, .inr (6, [.ref h_newcomers, .int 0, .int u7_place, .int u8_flaw, .ref h_bytes])), (h_bytes, .inl (cy 0, 60, .inl v_bytes)), (h_newcomers, .inl (cy 3, 3, .inr (.inr (.inr (.inr v_newcomers)))))] := (hD.sub [1, 2, 0] (by decide) rfl)
            refine W.widen (k := 4) (n := 16) (by decide) (by decide) ?_
            exact rt_i C hQ rfl hP hD hS ⟨0, u7_place, u8_flaw, v_newcomers, [], NSok_0, rfl, hF⟩ dX7_readVillage_86
          · have hF := hF.2 c_
            refine lv_aload_n hx hb dX7_readVillage_49 rfl (lv_at hl 3 rfl) ?_
            refine lv_iload_n hx hb dX7_readVillage_50 rfl (lv_at hl 0 rfl) ?_
            refine cV_t (As := [.int 1]) (wr := [(h_newcomers, .inl (cy 3, 3, .inr (.inr (.inr (.inr v_newcomers)))))]) C hA hP hD hS mfX7_readPerson t2_61 ts_4 t2_59 (ccX7_readPerson l D cy h_this h_bytes (.ref h_newcomers) v_length u7_place u8_flaw v_bytes 1 _ hF) [1, 2] [0] rfl rfl (by decide) (by decide) (by decide) PO.np 1 6 rfl rfl rfl rfl hl.1 rfl (Nat.le_of_ble_eq_true rfl) dX7_readVillage_51 ⟨Nat.le_of_ble_eq_true rfl, Nat.le_of_ble_eq_true rfl⟩ ⟨Nat.le_of_ble_eq_true rfl, Nat.le_of_ble_eq_true rfl⟩ ?_
            rintro r w1 H locs (⟨u11_place, u12_flaw, rfl, rfl, hF⟩ | ⟨q14, tq14, u11_place, u12_flaw, ho_q14, rfl, rfl, hF⟩) hP hD hS
            · have hF := hF.1 rfl
              have hP : va_P D CL [(h_newcomers, .inl (cy 3, 3, .inr (.inr (.inr (.inr v_newcomers))))), (h_this, .inr (6, [.ref h_newcomers, .int v_length, .int u11_place, .int u12_flaw, .ref h_bytes])), (h_bytes, .inl (cy 0, 60, .inl v_bytes))] H := hP
              have hD : va_D A [(h_newcomers, .inl (cy 3, 3, .inr (.inr (.inr (.inr v_newcomers))))), (h_this, .inr (6, [.ref h_newcomers, .int v_length, .int u11_place, .int u12_flaw, .ref h_bytes])), (h_bytes, .inl (cy 0, 60, .inl v_bytes))] := hD
              refine W.eq (g2 := F0 m 54 ls [.null]) rfl ?_
              refine lv_astore_nN (lv' := [(3, .null), (2, .int 1), (1, .int 0), (0, .ref h_this)]) hx hb dX7_readVillage_54 rfl hl (by decide) rfl (fun ls hl => ?_)
              refine lv_aload_nN hx hb dX7_readVillage_55 rfl (lv_at hl 0 rfl) ?_
              refine lv_ifnullN (tgt := 74) hx hb dX7_readVillage_56 (by decide) ?_
              refine lv_iinc (v := 2) (lv' := [(2, .int 2), (3, .null), (1, .int 0), (0, .ref h_this)]) hx hb dX7_readVillage_74 hl (k := 1) rfl rfl (by decide) rfl (fun ls hl => ?_)
              refine lv_goto (tgt := 26) hx hb dX7_readVillage_77 (by decide) ?_
              refine lv_iload_n hx hb dX7_readVillage_26 rfl (lv_at hl 0 rfl) ?_
              refine lv_iconst (v := 3) hx hb dX7_readVillage_27 (by decide) ?_
              refine lv_icmp_gt (tgt := 80) hx hb dX7_readVillage_28 (by decide) (fun c9 => absurd c9 (by decide)) (fun _ => ?_)
              refine lv_aload_n hx hb dX7_readVillage_31 rfl (lv_at hl 3 rfl) ?_
              refine va_get (D := D) (ci := 6) (v := .int u12_flaw) (C := RX7) (T := TX7) (N := 5) hx hb hts inTX7 hown hK.1 hP 1 rfl rfl 3 (by decide) (hts _ t1_62) (fun _ h9 => h9) rfl dX7_readVillage_32 ?_
              refine lv_if_ne (tgt := 80) hx hb dX7_readVillage_35 (by decide) (fun c_ => ?_) (fun c_ => ?_)
              · have hF := hF.1 c_
                refine lv_aload_n hx hb dX7_readVillage_80 rfl (lv_at hl 3 rfl) ?_
                refine lv_iconst (v := 0) hx hb dX7_readVillage_81 (by decide) ?_
                refine va_put (D := D) (ci := 6) (v := .int 0) (ty := .int) (C := RX7) (T := TX7) (N := 5) hx hb hts inTX7 tyX7 tyX7_ok nmX7 hown hK.1 hP hD hS 1 rfl rfl 1 (by decide) (hts _ t1_58) (fun _ h9 => h9) rfl (tyX7_ok 1 (by decide)) rfl rfl (Nat.le_of_ble_eq_true rfl) dX7_readVillage_82 (fun H locs hP hD hS => ?_)
                have hP : va_P D CL [(h_newcomers, .inl (cy 3, 3, .inr (.inr (.inr (.inr v_newcomers))))), (h_this, .inr (6, [.ref h_newcomers, .int 0, .int u11_place, .int u12_flaw, .ref h_bytes])), (h_bytes, .inl (cy 0, 60, .inl v_bytes))] H := hP
                have hD : va_D A [(h_newcomers, .inl (cy 3, 3, .inr (.inr (.inr (.inr v_newcomers))))), (h_this, .inr (6, [.ref h_newcomers, .int 0, .int u11_place, .int u12_flaw, .ref h_bytes])), (h_bytes, .inl (cy 0, 60, .inl v_bytes))] := hD
                refine lv_iload_n hx hb dX7_readVillage_85 rfl (lv_at hl 2 rfl) ?_
                have hP : va_P D CL [(h_this, .inr (6, [.ref h_newcomers, .int 0, .int u11_place, .int u12_flaw, .ref h_bytes])), (h_bytes, .inl (cy 0, 60, .inl v_bytes)), (h_newcomers, .inl (cy 3, 3, .inr (.inr (.inr (.inr v_newcomers)))))] H := (hP.sub [1, 2, 0] rfl)
                have hD : va_D A [(h_this, .inr (6, [.ref h_newcomers, .int 0, .int u11_place, .int u12_flaw, .ref h_bytes])), (h_bytes, .inl (cy 0, 60, .inl v_bytes)), (h_newcomers, .inl (cy 3, 3, .inr (.inr (.inr (.inr v_newcomers)))))] := (hD.sub [1, 2, 0] (by decide) rfl)
                refine W.widen (k := 4) (n := 16) (by decide) (by decide) ?_
                exact rt_i C hQ rfl hP hD hS ⟨0, u11_place, u12_flaw, v_newcomers, [], NSok_0, rfl, hF⟩ dX7_readVillage_86
              · have hF := hF.2 c_
                refine lv_aload_n hx hb dX7_readVillage_38 rfl (lv_at hl 3 rfl) ?_
                refine va_get (D := D) (ci := 6) (v := .int u11_place) (C := RX7) (T := TX7) (N := 5) hx hb hts inTX7 hown hK.1 hP 1 rfl rfl 2 (by decide) (hts _ t1_60) (fun _ h9 => h9) rfl dX7_readVillage_39 ?_
                refine lv_aload_n hx hb dX7_readVillage_42 rfl (lv_at hl 3 rfl) ?_
                refine va_get (D := D) (ci := 6) (v := .int v_length) (C := RX7) (T := TX7) (N := 5) hx hb hts inTX7 hown hK.1 hP 1 rfl rfl 1 (by decide) (hts _ t1_58) (fun _ h9 => h9) rfl dX7_readVillage_43 ?_
                refine lv_icmp_ge (tgt := 80) hx hb dX7_readVillage_46 (by decide) (fun c_ => ?_) (fun c_ => ?_)
                · have hF := hF.1 c_
                  refine lv_aload_n hx hb dX7_readVillage_80 rfl (lv_at hl 3 rfl) ?_
                  refine lv_iconst (v := 0) hx hb dX7_readVillage_81 (by decide) ?_
                  refine va_put (D := D) (ci := 6) (v := .int 0) (ty := .int) (C := RX7) (T := TX7) (N := 5) hx hb hts inTX7 tyX7 tyX7_ok nmX7 hown hK.1 hP hD hS 1 rfl rfl 1 (by decide) (hts _ t1_58) (fun _ h9 => h9) rfl (tyX7_ok 1 (by decide)) rfl rfl (Nat.le_of_ble_eq_true rfl) dX7_readVillage_82 (fun H locs hP hD hS => ?_)
                  have hP : va_P D CL [(h_newcomers, .inl (cy 3, 3, .inr (.inr (.inr (.inr v_newcomers))))), (h_this, .inr (6, [.ref h_newcomers, .int 0, .int u11_place, .int u12_flaw, .ref h_bytes])), (h_bytes, .inl (cy 0, 60, .inl v_bytes))] H := hP
                  have hD : va_D A [(h_newcomers, .inl (cy 3, 3, .inr (.inr (.inr (.inr v_newcomers))))), (h_this, .inr (6, [.ref h_newcomers, .int 0, .int u11_place, .int u12_flaw, .ref h_bytes])), (h_bytes, .inl (cy 0, 60, .inl v_bytes))] := hD
                  refine lv_iload_n hx hb dX7_readVillage_85 rfl (lv_at hl 2 rfl) ?_
                  have hP : va_P D CL [(h_this, .inr (6, [.ref h_newcomers, .int 0, .int u11_place, .int u12_flaw, .ref h_bytes])), (h_bytes, .inl (cy 0, 60, .inl v_bytes)), (h_newcomers, .inl (cy 3, 3, .inr (.inr (.inr (.inr v_newcomers)))))] H := (hP.sub [1, 2, 0] rfl)
                  have hD : va_D A [(h_this, .inr (6, [.ref h_newcomers, .int 0, .int u11_place, .int u12_flaw, .ref h_bytes])), (h_bytes, .inl (cy 0, 60, .inl v_bytes)), (h_newcomers, .inl (cy 3, 3, .inr (.inr (.inr (.inr v_newcomers)))))] := (hD.sub [1, 2, 0] (by decide) rfl)
                  refine W.widen (k := 4) (n := 16) (by decide) (by decide) ?_
                  exact rt_i C hQ rfl hP hD hS ⟨0, u11_place, u12_flaw, v_newcomers, [], NSok_0, rfl, hF⟩ dX7_readVillage_86
                · have hF := hF.2 c_
                  refine lv_aload_n hx hb dX7_readVillage_49 rfl (lv_at hl 3 rfl) ?_
                  refine lv_iload_n hx hb dX7_readVillage_50 rfl (lv_at hl 0 rfl) ?_
                  refine cV_t (As := [.int 2]) (wr := [(h_newcomers, .inl (cy 3, 3, .inr (.inr (.inr (.inr v_newcomers)))))]) C hA hP hD hS mfX7_readPerson t2_61 ts_4 t2_59 (ccX7_readPerson l D cy h_this h_bytes (.ref h_newcomers) v_length u11_place u12_flaw v_bytes 2 _ hF) [1, 2] [0] rfl rfl (by decide) (by decide) (by decide) PO.np 1 6 rfl rfl rfl rfl hl.1 rfl (Nat.le_of_ble_eq_true rfl) dX7_readVillage_51 ⟨Nat.le_of_ble_eq_true rfl, Nat.le_of_ble_eq_true rfl⟩ ⟨Nat.le_of_ble_eq_true rfl, Nat.le_of_ble_eq_true rfl⟩ ?_
                  rintro r w1 H locs (⟨u15_place, u16_flaw, rfl, rfl, hF⟩ | ⟨q18, tq18, u15_place, u16_flaw, ho_q18, rfl, rfl, hF⟩) hP hD hS
                  · have hF := hF.1 rfl
                    have hP : va_P D CL [(h_newcomers, .inl (cy 3, 3, .inr (.inr (.inr (.inr v_newcomers))))), (h_this, .inr (6, [.ref h_newcomers, .int v_length, .int u15_place, .int u16_flaw, .ref h_bytes])), (h_bytes, .inl (cy 0, 60, .inl v_bytes))] H := hP
                    have hD : va_D A [(h_newcomers, .inl (cy 3, 3, .inr (.inr (.inr (.inr v_newcomers))))), (h_this, .inr (6, [.ref h_newcomers, .int v_length, .int u15_place, .int u16_flaw, .ref h_bytes])), (h_bytes, .inl (cy 0, 60, .inl v_bytes))] := hD
                    refine W.eq (g2 := F0 m 54 ls [.null]) rfl ?_
                    refine lv_astore_nN (lv' := [(3, .null), (2, .int 2), (1, .int 0), (0, .ref h_this)]) hx hb dX7_readVillage_54 rfl hl (by decide) rfl (fun ls hl => ?_)
                    refine lv_aload_nN hx hb dX7_readVillage_55 rfl (lv_at hl 0 rfl) ?_
                    refine lv_ifnullN (tgt := 74) hx hb dX7_readVillage_56 (by decide) ?_
                    refine lv_iinc (v := 3) (lv' := [(2, .int 3), (3, .null), (1, .int 0), (0, .ref h_this)]) hx hb dX7_readVillage_74 hl (k := 1) rfl rfl (by decide) rfl (fun ls hl => ?_)
                    refine lv_goto (tgt := 26) hx hb dX7_readVillage_77 (by decide) ?_
                    refine lv_iload_n hx hb dX7_readVillage_26 rfl (lv_at hl 0 rfl) ?_
                    refine lv_iconst (v := 3) hx hb dX7_readVillage_27 (by decide) ?_
                    refine lv_icmp_gt (tgt := 80) hx hb dX7_readVillage_28 (by decide) (fun c9 => absurd c9 (by decide)) (fun _ => ?_)
                    refine lv_aload_n hx hb dX7_readVillage_31 rfl (lv_at hl 3 rfl) ?_
                    refine va_get (D := D) (ci := 6) (v := .int u16_flaw) (C := RX7) (T := TX7) (N := 5) hx hb hts inTX7 hown hK.1 hP 1 rfl rfl 3 (by decide) (hts _ t1_62) (fun _ h9 => h9) rfl dX7_readVillage_32 ?_
                    refine lv_if_ne (tgt := 80) hx hb dX7_readVillage_35 (by decide) (fun c_ => ?_) (fun c_ => ?_)
                    · have hF := hF.1 c_
                      refine lv_aload_n hx hb dX7_readVillage_80 rfl (lv_at hl 3 rfl) ?_
                      refine lv_iconst (v := 0) hx hb dX7_readVillage_81 (by decide) ?_
                      refine va_put (D := D) (ci := 6) (v := .int 0) (ty := .int) (C := RX7) (T := TX7) (N := 5) hx hb hts inTX7 tyX7 tyX7_ok nmX7 hown hK.1 hP hD hS 1 rfl rfl 1 (by decide) (hts _ t1_58) (fun _ h9 => h9) rfl (tyX7_ok 1 (by decide)) rfl rfl (Nat.le_of_ble_eq_true rfl) dX7_readVillage_82 (fun H locs hP hD hS => ?_)
                      have hP : va_P D CL [(h_newcomers, .inl (cy 3, 3, .inr (.inr (.inr (.inr v_newcomers))))), (h_this, .inr (6, [.ref h_newcomers, .int 0, .int u15_place, .int u16_flaw, .ref h_bytes])), (h_bytes, .inl (cy 0, 60, .inl v_bytes))] H := hP
                      have hD : va_D A [(h_newcomers, .inl (cy 3, 3, .inr (.inr (.inr (.inr v_newcomers))))), (h_this, .inr (6, [.ref h_newcomers, .int 0, .int u15_place, .int u16_flaw, .ref h_bytes])), (h_bytes, .inl (cy 0, 60, .inl v_bytes))] := hD
                      refine lv_iload_n hx hb dX7_readVillage_85 rfl (lv_at hl 2 rfl) ?_
                      have hP : va_P D CL [(h_this, .inr (6, [.ref h_newcomers, .int 0, .int u15_place, .int u16_flaw, .ref h_bytes])), (h_bytes, .inl (cy 0, 60, .inl v_bytes)), (h_newcomers, .inl (cy 3, 3, .inr (.inr (.inr (.inr v_newcomers)))))] H := (hP.sub [1, 2, 0] rfl)
                      have hD : va_D A [(h_this, .inr (6, [.ref h_newcomers, .int 0, .int u15_place, .int u16_flaw, .ref h_bytes])), (h_bytes, .inl (cy 0, 60, .inl v_bytes)), (h_newcomers, .inl (cy 3, 3, .inr (.inr (.inr (.inr v_newcomers)))))] := (hD.sub [1, 2, 0] (by decide) rfl)
                      refine W.widen (k := 4) (n := 16) (by decide) (by decide) ?_
                      exact rt_i C hQ rfl hP hD hS ⟨0, u15_place, u16_flaw, v_newcomers, [], NSok_0, rfl, hF⟩ dX7_readVillage_86
                    · have hF := hF.2 c_
                      refine lv_aload_n hx hb dX7_readVillage_38 rfl (lv_at hl 3 rfl) ?_
                      refine va_get (D := D) (ci := 6) (v := .int u15_place) (C := RX7) (T := TX7) (N := 5) hx hb hts inTX7 hown hK.1 hP 1 rfl rfl 2 (by decide) (hts _ t1_60) (fun _ h9 => h9) rfl dX7_readVillage_39 ?_
                      refine lv_aload_n hx hb dX7_readVillage_42 rfl (lv_at hl 3 rfl) ?_
                      refine va_get (D := D) (ci := 6) (v := .int v_length) (C := RX7) (T := TX7) (N := 5) hx hb hts inTX7 hown hK.1 hP 1 rfl rfl 1 (by decide) (hts _ t1_58) (fun _ h9 => h9) rfl dX7_readVillage_43 ?_
                      refine lv_icmp_ge (tgt := 80) hx hb dX7_readVillage_46 (by decide) (fun c_ => ?_) (fun c_ => ?_)
                      · have hF := hF.1 c_
                        refine lv_aload_n hx hb dX7_readVillage_80 rfl (lv_at hl 3 rfl) ?_
                        refine lv_iconst (v := 0) hx hb dX7_readVillage_81 (by decide) ?_
                        refine va_put (D := D) (ci := 6) (v := .int 0) (ty := .int) (C := RX7) (T := TX7) (N := 5) hx hb hts inTX7 tyX7 tyX7_ok nmX7 hown hK.1 hP hD hS 1 rfl rfl 1 (by decide) (hts _ t1_58) (fun _ h9 => h9) rfl (tyX7_ok 1 (by decide)) rfl rfl (Nat.le_of_ble_eq_true rfl) dX7_readVillage_82 (fun H locs hP hD hS => ?_)
                        have hP : va_P D CL [(h_newcomers, .inl (cy 3, 3, .inr (.inr (.inr (.inr v_newcomers))))), (h_this, .inr (6, [.ref h_newcomers, .int 0, .int u15_place, .int u16_flaw, .ref h_bytes])), (h_bytes, .inl (cy 0, 60, .inl v_bytes))] H := hP
                        have hD : va_D A [(h_newcomers, .inl (cy 3, 3, .inr (.inr (.inr (.inr v_newcomers))))), (h_this, .inr (6, [.ref h_newcomers, .int 0, .int u15_place, .int u16_flaw, .ref h_bytes])), (h_bytes, .inl (cy 0, 60, .inl v_bytes))] := hD
                        refine lv_iload_n hx hb dX7_readVillage_85 rfl (lv_at hl 2 rfl) ?_
                        have hP : va_P D CL [(h_this, .inr (6, [.ref h_newcomers, .int 0, .int u15_place, .int u16_flaw, .ref h_bytes])), (h_bytes, .inl (cy 0, 60, .inl v_bytes)), (h_newcomers, .inl (cy 3, 3, .inr (.inr (.inr (.inr v_newcomers)))))] H := (hP.sub [1, 2, 0] rfl)
                        have hD : va_D A [(h_this, .inr (6, [.ref h_newcomers, .int 0, .int u15_place, .int u16_flaw, .ref h_bytes])), (h_bytes, .inl (cy 0, 60, .inl v_bytes)), (h_newcomers, .inl (cy 3, 3, .inr (.inr (.inr (.inr v_newcomers)))))] := (hD.sub [1, 2, 0] (by decide) rfl)
                        refine W.widen (k := 4) (n := 16) (by decide) (by decide) ?_
                        exact rt_i C hQ rfl hP hD hS ⟨0, u15_place, u16_flaw, v_newcomers, [], NSok_0, rfl, hF⟩ dX7_readVillage_86
                      · have hF := hF.2 c_
                        refine lv_aload_n hx hb dX7_readVillage_49 rfl (lv_at hl 3 rfl) ?_
                        refine lv_iload_n hx hb dX7_readVillage_50 rfl (lv_at hl 0 rfl) ?_
                        refine cV_t (As := [.int 3]) (wr := [(h_newcomers, .inl (cy 3, 3, .inr (.inr (.inr (.inr v_newcomers)))))]) C hA hP hD hS mfX7_readPerson t2_61 ts_4 t2_59 (ccX7_readPerson l D cy h_this h_bytes (.ref h_newcomers) v_length u15_place u16_flaw v_bytes 3 _ hF) [1, 2] [0] rfl rfl (by decide) (by decide) (by decide) PO.np 1 6 rfl rfl rfl rfl hl.1 rfl (Nat.le_of_ble_eq_true rfl) dX7_readVillage_51 ⟨Nat.le_of_ble_eq_true rfl, Nat.le_of_ble_eq_true rfl⟩ ⟨Nat.le_of_ble_eq_true rfl, Nat.le_of_ble_eq_true rfl⟩ ?_
                        rintro r w1 H locs (⟨u19_place, u20_flaw, rfl, rfl, hF⟩ | ⟨q22, tq22, u19_place, u20_flaw, ho_q22, rfl, rfl, hF⟩) hP hD hS
                        · have hF := hF.1 rfl
                          have hP : va_P D CL [(h_newcomers, .inl (cy 3, 3, .inr (.inr (.inr (.inr v_newcomers))))), (h_this, .inr (6, [.ref h_newcomers, .int v_length, .int u19_place, .int u20_flaw, .ref h_bytes])), (h_bytes, .inl (cy 0, 60, .inl v_bytes))] H := hP
                          have hD : va_D A [(h_newcomers, .inl (cy 3, 3, .inr (.inr (.inr (.inr v_newcomers))))), (h_this, .inr (6, [.ref h_newcomers, .int v_length, .int u19_place, .int u20_flaw, .ref h_bytes])), (h_bytes, .inl (cy 0, 60, .inl v_bytes))] := hD
                          refine W.eq (g2 := F0 m 54 ls [.null]) rfl ?_
                          refine lv_astore_nN (lv' := [(3, .null), (2, .int 3), (1, .int 0), (0, .ref h_this)]) hx hb dX7_readVillage_54 rfl hl (by decide) rfl (fun ls hl => ?_)
                          refine lv_aload_nN hx hb dX7_readVillage_55 rfl (lv_at hl 0 rfl) ?_
                          refine lv_ifnullN (tgt := 74) hx hb dX7_readVillage_56 (by decide) ?_
                          refine lv_iinc (v := 4) (lv' := [(2, .int 4), (3, .null), (1, .int 0), (0, .ref h_this)]) hx hb dX7_readVillage_74 hl (k := 1) rfl rfl (by decide) rfl (fun ls hl => ?_)
                          refine lv_goto (tgt := 26) hx hb dX7_readVillage_77 (by decide) ?_
                          refine lv_iload_n hx hb dX7_readVillage_26 rfl (lv_at hl 0 rfl) ?_
                          refine lv_iconst (v := 3) hx hb dX7_readVillage_27 (by decide) ?_
                          refine lv_icmp_gt (tgt := 80) hx hb dX7_readVillage_28 (by decide) (fun _ => ?_) (fun c9 => absurd (by decide) c9)
                          refine lv_aload_n hx hb dX7_readVillage_80 rfl (lv_at hl 3 rfl) ?_
                          refine lv_iconst (v := 0) hx hb dX7_readVillage_81 (by decide) ?_
                          refine va_put (D := D) (ci := 6) (v := .int 0) (ty := .int) (C := RX7) (T := TX7) (N := 5) hx hb hts inTX7 tyX7 tyX7_ok nmX7 hown hK.1 hP hD hS 1 rfl rfl 1 (by decide) (hts _ t1_58) (fun _ h9 => h9) rfl (tyX7_ok 1 (by decide)) rfl rfl (Nat.le_of_ble_eq_true rfl) dX7_readVillage_82 (fun H locs hP hD hS => ?_)
                          have hP : va_P D CL [(h_newcomers, .inl (cy 3, 3, .inr (.inr (.inr (.inr v_newcomers))))), (h_this, .inr (6, [.ref h_newcomers, .int 0, .int u19_place, .int u20_flaw, .ref h_bytes])), (h_bytes, .inl (cy 0, 60, .inl v_bytes))] H := hP
                          have hD : va_D A [(h_newcomers, .inl (cy 3, 3, .inr (.inr (.inr (.inr v_newcomers))))), (h_this, .inr (6, [.ref h_newcomers, .int 0, .int u19_place, .int u20_flaw, .ref h_bytes])), (h_bytes, .inl (cy 0, 60, .inl v_bytes))] := hD
                          refine lv_iload_n hx hb dX7_readVillage_85 rfl (lv_at hl 2 rfl) ?_
                          have hP : va_P D CL [(h_this, .inr (6, [.ref h_newcomers, .int 0, .int u19_place, .int u20_flaw, .ref h_bytes])), (h_bytes, .inl (cy 0, 60, .inl v_bytes)), (h_newcomers, .inl (cy 3, 3, .inr (.inr (.inr (.inr v_newcomers)))))] H := (hP.sub [1, 2, 0] rfl)
                          have hD : va_D A [(h_this, .inr (6, [.ref h_newcomers, .int 0, .int u19_place, .int u20_flaw, .ref h_bytes])), (h_bytes, .inl (cy 0, 60, .inl v_bytes)), (h_newcomers, .inl (cy 3, 3, .inr (.inr (.inr (.inr v_newcomers)))))] := (hD.sub [1, 2, 0] (by decide) rfl)
                          refine W.widen (k := 4) (n := 16) (by decide) (by decide) ?_
                          exact rt_i C hQ rfl hP hD hS ⟨0, u19_place, u20_flaw, v_newcomers, [], NSok_0, rfl, hF⟩ dX7_readVillage_86
                        · have hF := hF.2 q22 tq22 rfl
                          have hP : va_P D CL [(h_newcomers, .inl (cy 3, 3, .inr (.inr (.inr (.inr v_newcomers))))), (h_this, .inr (6, [.ref h_newcomers, .int v_length, .int u19_place, .int u20_flaw, .ref h_bytes])), (h_bytes, .inl (cy 0, 60, .inl v_bytes)), (q22, PEl tq22)] H := hP
                          have hD : va_D A [(h_newcomers, .inl (cy 3, 3, .inr (.inr (.inr (.inr v_newcomers))))), (h_this, .inr (6, [.ref h_newcomers, .int v_length, .int u19_place, .int u20_flaw, .ref h_bytes])), (h_bytes, .inl (cy 0, 60, .inl v_bytes)), (q22, PEl tq22)] := hD
                          refine W.eq (g2 := F0 m 54 ls [.ref q22]) rfl ?_
                          refine lv_astore_n (lv' := [(3, .ref q22), (2, .int 3), (1, .int 0), (0, .ref h_this)]) hx hb dX7_readVillage_54 rfl hl (by decide) rfl (fun ls hl => ?_)
                          refine lv_aload_n hx hb dX7_readVillage_55 rfl (lv_at hl 0 rfl) ?_
                          refine lv_ifnull hx hb dX7_readVillage_56 ?_
                          refine lv_iload_n hx hb dX7_readVillage_59 rfl (lv_at hl 1 rfl) ?_
                          refine lv_iconst (v := 3) hx hb dX7_readVillage_60 (by decide) ?_
                          refine lv_icmp_ge (tgt := 74) hx hb dX7_readVillage_61 (by decide) (fun _ => ?_) (fun c9 => absurd (by decide) c9)
                          refine lv_iinc (v := 4) (lv' := [(2, .int 4), (3, .ref q22), (1, .int 0), (0, .ref h_this)]) hx hb dX7_readVillage_74 hl (k := 1) rfl rfl (by decide) rfl (fun ls hl => ?_)
                          refine lv_goto (tgt := 26) hx hb dX7_readVillage_77 (by decide) ?_
                          refine lv_iload_n hx hb dX7_readVillage_26 rfl (lv_at hl 0 rfl) ?_
                          refine lv_iconst (v := 3) hx hb dX7_readVillage_27 (by decide) ?_
                          refine lv_icmp_gt (tgt := 80) hx hb dX7_readVillage_28 (by decide) (fun _ => ?_) (fun c9 => absurd (by decide) c9)
                          refine lv_aload_n hx hb dX7_readVillage_80 rfl (lv_at hl 3 rfl) ?_
                          refine lv_iconst (v := 0) hx hb dX7_readVillage_81 (by decide) ?_
                          refine va_put (D := D) (ci := 6) (v := .int 0) (ty := .int) (C := RX7) (T := TX7) (N := 5) hx hb hts inTX7 tyX7 tyX7_ok nmX7 hown hK.1 hP hD hS 1 rfl rfl 1 (by decide) (hts _ t1_58) (fun _ h9 => h9) rfl (tyX7_ok 1 (by decide)) rfl rfl (Nat.le_of_ble_eq_true rfl) dX7_readVillage_82 (fun H locs hP hD hS => ?_)
                          have hP : va_P D CL [(h_newcomers, .inl (cy 3, 3, .inr (.inr (.inr (.inr v_newcomers))))), (h_this, .inr (6, [.ref h_newcomers, .int 0, .int u19_place, .int u20_flaw, .ref h_bytes])), (h_bytes, .inl (cy 0, 60, .inl v_bytes)), (q22, PEl tq22)] H := hP
                          have hD : va_D A [(h_newcomers, .inl (cy 3, 3, .inr (.inr (.inr (.inr v_newcomers))))), (h_this, .inr (6, [.ref h_newcomers, .int 0, .int u19_place, .int u20_flaw, .ref h_bytes])), (h_bytes, .inl (cy 0, 60, .inl v_bytes)), (q22, PEl tq22)] := hD
                          refine lv_iload_n hx hb dX7_readVillage_85 rfl (lv_at hl 2 rfl) ?_
                          have hP : va_P D CL [(h_this, .inr (6, [.ref h_newcomers, .int 0, .int u19_place, .int u20_flaw, .ref h_bytes])), (h_bytes, .inl (cy 0, 60, .inl v_bytes)), (h_newcomers, .inl (cy 3, 3, .inr (.inr (.inr (.inr v_newcomers))))), (q22, PEl tq22)] H := (hP.sub [1, 2, 0, 3] rfl)
                          have hD : va_D A [(h_this, .inr (6, [.ref h_newcomers, .int 0, .int u19_place, .int u20_flaw, .ref h_bytes])), (h_bytes, .inl (cy 0, 60, .inl v_bytes)), (h_newcomers, .inl (cy 3, 3, .inr (.inr (.inr (.inr v_newcomers))))), (q22, PEl tq22)] := (hD.sub [1, 2, 0, 3] (by decide) rfl)
                          refine W.widen (k := 4) (n := 16) (by decide) (by decide) ?_
                          exact rt_i C hQ rfl hP hD hS ⟨0, u19_place, u20_flaw, v_newcomers, [(q22, tq22)], (NSok_c ho_q22 NSok_0), rfl, hF⟩ dX7_readVillage_86
                  · have hF := hF.2 q18 tq18 rfl
                    have hP : va_P D CL [(h_newcomers, .inl (cy 3, 3, .inr (.inr (.inr (.inr v_newcomers))))), (h_this, .inr (6, [.ref h_newcomers, .int v_length, .int u15_place, .int u16_flaw, .ref h_bytes])), (h_bytes, .inl (cy 0, 60, .inl v_bytes)), (q18, PEl tq18)] H := hP
                    have hD : va_D A [(h_newcomers, .inl (cy 3, 3, .inr (.inr (.inr (.inr v_newcomers))))), (h_this, .inr (6, [.ref h_newcomers, .int v_length, .int u15_place, .int u16_flaw, .ref h_bytes])), (h_bytes, .inl (cy 0, 60, .inl v_bytes)), (q18, PEl tq18)] := hD
                    refine W.eq (g2 := F0 m 54 ls [.ref q18]) rfl ?_
                    refine lv_astore_n (lv' := [(3, .ref q18), (2, .int 2), (1, .int 0), (0, .ref h_this)]) hx hb dX7_readVillage_54 rfl hl (by decide) rfl (fun ls hl => ?_)
                    refine lv_aload_n hx hb dX7_readVillage_55 rfl (lv_at hl 0 rfl) ?_
                    refine lv_ifnull hx hb dX7_readVillage_56 ?_
                    refine lv_iload_n hx hb dX7_readVillage_59 rfl (lv_at hl 1 rfl) ?_
                    refine lv_iconst (v := 3) hx hb dX7_readVillage_60 (by decide) ?_
                    refine lv_icmp_ge (tgt := 74) hx hb dX7_readVillage_61 (by decide) (fun c9 => absurd c9 (by decide)) (fun _ => ?_)
                    refine lv_aload_n hx hb dX7_readVillage_64 rfl (lv_at hl 3 rfl) ?_
                    refine va_get (D := D) (ci := 6) (v := .ref h_newcomers) (C := RX7) (T := TX7) (N := 5) hx hb hts inTX7 hown hK.1 hP 1 rfl rfl 0 (by decide) (hts _ t1_56) (fun _ h9 => h9) rfl dX7_readVillage_65 ?_
                    refine lv_iload_n hx hb dX7_readVillage_68 rfl (lv_at hl 1 rfl) ?_
                    refine lv_aload_n hx hb dX7_readVillage_69 rfl (lv_at hl 0 rfl) ?_
                    refine va_astqM hx hb hK.1 hP hD hS 0 3 rfl rfl (new_any hK hP (k := 3) rfl ho_q18) (vi (by decide)) dX7_readVillage_70 (fun H locs hP hD hS => ?_)
                    have hP : va_P D CL [(h_newcomers, .inl (cy 3, 3, .inr (.inr (.inr (.inr (va_up v_newcomers 2 (some q18))))))), (h_this, .inr (6, [.ref h_newcomers, .int v_length, .int u15_place, .int u16_flaw, .ref h_bytes])), (h_bytes, .inl (cy 0, 60, .inl v_bytes)), (q18, PEl tq18)] H := hP
                    have hD : va_D A [(h_newcomers, .inl (cy 3, 3, .inr (.inr (.inr (.inr (va_up v_newcomers 2 (some q18))))))), (h_this, .inr (6, [.ref h_newcomers, .int v_length, .int u15_place, .int u16_flaw, .ref h_bytes])), (h_bytes, .inl (cy 0, 60, .inl v_bytes)), (q18, PEl tq18)] := hD
                    refine lv_iinc (v := 1) (lv' := [(1, .int 1), (3, .ref q18), (2, .int 2), (0, .ref h_this)]) hx hb dX7_readVillage_71 hl (k := 2) rfl rfl (by decide) rfl (fun ls hl => ?_)
                    refine lv_iinc (v := 3) (lv' := [(2, .int 3), (1, .int 1), (3, .ref q18), (0, .ref h_this)]) hx hb dX7_readVillage_74 hl (k := 2) rfl rfl (by decide) rfl (fun ls hl => ?_)
                    refine lv_goto (tgt := 26) hx hb dX7_readVillage_77 (by decide) ?_
                    refine lv_iload_n hx hb dX7_readVillage_26 rfl (lv_at hl 0 rfl) ?_
                    refine lv_iconst (v := 3) hx hb dX7_readVillage_27 (by decide) ?_
                    refine lv_icmp_gt (tgt := 80) hx hb dX7_readVillage_28 (by decide) (fun c9 => absurd c9 (by decide)) (fun _ => ?_)
                    refine lv_aload_n hx hb dX7_readVillage_31 rfl (lv_at hl 3 rfl) ?_
                    refine va_get (D := D) (ci := 6) (v := .int u16_flaw) (C := RX7) (T := TX7) (N := 5) hx hb hts inTX7 hown hK.1 hP 1 rfl rfl 3 (by decide) (hts _ t1_62) (fun _ h9 => h9) rfl dX7_readVillage_32 ?_
                    refine lv_if_ne (tgt := 80) hx hb dX7_readVillage_35 (by decide) (fun c_ => ?_) (fun c_ => ?_)
                    · have hF := hF.1 c_
                      refine lv_aload_n hx hb dX7_readVillage_80 rfl (lv_at hl 3 rfl) ?_
                      refine lv_iconst (v := 0) hx hb dX7_readVillage_81 (by decide) ?_
                      refine va_put (D := D) (ci := 6) (v := .int 0) (ty := .int) (C := RX7) (T := TX7) (N := 5) hx hb hts inTX7 tyX7 tyX7_ok nmX7 hown hK.1 hP hD hS 1 rfl rfl 1 (by decide) (hts _ t1_58) (fun _ h9 => h9) rfl (tyX7_ok 1 (by decide)) rfl rfl (Nat.le_of_ble_eq_true rfl) dX7_readVillage_82 (fun H locs hP hD hS => ?_)
                      have hP : va_P D CL [(h_newcomers, .inl (cy 3, 3, .inr (.inr (.inr (.inr (va_up v_newcomers 2 (some q18))))))), (h_this, .inr (6, [.ref h_newcomers, .int 0, .int u15_place, .int u16_flaw, .ref h_bytes])), (h_bytes, .inl (cy 0, 60, .inl v_bytes)), (q18, PEl tq18)] H := hP
                      have hD : va_D A [(h_newcomers, .inl (cy 3, 3, .inr (.inr (.inr (.inr (va_up v_newcomers 2 (some q18))))))), (h_this, .inr (6, [.ref h_newcomers, .int 0, .int u15_place, .int u16_flaw, .ref h_bytes])), (h_bytes, .inl (cy 0, 60, .inl v_bytes)), (q18, PEl tq18)] := hD
                      refine lv_iload_n hx hb dX7_readVillage_85 rfl (lv_at hl 1 rfl) ?_
                      have hP : va_P D CL [(h_this, .inr (6, [.ref h_newcomers, .int 0, .int u15_place, .int u16_flaw, .ref h_bytes])), (h_bytes, .inl (cy 0, 60, .inl v_bytes)), (h_newcomers, .inl (cy 3, 3, .inr (.inr (.inr (.inr (va_up v_newcomers 2 (some q18))))))), (q18, PEl tq18)] H := (hP.sub [1, 2, 0, 3] rfl)
                      have hD : va_D A [(h_this, .inr (6, [.ref h_newcomers, .int 0, .int u15_place, .int u16_flaw, .ref h_bytes])), (h_bytes, .inl (cy 0, 60, .inl v_bytes)), (h_newcomers, .inl (cy 3, 3, .inr (.inr (.inr (.inr (va_up v_newcomers 2 (some q18))))))), (q18, PEl tq18)] := (hD.sub [1, 2, 0, 3] (by decide) rfl)
                      refine W.widen (k := 4) (n := 16) (by decide) (by decide) ?_
                      exact rt_i C hQ rfl hP hD hS ⟨0, u15_place, u16_flaw, (va_up v_newcomers 2 (some q18)), [(q18, tq18)], (NSok_c ho_q18 NSok_0), rfl, hF⟩ dX7_readVillage_86
                    · have hF := hF.2 c_
                      refine lv_aload_n hx hb dX7_readVillage_38 rfl (lv_at hl 3 rfl) ?_
                      refine va_get (D := D) (ci := 6) (v := .int u15_place) (C := RX7) (T := TX7) (N := 5) hx hb hts inTX7 hown hK.1 hP 1 rfl rfl 2 (by decide) (hts _ t1_60) (fun _ h9 => h9) rfl dX7_readVillage_39 ?_
                      refine lv_aload_n hx hb dX7_readVillage_42 rfl (lv_at hl 3 rfl) ?_
                      refine va_get (D := D) (ci := 6) (v := .int v_length) (C := RX7) (T := TX7) (N := 5) hx hb hts inTX7 hown hK.1 hP 1 rfl rfl 1 (by decide) (hts _ t1_58) (fun _ h9 => h9) rfl dX7_readVillage_43 ?_
                      refine lv_icmp_ge (tgt := 80) hx hb dX7_readVillage_46 (by decide) (fun c_ => ?_) (fun c_ => ?_)
                      · have hF := hF.1 c_
                        refine lv_aload_n hx hb dX7_readVillage_80 rfl (lv_at hl 3 rfl) ?_
                        refine lv_iconst (v := 0) hx hb dX7_readVillage_81 (by decide) ?_
                        refine va_put (D := D) (ci := 6) (v := .int 0) (ty := .int) (C := RX7) (T := TX7) (N := 5) hx hb hts inTX7 tyX7 tyX7_ok nmX7 hown hK.1 hP hD hS 1 rfl rfl 1 (by decide) (hts _ t1_58) (fun _ h9 => h9) rfl (tyX7_ok 1 (by decide)) rfl rfl (Nat.le_of_ble_eq_true rfl) dX7_readVillage_82 (fun H locs hP hD hS => ?_)
                        have hP : va_P D CL [(h_newcomers, .inl (cy 3, 3, .inr (.inr (.inr (.inr (va_up v_newcomers 2 (some q18))))))), (h_this, .inr (6, [.ref h_newcomers, .int 0, .int u15_place, .int u16_flaw, .ref h_bytes])), (h_bytes, .inl (cy 0, 60, .inl v_bytes)), (q18, PEl tq18)] H := hP
                        have hD : va_D A [(h_newcomers, .inl (cy 3, 3, .inr (.inr (.inr (.inr (va_up v_newcomers 2 (some q18))))))), (h_this, .inr (6, [.ref h_newcomers, .int 0, .int u15_place, .int u16_flaw, .ref h_bytes])), (h_bytes, .inl (cy 0, 60, .inl v_bytes)), (q18, PEl tq18)] := hD
                        refine lv_iload_n hx hb dX7_readVillage_85 rfl (lv_at hl 1 rfl) ?_
                        have hP : va_P D CL [(h_this, .inr (6, [.ref h_newcomers, .int 0, .int u15_place, .int u16_flaw, .ref h_bytes])), (h_bytes, .inl (cy 0, 60, .inl v_bytes)), (h_newcomers, .inl (cy 3, 3, .inr (.inr (.inr (.inr (va_up v_newcomers 2 (some q18))))))), (q18, PEl tq18)] H := (hP.sub [1, 2, 0, 3] rfl)
                        have hD : va_D A [(h_this, .inr (6, [.ref h_newcomers, .int 0, .int u15_place, .int u16_flaw, .ref h_bytes])), (h_bytes, .inl (cy 0, 60, .inl v_bytes)), (h_newcomers, .inl (cy 3, 3, .inr (.inr (.inr (.inr (va_up v_newcomers 2 (some q18))))))), (q18, PEl tq18)] := (hD.sub [1, 2, 0, 3] (by decide) rfl)
                        refine W.widen (k := 4) (n := 16) (by decide) (by decide) ?_
                        exact rt_i C hQ rfl hP hD hS ⟨0, u15_place, u16_flaw, (va_up v_newcomers 2 (some q18)), [(q18, tq18)], (NSok_c ho_q18 NSok_0), rfl, hF⟩ dX7_readVillage_86
                      · have hF := hF.2 c_
                        refine lv_aload_n hx hb dX7_readVillage_49 rfl (lv_at hl 3 rfl) ?_
                        refine lv_iload_n hx hb dX7_readVillage_50 rfl (lv_at hl 0 rfl) ?_
                        refine cV_t (As := [.int 3]) (wr := [(h_newcomers, .inl (cy 3, 3, .inr (.inr (.inr (.inr (va_up v_newcomers 2 (some q18))))))), (q18, PEl tq18)]) C hA hP hD hS mfX7_readPerson t2_61 ts_4 t2_59 (ccX7_readPerson l D cy h_this h_bytes (.ref h_newcomers) v_length u15_place u16_flaw v_bytes 3 _ hF) [1, 2] [0, 3] rfl rfl (by decide) (by decide) (by decide) PO.np 1 6 rfl rfl rfl rfl hl.1 rfl (Nat.le_of_ble_eq_true rfl) dX7_readVillage_51 ⟨Nat.le_of_ble_eq_true rfl, Nat.le_of_ble_eq_true rfl⟩ ⟨Nat.le_of_ble_eq_true rfl, Nat.le_of_ble_eq_true rfl⟩ ?_
                        rintro r w1 H locs (⟨u24_place, u25_flaw, rfl, rfl, hF⟩ | ⟨q27, tq27, u24_place, u25_flaw, ho_q27, rfl, rfl, hF⟩) hP hD hS
                        · have hF := hF.1 rfl
                          have hP : va_P D CL [(h_newcomers, .inl (cy 3, 3, .inr (.inr (.inr (.inr (va_up v_newcomers 2 (some q18))))))), (q18, PEl tq18), (h_this, .inr (6, [.ref h_newcomers, .int v_length, .int u24_place, .int u25_flaw, .ref h_bytes])), (h_bytes, .inl (cy 0, 60, .inl v_bytes))] H := hP
                          have hD : va_D A [(h_newcomers, .inl (cy 3, 3, .inr (.inr (.inr (.inr (va_up v_newcomers 2 (some q18))))))), (q18, PEl tq18), (h_this, .inr (6, [.ref h_newcomers, .int v_length, .int u24_place, .int u25_flaw, .ref h_bytes])), (h_bytes, .inl (cy 0, 60, .inl v_bytes))] := hD
                          refine W.eq (g2 := F0 m 54 ls [.null]) rfl ?_
                          refine lv_astore_nN (lv' := [(3, .null), (2, .int 3), (1, .int 1), (0, .ref h_this)]) hx hb dX7_readVillage_54 rfl hl (by decide) rfl (fun ls hl => ?_)
                          refine lv_aload_nN hx hb dX7_readVillage_55 rfl (lv_at hl 0 rfl) ?_
                          refine lv_ifnullN (tgt := 74) hx hb dX7_readVillage_56 (by decide) ?_
                          refine lv_iinc (v := 4) (lv' := [(2, .int 4), (3, .null), (1, .int 1), (0, .ref h_this)]) hx hb dX7_readVillage_74 hl (k := 1) rfl rfl (by decide) rfl (fun ls hl => ?_)
                          refine lv_goto (tgt := 26) hx hb dX7_readVillage_77 (by decide) ?_
                          refine lv_iload_n hx hb dX7_readVillage_26 rfl (lv_at hl 0 rfl) ?_
                          refine lv_iconst (v := 3) hx hb dX7_readVillage_27 (by decide) ?_
                          refine lv_icmp_gt (tgt := 80) hx hb dX7_readVillage_28 (by decide) (fun _ => ?_) (fun c9 => absurd (by decide) c9)
                          refine lv_aload_n hx hb dX7_readVillage_80 rfl (lv_at hl 3 rfl) ?_
                          refine lv_iconst (v := 0) hx hb dX7_readVillage_81 (by decide) ?_
                          refine va_put (D := D) (ci := 6) (v := .int 0) (ty := .int) (C := RX7) (T := TX7) (N := 5) hx hb hts inTX7 tyX7 tyX7_ok nmX7 hown hK.1 hP hD hS 2 rfl rfl 1 (by decide) (hts _ t1_58) (fun _ h9 => h9) rfl (tyX7_ok 1 (by decide)) rfl rfl (Nat.le_of_ble_eq_true rfl) dX7_readVillage_82 (fun H locs hP hD hS => ?_)
                          have hP : va_P D CL [(h_newcomers, .inl (cy 3, 3, .inr (.inr (.inr (.inr (va_up v_newcomers 2 (some q18))))))), (q18, PEl tq18), (h_this, .inr (6, [.ref h_newcomers, .int 0, .int u24_place, .int u25_flaw, .ref h_bytes])), (h_bytes, .inl (cy 0, 60, .inl v_bytes))] H := hP
                          have hD : va_D A [(h_newcomers, .inl (cy 3, 3, .inr (.inr (.inr (.inr (va_up v_newcomers 2 (some q18))))))), (q18, PEl tq18), (h_this, .inr (6, [.ref h_newcomers, .int 0, .int u24_place, .int u25_flaw, .ref h_bytes])), (h_bytes, .inl (cy 0, 60, .inl v_bytes))] := hD
                          refine lv_iload_n hx hb dX7_readVillage_85 rfl (lv_at hl 2 rfl) ?_
                          have hP : va_P D CL [(h_this, .inr (6, [.ref h_newcomers, .int 0, .int u24_place, .int u25_flaw, .ref h_bytes])), (h_bytes, .inl (cy 0, 60, .inl v_bytes)), (h_newcomers, .inl (cy 3, 3, .inr (.inr (.inr (.inr (va_up v_newcomers 2 (some q18))))))), (q18, PEl tq18)] H := (hP.sub [2, 3, 0, 1] rfl)
                          have hD : va_D A [(h_this, .inr (6, [.ref h_newcomers, .int 0, .int u24_place, .int u25_flaw, .ref h_bytes])), (h_bytes, .inl (cy 0, 60, .inl v_bytes)), (h_newcomers, .inl (cy 3, 3, .inr (.inr (.inr (.inr (va_up v_newcomers 2 (some q18))))))), (q18, PEl tq18)] := (hD.sub [2, 3, 0, 1] (by decide) rfl)
                          refine W.widen (k := 4) (n := 16) (by decide) (by decide) ?_
                          exact rt_i C hQ rfl hP hD hS ⟨0, u24_place, u25_flaw, (va_up v_newcomers 2 (some q18)), [(q18, tq18)], (NSok_c ho_q18 NSok_0), rfl, hF⟩ dX7_readVillage_86
                        · have hF := hF.2 q27 tq27 rfl
                          have hP : va_P D CL [(h_newcomers, .inl (cy 3, 3, .inr (.inr (.inr (.inr (va_up v_newcomers 2 (some q18))))))), (q18, PEl tq18), (h_this, .inr (6, [.ref h_newcomers, .int v_length, .int u24_place, .int u25_flaw, .ref h_bytes])), (h_bytes, .inl (cy 0, 60, .inl v_bytes)), (q27, PEl tq27)] H := hP
                          have hD : va_D A [(h_newcomers, .inl (cy 3, 3, .inr (.inr (.inr (.inr (va_up v_newcomers 2 (some q18))))))), (q18, PEl tq18), (h_this, .inr (6, [.ref h_newcomers, .int v_length, .int u24_place, .int u25_flaw, .ref h_bytes])), (h_bytes, .inl (cy 0, 60, .inl v_bytes)), (q27, PEl tq27)] := hD
                          refine W.eq (g2 := F0 m 54 ls [.ref q27]) rfl ?_
                          refine lv_astore_n (lv' := [(3, .ref q27), (2, .int 3), (1, .int 1), (0, .ref h_this)]) hx hb dX7_readVillage_54 rfl hl (by decide) rfl (fun ls hl => ?_)
                          refine lv_aload_n hx hb dX7_readVillage_55 rfl (lv_at hl 0 rfl) ?_
                          refine lv_ifnull hx hb dX7_readVillage_56 ?_
                          refine lv_iload_n hx hb dX7_readVillage_59 rfl (lv_at hl 1 rfl) ?_
                          refine lv_iconst (v := 3) hx hb dX7_readVillage_60 (by decide) ?_
                          refine lv_icmp_ge (tgt := 74) hx hb dX7_readVillage_61 (by decide) (fun _ => ?_) (fun c9 => absurd (by decide) c9)
                          refine lv_iinc (v := 4) (lv' := [(2, .int 4), (3, .ref q27), (1, .int 1), (0, .ref h_this)]) hx hb dX7_readVillage_74 hl (k := 1) rfl rfl (by decide) rfl (fun ls hl => ?_)
                          refine lv_goto (tgt := 26) hx hb dX7_readVillage_77 (by decide) ?_
                          refine lv_iload_n hx hb dX7_readVillage_26 rfl (lv_at hl 0 rfl) ?_
                          refine lv_iconst (v := 3) hx hb dX7_readVillage_27 (by decide) ?_
                          refine lv_icmp_gt (tgt := 80) hx hb dX7_readVillage_28 (by decide) (fun _ => ?_) (fun c9 => absurd (by decide) c9)
                          refine lv_aload_n hx hb dX7_readVillage_80 rfl (lv_at hl 3 rfl) ?_
                          refine lv_iconst (v := 0) hx hb dX7_readVillage_81 (by decide) ?_
                          refine va_put (D := D) (ci := 6) (v := .int 0) (ty := .int) (C := RX7) (T := TX7) (N := 5) hx hb hts inTX7 tyX7 tyX7_ok nmX7 hown hK.1 hP hD hS 2 rfl rfl 1 (by decide) (hts _ t1_58) (fun _ h9 => h9) rfl (tyX7_ok 1 (by decide)) rfl rfl (Nat.le_of_ble_eq_true rfl) dX7_readVillage_82 (fun H locs hP hD hS => ?_)
                          have hP : va_P D CL [(h_newcomers, .inl (cy 3, 3, .inr (.inr (.inr (.inr (va_up v_newcomers 2 (some q18))))))), (q18, PEl tq18), (h_this, .inr (6, [.ref h_newcomers, .int 0, .int u24_place, .int u25_flaw, .ref h_bytes])), (h_bytes, .inl (cy 0, 60, .inl v_bytes)), (q27, PEl tq27)] H := hP
                          have hD : va_D A [(h_newcomers, .inl (cy 3, 3, .inr (.inr (.inr (.inr (va_up v_newcomers 2 (some q18))))))), (q18, PEl tq18), (h_this, .inr (6, [.ref h_newcomers, .int 0, .int u24_place, .int u25_flaw, .ref h_bytes])), (h_bytes, .inl (cy 0, 60, .inl v_bytes)), (q27, PEl tq27)] := hD
                          refine lv_iload_n hx hb dX7_readVillage_85 rfl (lv_at hl 2 rfl) ?_
                          have hP : va_P D CL [(h_this, .inr (6, [.ref h_newcomers, .int 0, .int u24_place, .int u25_flaw, .ref h_bytes])), (h_bytes, .inl (cy 0, 60, .inl v_bytes)), (h_newcomers, .inl (cy 3, 3, .inr (.inr (.inr (.inr (va_up v_newcomers 2 (some q18))))))), (q18, PEl tq18), (q27, PEl tq27)] H := (hP.sub [2, 3, 0, 1, 4] rfl)
                          have hD : va_D A [(h_this, .inr (6, [.ref h_newcomers, .int 0, .int u24_place, .int u25_flaw, .ref h_bytes])), (h_bytes, .inl (cy 0, 60, .inl v_bytes)), (h_newcomers, .inl (cy 3, 3, .inr (.inr (.inr (.inr (va_up v_newcomers 2 (some q18))))))), (q18, PEl tq18), (q27, PEl tq27)] := (hD.sub [2, 3, 0, 1, 4] (by decide) rfl)
                          refine W.widen (k := 4) (n := 16) (by decide) (by decide) ?_
                          exact rt_i C hQ rfl hP hD hS ⟨0, u24_place, u25_flaw, (va_up v_newcomers 2 (some q18)), [(q18, tq18), (q27, tq27)], (NSok_c ho_q18 (NSok_c ho_q27 NSok_0)), rfl, hF⟩ dX7_readVillage_86
            · have hF := hF.2 q14 tq14 rfl
              have hP : va_P D CL [(h_newcomers, .inl (cy 3, 3, .inr (.inr (.inr (.inr v_newcomers))))), (h_this, .inr (6, [.ref h_newcomers, .int v_length, .int u11_place, .int u12_flaw, .ref h_bytes])), (h_bytes, .inl (cy 0, 60, .inl v_bytes)), (q14, PEl tq14)] H := hP
              have hD : va_D A [(h_newcomers, .inl (cy 3, 3, .inr (.inr (.inr (.inr v_newcomers))))), (h_this, .inr (6, [.ref h_newcomers, .int v_length, .int u11_place, .int u12_flaw, .ref h_bytes])), (h_bytes, .inl (cy 0, 60, .inl v_bytes)), (q14, PEl tq14)] := hD
              refine W.eq (g2 := F0 m 54 ls [.ref q14]) rfl ?_
              refine lv_astore_n (lv' := [(3, .ref q14), (2, .int 1), (1, .int 0), (0, .ref h_this)]) hx hb dX7_readVillage_54 rfl hl (by decide) rfl (fun ls hl => ?_)
              refine lv_aload_n hx hb dX7_readVillage_55 rfl (lv_at hl 0 rfl) ?_
              refine lv_ifnull hx hb dX7_readVillage_56 ?_
              refine lv_iload_n hx hb dX7_readVillage_59 rfl (lv_at hl 1 rfl) ?_
              refine lv_iconst (v := 3) hx hb dX7_readVillage_60 (by decide) ?_
              refine lv_icmp_ge (tgt := 74) hx hb dX7_readVillage_61 (by decide) (fun c9 => absurd c9 (by decide)) (fun _ => ?_)
              refine lv_aload_n hx hb dX7_readVillage_64 rfl (lv_at hl 3 rfl) ?_
              refine va_get (D := D) (ci := 6) (v := .ref h_newcomers) (C := RX7) (T := TX7) (N := 5) hx hb hts inTX7 hown hK.1 hP 1 rfl rfl 0 (by decide) (hts _ t1_56) (fun _ h9 => h9) rfl dX7_readVillage_65 ?_
              refine lv_iload_n hx hb dX7_readVillage_68 rfl (lv_at hl 1 rfl) ?_
              refine lv_aload_n hx hb dX7_readVillage_69 rfl (lv_at hl 0 rfl) ?_
              refine va_astqM hx hb hK.1 hP hD hS 0 3 rfl rfl (new_any hK hP (k := 3) rfl ho_q14) (vi (by decide)) dX7_readVillage_70 (fun H locs hP hD hS => ?_)
              have hP : va_P D CL [(h_newcomers, .inl (cy 3, 3, .inr (.inr (.inr (.inr (va_up v_newcomers 1 (some q14))))))), (h_this, .inr (6, [.ref h_newcomers, .int v_length, .int u11_place, .int u12_flaw, .ref h_bytes])), (h_bytes, .inl (cy 0, 60, .inl v_bytes)), (q14, PEl tq14)] H := hP
              have hD : va_D A [(h_newcomers, .inl (cy 3, 3, .inr (.inr (.inr (.inr (va_up v_newcomers 1 (some q14))))))), (h_this, .inr (6, [.ref h_newcomers, .int v_length, .int u11_place, .int u12_flaw, .ref h_bytes])), (h_bytes, .inl (cy 0, 60, .inl v_bytes)), (q14, PEl tq14)] := hD
              refine lv_iinc (v := 1) (lv' := [(1, .int 1), (3, .ref q14), (2, .int 1), (0, .ref h_this)]) hx hb dX7_readVillage_71 hl (k := 2) rfl rfl (by decide) rfl (fun ls hl => ?_)
              refine lv_iinc (v := 2) (lv' := [(2, .int 2), (1, .int 1), (3, .ref q14), (0, .ref h_this)]) hx hb dX7_readVillage_74 hl (k := 2) rfl rfl (by decide) rfl (fun ls hl => ?_)
              refine lv_goto (tgt := 26) hx hb dX7_readVillage_77 (by decide) ?_
              refine lv_iload_n hx hb dX7_readVillage_26 rfl (lv_at hl 0 rfl) ?_
              refine lv_iconst (v := 3) hx hb dX7_readVillage_27 (by decide) ?_
              refine lv_icmp_gt (tgt := 80) hx hb dX7_readVillage_28 (by decide) (fun c9 => absurd c9 (by decide)) (fun _ => ?_)
              refine lv_aload_n hx hb dX7_readVillage_31 rfl (lv_at hl 3 rfl) ?_
              refine va_get (D := D) (ci := 6) (v := .int u12_flaw) (C := RX7) (T := TX7) (N := 5) hx hb hts inTX7 hown hK.1 hP 1 rfl rfl 3 (by decide) (hts _ t1_62) (fun _ h9 => h9) rfl dX7_readVillage_32 ?_
              refine lv_if_ne (tgt := 80) hx hb dX7_readVillage_35 (by decide) (fun c_ => ?_) (fun c_ => ?_)
              · have hF := hF.1 c_
                refine lv_aload_n hx hb dX7_readVillage_80 rfl (lv_at hl 3 rfl) ?_
                refine lv_iconst (v := 0) hx hb dX7_readVillage_81 (by decide) ?_
                refine va_put (D := D) (ci := 6) (v := .int 0) (ty := .int) (C := RX7) (T := TX7) (N := 5) hx hb hts inTX7 tyX7 tyX7_ok nmX7 hown hK.1 hP hD hS 1 rfl rfl 1 (by decide) (hts _ t1_58) (fun _ h9 => h9) rfl (tyX7_ok 1 (by decide)) rfl rfl (Nat.le_of_ble_eq_true rfl) dX7_readVillage_82 (fun H locs hP hD hS => ?_)
                have hP : va_P D CL [(h_newcomers, .inl (cy 3, 3, .inr (.inr (.inr (.inr (va_up v_newcomers 1 (some q14))))))), (h_this, .inr (6, [.ref h_newcomers, .int 0, .int u11_place, .int u12_flaw, .ref h_bytes])), (h_bytes, .inl (cy 0, 60, .inl v_bytes)), (q14, PEl tq14)] H := hP
                have hD : va_D A [(h_newcomers, .inl (cy 3, 3, .inr (.inr (.inr (.inr (va_up v_newcomers 1 (some q14))))))), (h_this, .inr (6, [.ref h_newcomers, .int 0, .int u11_place, .int u12_flaw, .ref h_bytes])), (h_bytes, .inl (cy 0, 60, .inl v_bytes)), (q14, PEl tq14)] := hD
                refine lv_iload_n hx hb dX7_readVillage_85 rfl (lv_at hl 1 rfl) ?_
                have hP : va_P D CL [(h_this, .inr (6, [.ref h_newcomers, .int 0, .int u11_place, .int u12_flaw, .ref h_bytes])), (h_bytes, .inl (cy 0, 60, .inl v_bytes)), (h_newcomers, .inl (cy 3, 3, .inr (.inr (.inr (.inr (va_up v_newcomers 1 (some q14))))))), (q14, PEl tq14)] H := (hP.sub [1, 2, 0, 3] rfl)
                have hD : va_D A [(h_this, .inr (6, [.ref h_newcomers, .int 0, .int u11_place, .int u12_flaw, .ref h_bytes])), (h_bytes, .inl (cy 0, 60, .inl v_bytes)), (h_newcomers, .inl (cy 3, 3, .inr (.inr (.inr (.inr (va_up v_newcomers 1 (some q14))))))), (q14, PEl tq14)] := (hD.sub [1, 2, 0, 3] (by decide) rfl)
                refine W.widen (k := 4) (n := 16) (by decide) (by decide) ?_
                exact rt_i C hQ rfl hP hD hS ⟨0, u11_place, u12_flaw, (va_up v_newcomers 1 (some q14)), [(q14, tq14)], (NSok_c ho_q14 NSok_0), rfl, hF⟩ dX7_readVillage_86
              · have hF := hF.2 c_
                refine lv_aload_n hx hb dX7_readVillage_38 rfl (lv_at hl 3 rfl) ?_
                refine va_get (D := D) (ci := 6) (v := .int u11_place) (C := RX7) (T := TX7) (N := 5) hx hb hts inTX7 hown hK.1 hP 1 rfl rfl 2 (by decide) (hts _ t1_60) (fun _ h9 => h9) rfl dX7_readVillage_39 ?_
                refine lv_aload_n hx hb dX7_readVillage_42 rfl (lv_at hl 3 rfl) ?_
                refine va_get (D := D) (ci := 6) (v := .int v_length) (C := RX7) (T := TX7) (N := 5) hx hb hts inTX7 hown hK.1 hP 1 rfl rfl 1 (by decide) (hts _ t1_58) (fun _ h9 => h9) rfl dX7_readVillage_43 ?_
                refine lv_icmp_ge (tgt := 80) hx hb dX7_readVillage_46 (by decide) (fun c_ => ?_) (fun c_ => ?_)
                · have hF := hF.1 c_
                  refine lv_aload_n hx hb dX7_readVillage_80 rfl (lv_at hl 3 rfl) ?_
                  refine lv_iconst (v := 0) hx hb dX7_readVillage_81 (by decide) ?_
                  refine va_put (D := D) (ci := 6) (v := .int 0) (ty := .int) (C := RX7) (T := TX7) (N := 5) hx hb hts inTX7 tyX7 tyX7_ok nmX7 hown hK.1 hP hD hS 1 rfl rfl 1 (by decide) (hts _ t1_58) (fun _ h9 => h9) rfl (tyX7_ok 1 (by decide)) rfl rfl (Nat.le_of_ble_eq_true rfl) dX7_readVillage_82 (fun H locs hP hD hS => ?_)
                  have hP : va_P D CL [(h_newcomers, .inl (cy 3, 3, .inr (.inr (.inr (.inr (va_up v_newcomers 1 (some q14))))))), (h_this, .inr (6, [.ref h_newcomers, .int 0, .int u11_place, .int u12_flaw, .ref h_bytes])), (h_bytes, .inl (cy 0, 60, .inl v_bytes)), (q14, PEl tq14)] H := hP
                  have hD : va_D A [(h_newcomers, .inl (cy 3, 3, .inr (.inr (.inr (.inr (va_up v_newcomers 1 (some q14))))))), (h_this, .inr (6, [.ref h_newcomers, .int 0, .int u11_place, .int u12_flaw, .ref h_bytes])), (h_bytes, .inl (cy 0, 60, .inl v_bytes)), (q14, PEl tq14)] := hD
                  refine lv_iload_n hx hb dX7_readVillage_85 rfl (lv_at hl 1 rfl) ?_
                  have hP : va_P D CL [(h_this, .inr (6, [.ref h_newcomers, .int 0, .int u11_place, .int u12_flaw, .ref h_bytes])), (h_bytes, .inl (cy 0, 60, .inl v_bytes)), (h_newcomers, .inl (cy 3, 3, .inr (.inr (.inr (.inr (va_up v_newcomers 1 (some q14))))))), (q14, PEl tq14)] H := (hP.sub [1, 2, 0, 3] rfl)
                  have hD : va_D A [(h_this, .inr (6, [.ref h_newcomers, .int 0, .int u11_place, .int u12_flaw, .ref h_bytes])), (h_bytes, .inl (cy 0, 60, .inl v_bytes)), (h_newcomers, .inl (cy 3, 3, .inr (.inr (.inr (.inr (va_up v_newcomers 1 (some q14))))))), (q14, PEl tq14)] := (hD.sub [1, 2, 0, 3] (by decide) rfl)
                  refine W.widen (k := 4) (n := 16) (by decide) (by decide) ?_
                  exact rt_i C hQ rfl hP hD hS ⟨0, u11_place, u12_flaw, (va_up v_newcomers 1 (some q14)), [(q14, tq14)], (NSok_c ho_q14 NSok_0), rfl, hF⟩ dX7_readVillage_86
                · have hF := hF.2 c_
                  refine lv_aload_n hx hb dX7_readVillage_49 rfl (lv_at hl 3 rfl) ?_
                  refine lv_iload_n hx hb dX7_readVillage_50 rfl (lv_at hl 0 rfl) ?_
                  refine cV_t (As := [.int 2]) (wr := [(h_newcomers, .inl (cy 3, 3, .inr (.inr (.inr (.inr (va_up v_newcomers 1 (some q14))))))), (q14, PEl tq14)]) C hA hP hD hS mfX7_readPerson t2_61 ts_4 t2_59 (ccX7_readPerson l D cy h_this h_bytes (.ref h_newcomers) v_length u11_place u12_flaw v_bytes 2 _ hF) [1, 2] [0, 3] rfl rfl (by decide) (by decide) (by decide) PO.np 1 6 rfl rfl rfl rfl hl.1 rfl (Nat.le_of_ble_eq_true rfl) dX7_readVillage_51 ⟨Nat.le_of_ble_eq_true rfl, Nat.le_of_ble_eq_true rfl⟩ ⟨Nat.le_of_ble_eq_true rfl, Nat.le_of_ble_eq_true rfl⟩ ?_
                  rintro r w1 H locs (⟨u29_place, u30_flaw, rfl, rfl, hF⟩ | ⟨q32, tq32, u29_place, u30_flaw, ho_q32, rfl, rfl, hF⟩) hP hD hS
                  · have hF := hF.1 rfl
                    have hP : va_P D CL [(h_newcomers, .inl (cy 3, 3, .inr (.inr (.inr (.inr (va_up v_newcomers 1 (some q14))))))), (q14, PEl tq14), (h_this, .inr (6, [.ref h_newcomers, .int v_length, .int u29_place, .int u30_flaw, .ref h_bytes])), (h_bytes, .inl (cy 0, 60, .inl v_bytes))] H := hP
                    have hD : va_D A [(h_newcomers, .inl (cy 3, 3, .inr (.inr (.inr (.inr (va_up v_newcomers 1 (some q14))))))), (q14, PEl tq14), (h_this, .inr (6, [.ref h_newcomers, .int v_length, .int u29_place, .int u30_flaw, .ref h_bytes])), (h_bytes, .inl (cy 0, 60, .inl v_bytes))] := hD
                    refine W.eq (g2 := F0 m 54 ls [.null]) rfl ?_
                    refine lv_astore_nN (lv' := [(3, .null), (2, .int 2), (1, .int 1), (0, .ref h_this)]) hx hb dX7_readVillage_54 rfl hl (by decide) rfl (fun ls hl => ?_)
                    refine lv_aload_nN hx hb dX7_readVillage_55 rfl (lv_at hl 0 rfl) ?_
                    refine lv_ifnullN (tgt := 74) hx hb dX7_readVillage_56 (by decide) ?_
                    refine lv_iinc (v := 3) (lv' := [(2, .int 3), (3, .null), (1, .int 1), (0, .ref h_this)]) hx hb dX7_readVillage_74 hl (k := 1) rfl rfl (by decide) rfl (fun ls hl => ?_)
                    refine lv_goto (tgt := 26) hx hb dX7_readVillage_77 (by decide) ?_
                    refine lv_iload_n hx hb dX7_readVillage_26 rfl (lv_at hl 0 rfl) ?_
                    refine lv_iconst (v := 3) hx hb dX7_readVillage_27 (by decide) ?_
                    refine lv_icmp_gt (tgt := 80) hx hb dX7_readVillage_28 (by decide) (fun c9 => absurd c9 (by decide)) (fun _ => ?_)
                    refine lv_aload_n hx hb dX7_readVillage_31 rfl (lv_at hl 3 rfl) ?_
                    refine va_get (D := D) (ci := 6) (v := .int u30_flaw) (C := RX7) (T := TX7) (N := 5) hx hb hts inTX7 hown hK.1 hP 2 rfl rfl 3 (by decide) (hts _ t1_62) (fun _ h9 => h9) rfl dX7_readVillage_32 ?_
                    refine lv_if_ne (tgt := 80) hx hb dX7_readVillage_35 (by decide) (fun c_ => ?_) (fun c_ => ?_)
                    · have hF := hF.1 c_
                      refine lv_aload_n hx hb dX7_readVillage_80 rfl (lv_at hl 3 rfl) ?_
                      refine lv_iconst (v := 0) hx hb dX7_readVillage_81 (by decide) ?_
                      refine va_put (D := D) (ci := 6) (v := .int 0) (ty := .int) (C := RX7) (T := TX7) (N := 5) hx hb hts inTX7 tyX7 tyX7_ok nmX7 hown hK.1 hP hD hS 2 rfl rfl 1 (by decide) (hts _ t1_58) (fun _ h9 => h9) rfl (tyX7_ok 1 (by decide)) rfl rfl (Nat.le_of_ble_eq_true rfl) dX7_readVillage_82 (fun H locs hP hD hS => ?_)
                      have hP : va_P D CL [(h_newcomers, .inl (cy 3, 3, .inr (.inr (.inr (.inr (va_up v_newcomers 1 (some q14))))))), (q14, PEl tq14), (h_this, .inr (6, [.ref h_newcomers, .int 0, .int u29_place, .int u30_flaw, .ref h_bytes])), (h_bytes, .inl (cy 0, 60, .inl v_bytes))] H := hP
                      have hD : va_D A [(h_newcomers, .inl (cy 3, 3, .inr (.inr (.inr (.inr (va_up v_newcomers 1 (some q14))))))), (q14, PEl tq14), (h_this, .inr (6, [.ref h_newcomers, .int 0, .int u29_place, .int u30_flaw, .ref h_bytes])), (h_bytes, .inl (cy 0, 60, .inl v_bytes))] := hD
                      refine lv_iload_n hx hb dX7_readVillage_85 rfl (lv_at hl 2 rfl) ?_
                      have hP : va_P D CL [(h_this, .inr (6, [.ref h_newcomers, .int 0, .int u29_place, .int u30_flaw, .ref h_bytes])), (h_bytes, .inl (cy 0, 60, .inl v_bytes)), (h_newcomers, .inl (cy 3, 3, .inr (.inr (.inr (.inr (va_up v_newcomers 1 (some q14))))))), (q14, PEl tq14)] H := (hP.sub [2, 3, 0, 1] rfl)
                      have hD : va_D A [(h_this, .inr (6, [.ref h_newcomers, .int 0, .int u29_place, .int u30_flaw, .ref h_bytes])), (h_bytes, .inl (cy 0, 60, .inl v_bytes)), (h_newcomers, .inl (cy 3, 3, .inr (.inr (.inr (.inr (va_up v_newcomers 1 (some q14))))))), (q14, PEl tq14)] := (hD.sub [2, 3, 0, 1] (by decide) rfl)
                      refine W.widen (k := 4) (n := 16) (by decide) (by decide) ?_
                      exact rt_i C hQ rfl hP hD hS ⟨0, u29_place, u30_flaw, (va_up v_newcomers 1 (some q14)), [(q14, tq14)], (NSok_c ho_q14 NSok_0), rfl, hF⟩ dX7_readVillage_86
                    · have hF := hF.2 c_
                      refine lv_aload_n hx hb dX7_readVillage_38 rfl (lv_at hl 3 rfl) ?_
                      refine va_get (D := D) (ci := 6) (v := .int u29_place) (C := RX7) (T := TX7) (N := 5) hx hb hts inTX7 hown hK.1 hP 2 rfl rfl 2 (by decide) (hts _ t1_60) (fun _ h9 => h9) rfl dX7_readVillage_39 ?_
                      refine lv_aload_n hx hb dX7_readVillage_42 rfl (lv_at hl 3 rfl) ?_
                      refine va_get (D := D) (ci := 6) (v := .int v_length) (C := RX7) (T := TX7) (N := 5) hx hb hts inTX7 hown hK.1 hP 2 rfl rfl 1 (by decide) (hts _ t1_58) (fun _ h9 => h9) rfl dX7_readVillage_43 ?_
                      refine lv_icmp_ge (tgt := 80) hx hb dX7_readVillage_46 (by decide) (fun c_ => ?_) (fun c_ => ?_)
                      · have hF := hF.1 c_
                        refine lv_aload_n hx hb dX7_readVillage_80 rfl (lv_at hl 3 rfl) ?_
                        refine lv_iconst (v := 0) hx hb dX7_readVillage_81 (by decide) ?_
                        refine va_put (D := D) (ci := 6) (v := .int 0) (ty := .int) (C := RX7) (T := TX7) (N := 5) hx hb hts inTX7 tyX7 tyX7_ok nmX7 hown hK.1 hP hD hS 2 rfl rfl 1 (by decide) (hts _ t1_58) (fun _ h9 => h9) rfl (tyX7_ok 1 (by decide)) rfl rfl (Nat.le_of_ble_eq_true rfl) dX7_readVillage_82 (fun H locs hP hD hS => ?_)
                        have hP : va_P D CL [(h_newcomers, .inl (cy 3, 3, .inr (.inr (.inr (.inr (va_up v_newcomers 1 (some q14))))))), (q14, PEl tq14), (h_this, .inr (6, [.ref h_newcomers, .int 0, .int u29_place, .int u30_flaw, .ref h_bytes])), (h_bytes, .inl (cy 0, 60, .inl v_bytes))] H := hP
                        have hD : va_D A [(h_newcomers, .inl (cy 3, 3, .inr (.inr (.inr (.inr (va_up v_newcomers 1 (some q14))))))), (q14, PEl tq14), (h_this, .inr (6, [.ref h_newcomers, .int 0, .int u29_place, .int u30_flaw, .ref h_bytes])), (h_bytes, .inl (cy 0, 60, .inl v_bytes))] := hD
                        refine lv_iload_n hx hb dX7_readVillage_85 rfl (lv_at hl 2 rfl) ?_
                        have hP : va_P D CL [(h_this, .inr (6, [.ref h_newcomers, .int 0, .int u29_place, .int u30_flaw, .ref h_bytes])), (h_bytes, .inl (cy 0, 60, .inl v_bytes)), (h_newcomers, .inl (cy 3, 3, .inr (.inr (.inr (.inr (va_up v_newcomers 1 (some q14))))))), (q14, PEl tq14)] H := (hP.sub [2, 3, 0, 1] rfl)
                        have hD : va_D A [(h_this, .inr (6, [.ref h_newcomers, .int 0, .int u29_place, .int u30_flaw, .ref h_bytes])), (h_bytes, .inl (cy 0, 60, .inl v_bytes)), (h_newcomers, .inl (cy 3, 3, .inr (.inr (.inr (.inr (va_up v_newcomers 1 (some q14))))))), (q14, PEl tq14)] := (hD.sub [2, 3, 0, 1] (by decide) rfl)
                        refine W.widen (k := 4) (n := 16) (by decide) (by decide) ?_
                        exact rt_i C hQ rfl hP hD hS ⟨0, u29_place, u30_flaw, (va_up v_newcomers 1 (some q14)), [(q14, tq14)], (NSok_c ho_q14 NSok_0), rfl, hF⟩ dX7_readVillage_86
                      · have hF := hF.2 c_
                        refine lv_aload_n hx hb dX7_readVillage_49 rfl (lv_at hl 3 rfl) ?_
                        refine lv_iload_n hx hb dX7_readVillage_50 rfl (lv_at hl 0 rfl) ?_
                        refine cV_t (As := [.int 3]) (wr := [(h_newcomers, .inl (cy 3, 3, .inr (.inr (.inr (.inr (va_up v_newcomers 1 (some q14))))))), (q14, PEl tq14)]) C hA hP hD hS mfX7_readPerson t2_61 ts_4 t2_59 (ccX7_readPerson l D cy h_this h_bytes (.ref h_newcomers) v_length u29_place u30_flaw v_bytes 3 _ hF) [2, 3] [0, 1] rfl rfl (by decide) (by decide) (by decide) PO.np 2 6 rfl rfl rfl rfl hl.1 rfl (Nat.le_of_ble_eq_true rfl) dX7_readVillage_51 ⟨Nat.le_of_ble_eq_true rfl, Nat.le_of_ble_eq_true rfl⟩ ⟨Nat.le_of_ble_eq_true rfl, Nat.le_of_ble_eq_true rfl⟩ ?_
                        rintro r w1 H locs (⟨u33_place, u34_flaw, rfl, rfl, hF⟩ | ⟨q36, tq36, u33_place, u34_flaw, ho_q36, rfl, rfl, hF⟩) hP hD hS
                        · have hF := hF.1 rfl
                          have hP : va_P D CL [(h_newcomers, .inl (cy 3, 3, .inr (.inr (.inr (.inr (va_up v_newcomers 1 (some q14))))))), (q14, PEl tq14), (h_this, .inr (6, [.ref h_newcomers, .int v_length, .int u33_place, .int u34_flaw, .ref h_bytes])), (h_bytes, .inl (cy 0, 60, .inl v_bytes))] H := hP
                          have hD : va_D A [(h_newcomers, .inl (cy 3, 3, .inr (.inr (.inr (.inr (va_up v_newcomers 1 (some q14))))))), (q14, PEl tq14), (h_this, .inr (6, [.ref h_newcomers, .int v_length, .int u33_place, .int u34_flaw, .ref h_bytes])), (h_bytes, .inl (cy 0, 60, .inl v_bytes))] := hD
                          refine W.eq (g2 := F0 m 54 ls [.null]) rfl ?_
                          refine lv_astore_nN (lv' := [(3, .null), (2, .int 3), (1, .int 1), (0, .ref h_this)]) hx hb dX7_readVillage_54 rfl hl (by decide) rfl (fun ls hl => ?_)
                          refine lv_aload_nN hx hb dX7_readVillage_55 rfl (lv_at hl 0 rfl) ?_
                          refine lv_ifnullN (tgt := 74) hx hb dX7_readVillage_56 (by decide) ?_
                          refine lv_iinc (v := 4) (lv' := [(2, .int 4), (3, .null), (1, .int 1), (0, .ref h_this)]) hx hb dX7_readVillage_74 hl (k := 1) rfl rfl (by decide) rfl (fun ls hl => ?_)
                          refine lv_goto (tgt := 26) hx hb dX7_readVillage_77 (by decide) ?_
                          refine lv_iload_n hx hb dX7_readVillage_26 rfl (lv_at hl 0 rfl) ?_
                          refine lv_iconst (v := 3) hx hb dX7_readVillage_27 (by decide) ?_
                          refine lv_icmp_gt (tgt := 80) hx hb dX7_readVillage_28 (by decide) (fun _ => ?_) (fun c9 => absurd (by decide) c9)
                          refine lv_aload_n hx hb dX7_readVillage_80 rfl (lv_at hl 3 rfl) ?_
                          refine lv_iconst (v := 0) hx hb dX7_readVillage_81 (by decide) ?_
                          refine va_put (D := D) (ci := 6) (v := .int 0) (ty := .int) (C := RX7) (T := TX7) (N := 5) hx hb hts inTX7 tyX7 tyX7_ok nmX7 hown hK.1 hP hD hS 2 rfl rfl 1 (by decide) (hts _ t1_58) (fun _ h9 => h9) rfl (tyX7_ok 1 (by decide)) rfl rfl (Nat.le_of_ble_eq_true rfl) dX7_readVillage_82 (fun H locs hP hD hS => ?_)
                          have hP : va_P D CL [(h_newcomers, .inl (cy 3, 3, .inr (.inr (.inr (.inr (va_up v_newcomers 1 (some q14))))))), (q14, PEl tq14), (h_this, .inr (6, [.ref h_newcomers, .int 0, .int u33_place, .int u34_flaw, .ref h_bytes])), (h_bytes, .inl (cy 0, 60, .inl v_bytes))] H := hP
                          have hD : va_D A [(h_newcomers, .inl (cy 3, 3, .inr (.inr (.inr (.inr (va_up v_newcomers 1 (some q14))))))), (q14, PEl tq14), (h_this, .inr (6, [.ref h_newcomers, .int 0, .int u33_place, .int u34_flaw, .ref h_bytes])), (h_bytes, .inl (cy 0, 60, .inl v_bytes))] := hD
                          refine lv_iload_n hx hb dX7_readVillage_85 rfl (lv_at hl 2 rfl) ?_
                          have hP : va_P D CL [(h_this, .inr (6, [.ref h_newcomers, .int 0, .int u33_place, .int u34_flaw, .ref h_bytes])), (h_bytes, .inl (cy 0, 60, .inl v_bytes)), (h_newcomers, .inl (cy 3, 3, .inr (.inr (.inr (.inr (va_up v_newcomers 1 (some q14))))))), (q14, PEl tq14)] H := (hP.sub [2, 3, 0, 1] rfl)
                          have hD : va_D A [(h_this, .inr (6, [.ref h_newcomers, .int 0, .int u33_place, .int u34_flaw, .ref h_bytes])), (h_bytes, .inl (cy 0, 60, .inl v_bytes)), (h_newcomers, .inl (cy 3, 3, .inr (.inr (.inr (.inr (va_up v_newcomers 1 (some q14))))))), (q14, PEl tq14)] := (hD.sub [2, 3, 0, 1] (by decide) rfl)
                          refine W.widen (k := 4) (n := 16) (by decide) (by decide) ?_
                          exact rt_i C hQ rfl hP hD hS ⟨0, u33_place, u34_flaw, (va_up v_newcomers 1 (some q14)), [(q14, tq14)], (NSok_c ho_q14 NSok_0), rfl, hF⟩ dX7_readVillage_86
                        · have hF := hF.2 q36 tq36 rfl
                          have hP : va_P D CL [(h_newcomers, .inl (cy 3, 3, .inr (.inr (.inr (.inr (va_up v_newcomers 1 (some q14))))))), (q14, PEl tq14), (h_this, .inr (6, [.ref h_newcomers, .int v_length, .int u33_place, .int u34_flaw, .ref h_bytes])), (h_bytes, .inl (cy 0, 60, .inl v_bytes)), (q36, PEl tq36)] H := hP
                          have hD : va_D A [(h_newcomers, .inl (cy 3, 3, .inr (.inr (.inr (.inr (va_up v_newcomers 1 (some q14))))))), (q14, PEl tq14), (h_this, .inr (6, [.ref h_newcomers, .int v_length, .int u33_place, .int u34_flaw, .ref h_bytes])), (h_bytes, .inl (cy 0, 60, .inl v_bytes)), (q36, PEl tq36)] := hD
                          refine W.eq (g2 := F0 m 54 ls [.ref q36]) rfl ?_
                          refine lv_astore_n (lv' := [(3, .ref q36), (2, .int 3), (1, .int 1), (0, .ref h_this)]) hx hb dX7_readVillage_54 rfl hl (by decide) rfl (fun ls hl => ?_)
                          refine lv_aload_n hx hb dX7_readVillage_55 rfl (lv_at hl 0 rfl) ?_
                          refine lv_ifnull hx hb dX7_readVillage_56 ?_
                          refine lv_iload_n hx hb dX7_readVillage_59 rfl (lv_at hl 1 rfl) ?_
                          refine lv_iconst (v := 3) hx hb dX7_readVillage_60 (by decide) ?_
                          refine lv_icmp_ge (tgt := 74) hx hb dX7_readVillage_61 (by decide) (fun _ => ?_) (fun c9 => absurd (by decide) c9)
                          refine lv_iinc (v := 4) (lv' := [(2, .int 4), (3, .ref q36), (1, .int 1), (0, .ref h_this)]) hx hb dX7_readVillage_74 hl (k := 1) rfl rfl (by decide) rfl (fun ls hl => ?_)
                          refine lv_goto (tgt := 26) hx hb dX7_readVillage_77 (by decide) ?_
                          refine lv_iload_n hx hb dX7_readVillage_26 rfl (lv_at hl 0 rfl) ?_
                          refine lv_iconst (v := 3) hx hb dX7_readVillage_27 (by decide) ?_
                          refine lv_icmp_gt (tgt := 80) hx hb dX7_readVillage_28 (by decide) (fun _ => ?_) (fun c9 => absurd (by decide) c9)
                          refine lv_aload_n hx hb dX7_readVillage_80 rfl (lv_at hl 3 rfl) ?_
                          refine lv_iconst (v := 0) hx hb dX7_readVillage_81 (by decide) ?_
                          refine va_put (D := D) (ci := 6) (v := .int 0) (ty := .int) (C := RX7) (T := TX7) (N := 5) hx hb hts inTX7 tyX7 tyX7_ok nmX7 hown hK.1 hP hD hS 2 rfl rfl 1 (by decide) (hts _ t1_58) (fun _ h9 => h9) rfl (tyX7_ok 1 (by decide)) rfl rfl (Nat.le_of_ble_eq_true rfl) dX7_readVillage_82 (fun H locs hP hD hS => ?_)
                          have hP : va_P D CL [(h_newcomers, .inl (cy 3, 3, .inr (.inr (.inr (.inr (va_up v_newcomers 1 (some q14))))))), (q14, PEl tq14), (h_this, .inr (6, [.ref h_newcomers, .int 0, .int u33_place, .int u34_flaw, .ref h_bytes])), (h_bytes, .inl (cy 0, 60, .inl v_bytes)), (q36, PEl tq36)] H := hP
                          have hD : va_D A [(h_newcomers, .inl (cy 3, 3, .inr (.inr (.inr (.inr (va_up v_newcomers 1 (some q14))))))), (q14, PEl tq14), (h_this, .inr (6, [.ref h_newcomers, .int 0, .int u33_place, .int u34_flaw, .ref h_bytes])), (h_bytes, .inl (cy 0, 60, .inl v_bytes)), (q36, PEl tq36)] := hD
                          refine lv_iload_n hx hb dX7_readVillage_85 rfl (lv_at hl 2 rfl) ?_
                          have hP : va_P D CL [(h_this, .inr (6, [.ref h_newcomers, .int 0, .int u33_place, .int u34_flaw, .ref h_bytes])), (h_bytes, .inl (cy 0, 60, .inl v_bytes)), (h_newcomers, .inl (cy 3, 3, .inr (.inr (.inr (.inr (va_up v_newcomers 1 (some q14))))))), (q14, PEl tq14), (q36, PEl tq36)] H := (hP.sub [2, 3, 0, 1, 4] rfl)
                          have hD : va_D A [(h_this, .inr (6, [.ref h_newcomers, .int 0, .int u33_place, .int u34_flaw, .ref h_bytes])), (h_bytes, .inl (cy 0, 60, .inl v_bytes)), (h_newcomers, .inl (cy 3, 3, .inr (.inr (.inr (.inr (va_up v_newcomers 1 (some q14))))))), (q14, PEl tq14), (q36, PEl tq36)] := (hD.sub [2, 3, 0, 1, 4] (by decide) rfl)
                          refine W.widen (k := 4) (n := 16) (by decide) (by decide) ?_
                          exact rt_i C hQ rfl hP hD hS ⟨0, u33_place, u34_flaw, (va_up v_newcomers 1 (some q14)), [(q14, tq14), (q36, tq36)], (NSok_c ho_q14 (NSok_c ho_q36 NSok_0)), rfl, hF⟩ dX7_readVillage_86
                  · have hF := hF.2 q32 tq32 rfl
                    have hP : va_P D CL [(h_newcomers, .inl (cy 3, 3, .inr (.inr (.inr (.inr (va_up v_newcomers 1 (some q14))))))), (q14, PEl tq14), (h_this, .inr (6, [.ref h_newcomers, .int v_length, .int u29_place, .int u30_flaw, .ref h_bytes])), (h_bytes, .inl (cy 0, 60, .inl v_bytes)), (q32, PEl tq32)] H := hP
                    have hD : va_D A [(h_newcomers, .inl (cy 3, 3, .inr (.inr (.inr (.inr (va_up v_newcomers 1 (some q14))))))), (q14, PEl tq14), (h_this, .inr (6, [.ref h_newcomers, .int v_length, .int u29_place, .int u30_flaw, .ref h_bytes])), (h_bytes, .inl (cy 0, 60, .inl v_bytes)), (q32, PEl tq32)] := hD
                    refine W.eq (g2 := F0 m 54 ls [.ref q32]) rfl ?_
                    refine lv_astore_n (lv' := [(3, .ref q32), (2, .int 2), (1, .int 1), (0, .ref h_this)]) hx hb dX7_readVillage_54 rfl hl (by decide) rfl (fun ls hl => ?_)
                    refine lv_aload_n hx hb dX7_readVillage_55 rfl (lv_at hl 0 rfl) ?_
                    refine lv_ifnull hx hb dX7_readVillage_56 ?_
                    refine lv_iload_n hx hb dX7_readVillage_59 rfl (lv_at hl 1 rfl) ?_
                    refine lv_iconst (v := 3) hx hb dX7_readVillage_60 (by decide) ?_
                    refine lv_icmp_ge (tgt := 74) hx hb dX7_readVillage_61 (by decide) (fun c9 => absurd c9 (by decide)) (fun _ => ?_)
                    refine lv_aload_n hx hb dX7_readVillage_64 rfl (lv_at hl 3 rfl) ?_
                    refine va_get (D := D) (ci := 6) (v := .ref h_newcomers) (C := RX7) (T := TX7) (N := 5) hx hb hts inTX7 hown hK.1 hP 2 rfl rfl 0 (by decide) (hts _ t1_56) (fun _ h9 => h9) rfl dX7_readVillage_65 ?_
                    refine lv_iload_n hx hb dX7_readVillage_68 rfl (lv_at hl 1 rfl) ?_
                    refine lv_aload_n hx hb dX7_readVillage_69 rfl (lv_at hl 0 rfl) ?_
                    refine va_astqM hx hb hK.1 hP hD hS 0 3 rfl rfl (new_any hK hP (k := 4) rfl ho_q32) (vi (by decide)) dX7_readVillage_70 (fun H locs hP hD hS => ?_)
                    have hP : va_P D CL [(h_newcomers, .inl (cy 3, 3, .inr (.inr (.inr (.inr (va_up (va_up v_newcomers 1 (some q14)) 2 (some q32))))))), (q14, PEl tq14), (h_this, .inr (6, [.ref h_newcomers, .int v_length, .int u29_place, .int u30_flaw, .ref h_bytes])), (h_bytes, .inl (cy 0, 60, .inl v_bytes)), (q32, PEl tq32)] H := hP
                    have hD : va_D A [(h_newcomers, .inl (cy 3, 3, .inr (.inr (.inr (.inr (va_up (va_up v_newcomers 1 (some q14)) 2 (some q32))))))), (q14, PEl tq14), (h_this, .inr (6, [.ref h_newcomers, .int v_length, .int u29_place, .int u30_flaw, .ref h_bytes])), (h_bytes, .inl (cy 0, 60, .inl v_bytes)), (q32, PEl tq32)] := hD
                    refine lv_iinc (v := 2) (lv' := [(1, .int 2), (3, .ref q32), (2, .int 2), (0, .ref h_this)]) hx hb dX7_readVillage_71 hl (k := 2) rfl rfl (by decide) rfl (fun ls hl => ?_)
                    refine lv_iinc (v := 3) (lv' := [(2, .int 3), (1, .int 2), (3, .ref q32), (0, .ref h_this)]) hx hb dX7_readVillage_74 hl (k := 2) rfl rfl (by decide) rfl (fun ls hl => ?_)
                    refine lv_goto (tgt := 26) hx hb dX7_readVillage_77 (by decide) ?_
                    refine lv_iload_n hx hb dX7_readVillage_26 rfl (lv_at hl 0 rfl) ?_
                    refine lv_iconst (v := 3) hx hb dX7_readVillage_27 (by decide) ?_
                    refine lv_icmp_gt (tgt := 80) hx hb dX7_readVillage_28 (by decide) (fun c9 => absurd c9 (by decide)) (fun _ => ?_)
                    refine lv_aload_n hx hb dX7_readVillage_31 rfl (lv_at hl 3 rfl) ?_
                    refine va_get (D := D) (ci := 6) (v := .int u30_flaw) (C := RX7) (T := TX7) (N := 5) hx hb hts inTX7 hown hK.1 hP 2 rfl rfl 3 (by decide) (hts _ t1_62) (fun _ h9 => h9) rfl dX7_readVillage_32 ?_
                    refine lv_if_ne (tgt := 80) hx hb dX7_readVillage_35 (by decide) (fun c_ => ?_) (fun c_ => ?_)
                    · have hF := hF.1 c_
                      refine lv_aload_n hx hb dX7_readVillage_80 rfl (lv_at hl 3 rfl) ?_
                      refine lv_iconst (v := 0) hx hb dX7_readVillage_81 (by decide) ?_
                      refine va_put (D := D) (ci := 6) (v := .int 0) (ty := .int) (C := RX7) (T := TX7) (N := 5) hx hb hts inTX7 tyX7 tyX7_ok nmX7 hown hK.1 hP hD hS 2 rfl rfl 1 (by decide) (hts _ t1_58) (fun _ h9 => h9) rfl (tyX7_ok 1 (by decide)) rfl rfl (Nat.le_of_ble_eq_true rfl) dX7_readVillage_82 (fun H locs hP hD hS => ?_)
                      have hP : va_P D CL [(h_newcomers, .inl (cy 3, 3, .inr (.inr (.inr (.inr (va_up (va_up v_newcomers 1 (some q14)) 2 (some q32))))))), (q14, PEl tq14), (h_this, .inr (6, [.ref h_newcomers, .int 0, .int u29_place, .int u30_flaw, .ref h_bytes])), (h_bytes, .inl (cy 0, 60, .inl v_bytes)), (q32, PEl tq32)] H := hP
                      have hD : va_D A [(h_newcomers, .inl (cy 3, 3, .inr (.inr (.inr (.inr (va_up (va_up v_newcomers 1 (some q14)) 2 (some q32))))))), (q14, PEl tq14), (h_this, .inr (6, [.ref h_newcomers, .int 0, .int u29_place, .int u30_flaw, .ref h_bytes])), (h_bytes, .inl (cy 0, 60, .inl v_bytes)), (q32, PEl tq32)] := hD
                      refine lv_iload_n hx hb dX7_readVillage_85 rfl (lv_at hl 1 rfl) ?_
                      have hP : va_P D CL [(h_this, .inr (6, [.ref h_newcomers, .int 0, .int u29_place, .int u30_flaw, .ref h_bytes])), (h_bytes, .inl (cy 0, 60, .inl v_bytes)), (h_newcomers, .inl (cy 3, 3, .inr (.inr (.inr (.inr (va_up (va_up v_newcomers 1 (some q14)) 2 (some q32))))))), (q14, PEl tq14), (q32, PEl tq32)] H := (hP.sub [2, 3, 0, 1, 4] rfl)
                      have hD : va_D A [(h_this, .inr (6, [.ref h_newcomers, .int 0, .int u29_place, .int u30_flaw, .ref h_bytes])), (h_bytes, .inl (cy 0, 60, .inl v_bytes)), (h_newcomers, .inl (cy 3, 3, .inr (.inr (.inr (.inr (va_up (va_up v_newcomers 1 (some q14)) 2 (some q32))))))), (q14, PEl tq14), (q32, PEl tq32)] := (hD.sub [2, 3, 0, 1, 4] (by decide) rfl)
                      refine W.widen (k := 4) (n := 16) (by decide) (by decide) ?_
                      exact rt_i C hQ rfl hP hD hS ⟨0, u29_place, u30_flaw, (va_up (va_up v_newcomers 1 (some q14)) 2 (some q32)), [(q14, tq14), (q32, tq32)], (NSok_c ho_q14 (NSok_c ho_q32 NSok_0)), rfl, hF⟩ dX7_readVillage_86
                    · have hF := hF.2 c_
                      refine lv_aload_n hx hb dX7_readVillage_38 rfl (lv_at hl 3 rfl) ?_
                      refine va_get (D := D) (ci := 6) (v := .int u29_place) (C := RX7) (T := TX7) (N := 5) hx hb hts inTX7 hown hK.1 hP 2 rfl rfl 2 (by decide) (hts _ t1_60) (fun _ h9 => h9) rfl dX7_readVillage_39 ?_
                      refine lv_aload_n hx hb dX7_readVillage_42 rfl (lv_at hl 3 rfl) ?_
                      refine va_get (D := D) (ci := 6) (v := .int v_length) (C := RX7) (T := TX7) (N := 5) hx hb hts inTX7 hown hK.1 hP 2 rfl rfl 1 (by decide) (hts _ t1_58) (fun _ h9 => h9) rfl dX7_readVillage_43 ?_
                      refine lv_icmp_ge (tgt := 80) hx hb dX7_readVillage_46 (by decide) (fun c_ => ?_) (fun c_ => ?_)
                      · have hF := hF.1 c_
                        refine lv_aload_n hx hb dX7_readVillage_80 rfl (lv_at hl 3 rfl) ?_
                        refine lv_iconst (v := 0) hx hb dX7_readVillage_81 (by decide) ?_
                        refine va_put (D := D) (ci := 6) (v := .int 0) (ty := .int) (C := RX7) (T := TX7) (N := 5) hx hb hts inTX7 tyX7 tyX7_ok nmX7 hown hK.1 hP hD hS 2 rfl rfl 1 (by decide) (hts _ t1_58) (fun _ h9 => h9) rfl (tyX7_ok 1 (by decide)) rfl rfl (Nat.le_of_ble_eq_true rfl) dX7_readVillage_82 (fun H locs hP hD hS => ?_)
                        have hP : va_P D CL [(h_newcomers, .inl (cy 3, 3, .inr (.inr (.inr (.inr (va_up (va_up v_newcomers 1 (some q14)) 2 (some q32))))))), (q14, PEl tq14), (h_this, .inr (6, [.ref h_newcomers, .int 0, .int u29_place, .int u30_flaw, .ref h_bytes])), (h_bytes, .inl (cy 0, 60, .inl v_bytes)), (q32, PEl tq32)] H := hP
                        have hD : va_D A [(h_newcomers, .inl (cy 3, 3, .inr (.inr (.inr (.inr (va_up (va_up v_newcomers 1 (some q14)) 2 (some q32))))))), (q14, PEl tq14), (h_this, .inr (6, [.ref h_newcomers, .int 0, .int u29_place, .int u30_flaw, .ref h_bytes])), (h_bytes, .inl (cy 0, 60, .inl v_bytes)), (q32, PEl tq32)] := hD
                        refine lv_iload_n hx hb dX7_readVillage_85 rfl (lv_at hl 1 rfl) ?_
                        have hP : va_P D CL [(h_this, .inr (6, [.ref h_newcomers, .int 0, .int u29_place, .int u30_flaw, .ref h_bytes])), (h_bytes, .inl (cy 0, 60, .inl v_bytes)), (h_newcomers, .inl (cy 3, 3, .inr (.inr (.inr (.inr (va_up (va_up v_newcomers 1 (some q14)) 2 (some q32))))))), (q14, PEl tq14), (q32, PEl tq32)] H := (hP.sub [2, 3, 0, 1, 4] rfl)
                        have hD : va_D A [(h_this, .inr (6, [.ref h_newcomers, .int 0, .int u29_place, .int u30_flaw, .ref h_bytes])), (h_bytes, .inl (cy 0, 60, .inl v_bytes)), (h_newcomers, .inl (cy 3, 3, .inr (.inr (.inr (.inr (va_up (va_up v_newcomers 1 (some q14)) 2 (some q32))))))), (q14, PEl tq14), (q32, PEl tq32)] := (hD.sub [2, 3, 0, 1, 4] (by decide) rfl)
                        refine W.widen (k := 4) (n := 16) (by decide) (by decide) ?_
                        exact rt_i C hQ rfl hP hD hS ⟨0, u29_place, u30_flaw, (va_up (va_up v_newcomers 1 (some q14)) 2 (some q32)), [(q14, tq14), (q32, tq32)], (NSok_c ho_q14 (NSok_c ho_q32 NSok_0)), rfl, hF⟩ dX7_readVillage_86
                      · have hF := hF.2 c_
                        refine lv_aload_n hx hb dX7_readVillage_49 rfl (lv_at hl 3 rfl) ?_
                        refine lv_iload_n hx hb dX7_readVillage_50 rfl (lv_at hl 0 rfl) ?_
                        refine cV_t (As := [.int 3]) (wr := [(h_newcomers, .inl (cy 3, 3, .inr (.inr (.inr (.inr (va_up (va_up v_newcomers 1 (some q14)) 2 (some q32))))))), (q14, PEl tq14), (q32, PEl tq32)]) C hA hP hD hS mfX7_readPerson t2_61 ts_4 t2_59 (ccX7_readPerson l D cy h_this h_bytes (.ref h_newcomers) v_length u29_place u30_flaw v_bytes 3 _ hF) [2, 3] [0, 1, 4] rfl rfl (by decide) (by decide) (by decide) PO.np 2 6 rfl rfl rfl rfl hl.1 rfl (Nat.le_of_ble_eq_true rfl) dX7_readVillage_51 ⟨Nat.le_of_ble_eq_true rfl, Nat.le_of_ble_eq_true rfl⟩ ⟨Nat.le_of_ble_eq_true rfl, Nat.le_of_ble_eq_true rfl⟩ ?_
                        rintro r w1 H locs (⟨u38_place, u39_flaw, rfl, rfl, hF⟩ | ⟨q41, tq41, u38_place, u39_flaw, ho_q41, rfl, rfl, hF⟩) hP hD hS
                        · have hF := hF.1 rfl
                          have hP : va_P D CL [(h_newcomers, .inl (cy 3, 3, .inr (.inr (.inr (.inr (va_up (va_up v_newcomers 1 (some q14)) 2 (some q32))))))), (q14, PEl tq14), (q32, PEl tq32), (h_this, .inr (6, [.ref h_newcomers, .int v_length, .int u38_place, .int u39_flaw, .ref h_bytes])), (h_bytes, .inl (cy 0, 60, .inl v_bytes))] H := hP
                          have hD : va_D A [(h_newcomers, .inl (cy 3, 3, .inr (.inr (.inr (.inr (va_up (va_up v_newcomers 1 (some q14)) 2 (some q32))))))), (q14, PEl tq14), (q32, PEl tq32), (h_this, .inr (6, [.ref h_newcomers, .int v_length, .int u38_place, .int u39_flaw, .ref h_bytes])), (h_bytes, .inl (cy 0, 60, .inl v_bytes))] := hD
                          refine W.eq (g2 := F0 m 54 ls [.null]) rfl ?_
                          refine lv_astore_nN (lv' := [(3, .null), (2, .int 3), (1, .int 2), (0, .ref h_this)]) hx hb dX7_readVillage_54 rfl hl (by decide) rfl (fun ls hl => ?_)
                          refine lv_aload_nN hx hb dX7_readVillage_55 rfl (lv_at hl 0 rfl) ?_
                          refine lv_ifnullN (tgt := 74) hx hb dX7_readVillage_56 (by decide) ?_
                          refine lv_iinc (v := 4) (lv' := [(2, .int 4), (3, .null), (1, .int 2), (0, .ref h_this)]) hx hb dX7_readVillage_74 hl (k := 1) rfl rfl (by decide) rfl (fun ls hl => ?_)
                          refine lv_goto (tgt := 26) hx hb dX7_readVillage_77 (by decide) ?_
                          refine lv_iload_n hx hb dX7_readVillage_26 rfl (lv_at hl 0 rfl) ?_
                          refine lv_iconst (v := 3) hx hb dX7_readVillage_27 (by decide) ?_
                          refine lv_icmp_gt (tgt := 80) hx hb dX7_readVillage_28 (by decide) (fun _ => ?_) (fun c9 => absurd (by decide) c9)
                          refine lv_aload_n hx hb dX7_readVillage_80 rfl (lv_at hl 3 rfl) ?_
                          refine lv_iconst (v := 0) hx hb dX7_readVillage_81 (by decide) ?_
                          refine va_put (D := D) (ci := 6) (v := .int 0) (ty := .int) (C := RX7) (T := TX7) (N := 5) hx hb hts inTX7 tyX7 tyX7_ok nmX7 hown hK.1 hP hD hS 3 rfl rfl 1 (by decide) (hts _ t1_58) (fun _ h9 => h9) rfl (tyX7_ok 1 (by decide)) rfl rfl (Nat.le_of_ble_eq_true rfl) dX7_readVillage_82 (fun H locs hP hD hS => ?_)
                          have hP : va_P D CL [(h_newcomers, .inl (cy 3, 3, .inr (.inr (.inr (.inr (va_up (va_up v_newcomers 1 (some q14)) 2 (some q32))))))), (q14, PEl tq14), (q32, PEl tq32), (h_this, .inr (6, [.ref h_newcomers, .int 0, .int u38_place, .int u39_flaw, .ref h_bytes])), (h_bytes, .inl (cy 0, 60, .inl v_bytes))] H := hP
                          have hD : va_D A [(h_newcomers, .inl (cy 3, 3, .inr (.inr (.inr (.inr (va_up (va_up v_newcomers 1 (some q14)) 2 (some q32))))))), (q14, PEl tq14), (q32, PEl tq32), (h_this, .inr (6, [.ref h_newcomers, .int 0, .int u38_place, .int u39_flaw, .ref h_bytes])), (h_bytes, .inl (cy 0, 60, .inl v_bytes))] := hD
                          refine lv_iload_n hx hb dX7_readVillage_85 rfl (lv_at hl 2 rfl) ?_
                          have hP : va_P D CL [(h_this, .inr (6, [.ref h_newcomers, .int 0, .int u38_place, .int u39_flaw, .ref h_bytes])), (h_bytes, .inl (cy 0, 60, .inl v_bytes)), (h_newcomers, .inl (cy 3, 3, .inr (.inr (.inr (.inr (va_up (va_up v_newcomers 1 (some q14)) 2 (some q32))))))), (q14, PEl tq14), (q32, PEl tq32)] H := (hP.sub [3, 4, 0, 1, 2] rfl)
                          have hD : va_D A [(h_this, .inr (6, [.ref h_newcomers, .int 0, .int u38_place, .int u39_flaw, .ref h_bytes])), (h_bytes, .inl (cy 0, 60, .inl v_bytes)), (h_newcomers, .inl (cy 3, 3, .inr (.inr (.inr (.inr (va_up (va_up v_newcomers 1 (some q14)) 2 (some q32))))))), (q14, PEl tq14), (q32, PEl tq32)] := (hD.sub [3, 4, 0, 1, 2] (by decide) rfl)
                          refine W.widen (k := 4) (n := 16) (by decide) (by decide) ?_
                          exact rt_i C hQ rfl hP hD hS ⟨0, u38_place, u39_flaw, (va_up (va_up v_newcomers 1 (some q14)) 2 (some q32)), [(q14, tq14), (q32, tq32)], (NSok_c ho_q14 (NSok_c ho_q32 NSok_0)), rfl, hF⟩ dX7_readVillage_86
                        · have hF := hF.2 q41 tq41 rfl
                          have hP : va_P D CL [(h_newcomers, .inl (cy 3, 3, .inr (.inr (.inr (.inr (va_up (va_up v_newcomers 1 (some q14)) 2 (some q32))))))), (q14, PEl tq14), (q32, PEl tq32), (h_this, .inr (6, [.ref h_newcomers, .int v_length, .int u38_place, .int u39_flaw, .ref h_bytes])), (h_bytes, .inl (cy 0, 60, .inl v_bytes)), (q41, PEl tq41)] H := hP
                          have hD : va_D A [(h_newcomers, .inl (cy 3, 3, .inr (.inr (.inr (.inr (va_up (va_up v_newcomers 1 (some q14)) 2 (some q32))))))), (q14, PEl tq14), (q32, PEl tq32), (h_this, .inr (6, [.ref h_newcomers, .int v_length, .int u38_place, .int u39_flaw, .ref h_bytes])), (h_bytes, .inl (cy 0, 60, .inl v_bytes)), (q41, PEl tq41)] := hD
                          refine W.eq (g2 := F0 m 54 ls [.ref q41]) rfl ?_
                          refine lv_astore_n (lv' := [(3, .ref q41), (2, .int 3), (1, .int 2), (0, .ref h_this)]) hx hb dX7_readVillage_54 rfl hl (by decide) rfl (fun ls hl => ?_)
                          refine lv_aload_n hx hb dX7_readVillage_55 rfl (lv_at hl 0 rfl) ?_
                          refine lv_ifnull hx hb dX7_readVillage_56 ?_
                          refine lv_iload_n hx hb dX7_readVillage_59 rfl (lv_at hl 1 rfl) ?_
                          refine lv_iconst (v := 3) hx hb dX7_readVillage_60 (by decide) ?_
                          refine lv_icmp_ge (tgt := 74) hx hb dX7_readVillage_61 (by decide) (fun _ => ?_) (fun c9 => absurd (by decide) c9)
                          refine lv_iinc (v := 4) (lv' := [(2, .int 4), (3, .ref q41), (1, .int 2), (0, .ref h_this)]) hx hb dX7_readVillage_74 hl (k := 1) rfl rfl (by decide) rfl (fun ls hl => ?_)
                          refine lv_goto (tgt := 26) hx hb dX7_readVillage_77 (by decide) ?_
                          refine lv_iload_n hx hb dX7_readVillage_26 rfl (lv_at hl 0 rfl) ?_
                          refine lv_iconst (v := 3) hx hb dX7_readVillage_27 (by decide) ?_
                          refine lv_icmp_gt (tgt := 80) hx hb dX7_readVillage_28 (by decide) (fun _ => ?_) (fun c9 => absurd (by decide) c9)
                          refine lv_aload_n hx hb dX7_readVillage_80 rfl (lv_at hl 3 rfl) ?_
                          refine lv_iconst (v := 0) hx hb dX7_readVillage_81 (by decide) ?_
                          refine va_put (D := D) (ci := 6) (v := .int 0) (ty := .int) (C := RX7) (T := TX7) (N := 5) hx hb hts inTX7 tyX7 tyX7_ok nmX7 hown hK.1 hP hD hS 3 rfl rfl 1 (by decide) (hts _ t1_58) (fun _ h9 => h9) rfl (tyX7_ok 1 (by decide)) rfl rfl (Nat.le_of_ble_eq_true rfl) dX7_readVillage_82 (fun H locs hP hD hS => ?_)
                          have hP : va_P D CL [(h_newcomers, .inl (cy 3, 3, .inr (.inr (.inr (.inr (va_up (va_up v_newcomers 1 (some q14)) 2 (some q32))))))), (q14, PEl tq14), (q32, PEl tq32), (h_this, .inr (6, [.ref h_newcomers, .int 0, .int u38_place, .int u39_flaw, .ref h_bytes])), (h_bytes, .inl (cy 0, 60, .inl v_bytes)), (q41, PEl tq41)] H := hP
                          have hD : va_D A [(h_newcomers, .inl (cy 3, 3, .inr (.inr (.inr (.inr (va_up (va_up v_newcomers 1 (some q14)) 2 (some q32))))))), (q14, PEl tq14), (q32, PEl tq32), (h_this, .inr (6, [.ref h_newcomers, .int 0, .int u38_place, .int u39_flaw, .ref h_bytes])), (h_bytes, .inl (cy 0, 60, .inl v_bytes)), (q41, PEl tq41)] := hD
                          refine lv_iload_n hx hb dX7_readVillage_85 rfl (lv_at hl 2 rfl) ?_
                          have hP : va_P D CL [(h_this, .inr (6, [.ref h_newcomers, .int 0, .int u38_place, .int u39_flaw, .ref h_bytes])), (h_bytes, .inl (cy 0, 60, .inl v_bytes)), (h_newcomers, .inl (cy 3, 3, .inr (.inr (.inr (.inr (va_up (va_up v_newcomers 1 (some q14)) 2 (some q32))))))), (q14, PEl tq14), (q32, PEl tq32), (q41, PEl tq41)] H := (hP.sub [3, 4, 0, 1, 2, 5] rfl)
                          have hD : va_D A [(h_this, .inr (6, [.ref h_newcomers, .int 0, .int u38_place, .int u39_flaw, .ref h_bytes])), (h_bytes, .inl (cy 0, 60, .inl v_bytes)), (h_newcomers, .inl (cy 3, 3, .inr (.inr (.inr (.inr (va_up (va_up v_newcomers 1 (some q14)) 2 (some q32))))))), (q14, PEl tq14), (q32, PEl tq32), (q41, PEl tq41)] := (hD.sub [3, 4, 0, 1, 2, 5] (by decide) rfl)
                          refine W.widen (k := 4) (n := 16) (by decide) (by decide) ?_
                          exact rt_i C hQ rfl hP hD hS ⟨0, u38_place, u39_flaw, (va_up (va_up v_newcomers 1 (some q14)) 2 (some q32)), [(q14, tq14), (q32, tq32), (q41, tq41)], (NSok_c ho_q14 (NSok_c ho_q32 (NSok_c ho_q41 NSok_0))), rfl, hF⟩ dX7_readVillage_86
      · have hF := hF.2 q10 tq10 rfl
        have hP : va_P D CL [(h_newcomers, .inl (cy 3, 3, .inr (.inr (.inr (.inr v_newcomers))))), (h_this, .inr (6, [.ref h_newcomers, .int v_length, .int u7_place, .int u8_flaw, .ref h_bytes])), (h_bytes, .inl (cy 0, 60, .inl v_bytes)), (q10, PEl tq10)] H := hP
        have hD : va_D A [(h_newcomers, .inl (cy 3, 3, .inr (.inr (.inr (.inr v_newcomers))))), (h_this, .inr (6, [.ref h_newcomers, .int v_length, .int u7_place, .int u8_flaw, .ref h_bytes])), (h_bytes, .inl (cy 0, 60, .inl v_bytes)), (q10, PEl tq10)] := hD
        refine W.eq (g2 := F0 m 54 ls [.ref q10]) rfl ?_
        refine lv_astore_n (lv' := [(3, .ref q10), (2, .int 0), (1, .int 0), (0, .ref h_this)]) hx hb dX7_readVillage_54 rfl hl (by decide) rfl (fun ls hl => ?_)
        refine lv_aload_n hx hb dX7_readVillage_55 rfl (lv_at hl 0 rfl) ?_
        refine lv_ifnull hx hb dX7_readVillage_56 ?_
        refine lv_iload_n hx hb dX7_readVillage_59 rfl (lv_at hl 1 rfl) ?_
        refine lv_iconst (v := 3) hx hb dX7_readVillage_60 (by decide) ?_
        refine lv_icmp_ge (tgt := 74) hx hb dX7_readVillage_61 (by decide) (fun c9 => absurd c9 (by decide)) (fun _ => ?_)
        refine lv_aload_n hx hb dX7_readVillage_64 rfl (lv_at hl 3 rfl) ?_
        refine va_get (D := D) (ci := 6) (v := .ref h_newcomers) (C := RX7) (T := TX7) (N := 5) hx hb hts inTX7 hown hK.1 hP 1 rfl rfl 0 (by decide) (hts _ t1_56) (fun _ h9 => h9) rfl dX7_readVillage_65 ?_
        refine lv_iload_n hx hb dX7_readVillage_68 rfl (lv_at hl 1 rfl) ?_
        refine lv_aload_n hx hb dX7_readVillage_69 rfl (lv_at hl 0 rfl) ?_
        refine va_astqM hx hb hK.1 hP hD hS 0 3 rfl rfl (new_any hK hP (k := 3) rfl ho_q10) (vi (by decide)) dX7_readVillage_70 (fun H locs hP hD hS => ?_)
        have hP : va_P D CL [(h_newcomers, .inl (cy 3, 3, .inr (.inr (.inr (.inr (va_up v_newcomers 0 (some q10))))))), (h_this, .inr (6, [.ref h_newcomers, .int v_length, .int u7_place, .int u8_flaw, .ref h_bytes])), (h_bytes, .inl (cy 0, 60, .inl v_bytes)), (q10, PEl tq10)] H := hP
        have hD : va_D A [(h_newcomers, .inl (cy 3, 3, .inr (.inr (.inr (.inr (va_up v_newcomers 0 (some q10))))))), (h_this, .inr (6, [.ref h_newcomers, .int v_length, .int u7_place, .int u8_flaw, .ref h_bytes])), (h_bytes, .inl (cy 0, 60, .inl v_bytes)), (q10, PEl tq10)] := hD
        refine lv_iinc (v := 1) (lv' := [(1, .int 1), (3, .ref q10), (2, .int 0), (0, .ref h_this)]) hx hb dX7_readVillage_71 hl (k := 2) rfl rfl (by decide) rfl (fun ls hl => ?_)
        refine lv_iinc (v := 1) (lv' := [(2, .int 1), (1, .int 1), (3, .ref q10), (0, .ref h_this)]) hx hb dX7_readVillage_74 hl (k := 2) rfl rfl (by decide) rfl (fun ls hl => ?_)
        refine lv_goto (tgt := 26) hx hb dX7_readVillage_77 (by decide) ?_
        refine lv_iload_n hx hb dX7_readVillage_26 rfl (lv_at hl 0 rfl) ?_
        refine lv_iconst (v := 3) hx hb dX7_readVillage_27 (by decide) ?_
        refine lv_icmp_gt (tgt := 80) hx hb dX7_readVillage_28 (by decide) (fun c9 => absurd c9 (by decide)) (fun _ => ?_)
        refine lv_aload_n hx hb dX7_readVillage_31 rfl (lv_at hl 3 rfl) ?_
        refine va_get (D := D) (ci := 6) (v := .int u8_flaw) (C := RX7) (T := TX7) (N := 5) hx hb hts inTX7 hown hK.1 hP 1 rfl rfl 3 (by decide) (hts _ t1_62) (fun _ h9 => h9) rfl dX7_readVillage_32 ?_
        refine lv_if_ne (tgt := 80) hx hb dX7_readVillage_35 (by decide) (fun c_ => ?_) (fun c_ => ?_)
        · have hF := hF.1 c_
          refine lv_aload_n hx hb dX7_readVillage_80 rfl (lv_at hl 3 rfl) ?_
          refine lv_iconst (v := 0) hx hb dX7_readVillage_81 (by decide) ?_
          refine va_put (D := D) (ci := 6) (v := .int 0) (ty := .int) (C := RX7) (T := TX7) (N := 5) hx hb hts inTX7 tyX7 tyX7_ok nmX7 hown hK.1 hP hD hS 1 rfl rfl 1 (by decide) (hts _ t1_58) (fun _ h9 => h9) rfl (tyX7_ok 1 (by decide)) rfl rfl (Nat.le_of_ble_eq_true rfl) dX7_readVillage_82 (fun H locs hP hD hS => ?_)
          have hP : va_P D CL [(h_newcomers, .inl (cy 3, 3, .inr (.inr (.inr (.inr (va_up v_newcomers 0 (some q10))))))), (h_this, .inr (6, [.ref h_newcomers, .int 0, .int u7_place, .int u8_flaw, .ref h_bytes])), (h_bytes, .inl (cy 0, 60, .inl v_bytes)), (q10, PEl tq10)] H := hP
          have hD : va_D A [(h_newcomers, .inl (cy 3, 3, .inr (.inr (.inr (.inr (va_up v_newcomers 0 (some q10))))))), (h_this, .inr (6, [.ref h_newcomers, .int 0, .int u7_place, .int u8_flaw, .ref h_bytes])), (h_bytes, .inl (cy 0, 60, .inl v_bytes)), (q10, PEl tq10)] := hD
          refine lv_iload_n hx hb dX7_readVillage_85 rfl (lv_at hl 1 rfl) ?_
          have hP : va_P D CL [(h_this, .inr (6, [.ref h_newcomers, .int 0, .int u7_place, .int u8_flaw, .ref h_bytes])), (h_bytes, .inl (cy 0, 60, .inl v_bytes)), (h_newcomers, .inl (cy 3, 3, .inr (.inr (.inr (.inr (va_up v_newcomers 0 (some q10))))))), (q10, PEl tq10)] H := (hP.sub [1, 2, 0, 3] rfl)
          have hD : va_D A [(h_this, .inr (6, [.ref h_newcomers, .int 0, .int u7_place, .int u8_flaw, .ref h_bytes])), (h_bytes, .inl (cy 0, 60, .inl v_bytes)), (h_newcomers, .inl (cy 3, 3, .inr (.inr (.inr (.inr (va_up v_newcomers 0 (some q10))))))), (q10, PEl tq10)] := (hD.sub [1, 2, 0, 3] (by decide) rfl)
          refine W.widen (k := 4) (n := 16) (by decide) (by decide) ?_
          exact rt_i C hQ rfl hP hD hS ⟨0, u7_place, u8_flaw, (va_up v_newcomers 0 (some q10)), [(q10, tq10)], (NSok_c ho_q10 NSok_0), rfl, hF⟩ dX7_readVillage_86
        · have hF := hF.2 c_
          refine lv_aload_n hx hb dX7_readVillage_38 rfl (lv_at hl 3 rfl) ?_
          refine va_get (D := D) (ci := 6) (v := .int u7_place) (C := RX7) (T := TX7) (N := 5) hx hb hts inTX7 hown hK.1 hP 1 rfl rfl 2 (by decide) (hts _ t1_60) (fun _ h9 => h9) rfl dX7_readVillage_39 ?_
          refine lv_aload_n hx hb dX7_readVillage_42 rfl (lv_at hl 3 rfl) ?_
          refine va_get (D := D) (ci := 6) (v := .int v_length) (C := RX7) (T := TX7) (N := 5) hx hb hts inTX7 hown hK.1 hP 1 rfl rfl 1 (by decide) (hts _ t1_58) (fun _ h9 => h9) rfl dX7_readVillage_43 ?_
          refine lv_icmp_ge (tgt := 80) hx hb dX7_readVillage_46 (by decide) (fun c_ => ?_) (fun c_ => ?_)
          · have hF := hF.1 c_
            refine lv_aload_n hx hb dX7_readVillage_80 rfl (lv_at hl 3 rfl) ?_
            refine lv_iconst (v := 0) hx hb dX7_readVillage_81 (by decide) ?_
            refine va_put (D := D) (ci := 6) (v := .int 0) (ty := .int) (C := RX7) (T := TX7) (N := 5) hx hb hts inTX7 tyX7 tyX7_ok nmX7 hown hK.1 hP hD hS 1 rfl rfl 1 (by decide) (hts _ t1_58) (fun _ h9 => h9) rfl (tyX7_ok 1 (by decide)) rfl rfl (Nat.le_of_ble_eq_true rfl) dX7_readVillage_82 (fun H locs hP hD hS => ?_)
            have hP : va_P D CL [(h_newcomers, .inl (cy 3, 3, .inr (.inr (.inr (.inr (va_up v_newcomers 0 (some q10))))))), (h_this, .inr (6, [.ref h_newcomers, .int 0, .int u7_place, .int u8_flaw, .ref h_bytes])), (h_bytes, .inl (cy 0, 60, .inl v_bytes)), (q10, PEl tq10)] H := hP
            have hD : va_D A [(h_newcomers, .inl (cy 3, 3, .inr (.inr (.inr (.inr (va_up v_newcomers 0 (some q10))))))), (h_this, .inr (6, [.ref h_newcomers, .int 0, .int u7_place, .int u8_flaw, .ref h_bytes])), (h_bytes, .inl (cy 0, 60, .inl v_bytes)), (q10, PEl tq10)] := hD
            refine lv_iload_n hx hb dX7_readVillage_85 rfl (lv_at hl 1 rfl) ?_
            have hP : va_P D CL [(h_this, .inr (6, [.ref h_newcomers, .int 0, .int u7_place, .int u8_flaw, .ref h_bytes])), (h_bytes, .inl (cy 0, 60, .inl v_bytes)), (h_newcomers, .inl (cy 3, 3, .inr (.inr (.inr (.inr (va_up v_newcomers 0 (some q10))))))), (q10, PEl tq10)] H := (hP.sub [1, 2, 0, 3] rfl)
            have hD : va_D A [(h_this, .inr (6, [.ref h_newcomers, .int 0, .int u7_place, .int u8_flaw, .ref h_bytes])), (h_bytes, .inl (cy 0, 60, .inl v_bytes)), (h_newcomers, .inl (cy 3, 3, .inr (.inr (.inr (.inr (va_up v_newcomers 0 (some q10))))))), (q10, PEl tq10)] := (hD.sub [1, 2, 0, 3] (by decide) rfl)
            refine W.widen (k := 4) (n := 16) (by decide) (by decide) ?_
            exact rt_i C hQ rfl hP hD hS ⟨0, u7_place, u8_flaw, (va_up v_newcomers 0 (some q10)), [(q10, tq10)], (NSok_c ho_q10 NSok_0), rfl, hF⟩ dX7_readVillage_86
          · have hF := hF.2 c_
            refine lv_aload_n hx hb dX7_readVillage_49 rfl (lv_at hl 3 rfl) ?_
            refine lv_iload_n hx hb dX7_readVillage_50 rfl (lv_at hl 0 rfl) ?_
            refine cV_t (As := [.int 1]) (wr := [(h_newcomers, .inl (cy 3, 3, .inr (.inr (.inr (.inr (va_up v_newcomers 0 (some q10))))))), (q10, PEl tq10)]) C hA hP hD hS mfX7_readPerson t2_61 ts_4 t2_59 (ccX7_readPerson l D cy h_this h_bytes (.ref h_newcomers) v_length u7_place u8_flaw v_bytes 1 _ hF) [1, 2] [0, 3] rfl rfl (by decide) (by decide) (by decide) PO.np 1 6 rfl rfl rfl rfl hl.1 rfl (Nat.le_of_ble_eq_true rfl) dX7_readVillage_51 ⟨Nat.le_of_ble_eq_true rfl, Nat.le_of_ble_eq_true rfl⟩ ⟨Nat.le_of_ble_eq_true rfl, Nat.le_of_ble_eq_true rfl⟩ ?_
            rintro r w1 H locs (⟨u43_place, u44_flaw, rfl, rfl, hF⟩ | ⟨q46, tq46, u43_place, u44_flaw, ho_q46, rfl, rfl, hF⟩) hP hD hS
            · have hF := hF.1 rfl
              have hP : va_P D CL [(h_newcomers, .inl (cy 3, 3, .inr (.inr (.inr (.inr (va_up v_newcomers 0 (some q10))))))), (q10, PEl tq10), (h_this, .inr (6, [.ref h_newcomers, .int v_length, .int u43_place, .int u44_flaw, .ref h_bytes])), (h_bytes, .inl (cy 0, 60, .inl v_bytes))] H := hP
              have hD : va_D A [(h_newcomers, .inl (cy 3, 3, .inr (.inr (.inr (.inr (va_up v_newcomers 0 (some q10))))))), (q10, PEl tq10), (h_this, .inr (6, [.ref h_newcomers, .int v_length, .int u43_place, .int u44_flaw, .ref h_bytes])), (h_bytes, .inl (cy 0, 60, .inl v_bytes))] := hD
              refine W.eq (g2 := F0 m 54 ls [.null]) rfl ?_
              refine lv_astore_nN (lv' := [(3, .null), (2, .int 1), (1, .int 1), (0, .ref h_this)]) hx hb dX7_readVillage_54 rfl hl (by decide) rfl (fun ls hl => ?_)
              refine lv_aload_nN hx hb dX7_readVillage_55 rfl (lv_at hl 0 rfl) ?_
              refine lv_ifnullN (tgt := 74) hx hb dX7_readVillage_56 (by decide) ?_
              refine lv_iinc (v := 2) (lv' := [(2, .int 2), (3, .null), (1, .int 1), (0, .ref h_this)]) hx hb dX7_readVillage_74 hl (k := 1) rfl rfl (by decide) rfl (fun ls hl => ?_)
              refine lv_goto (tgt := 26) hx hb dX7_readVillage_77 (by decide) ?_
              refine lv_iload_n hx hb dX7_readVillage_26 rfl (lv_at hl 0 rfl) ?_
              refine lv_iconst (v := 3) hx hb dX7_readVillage_27 (by decide) ?_
              refine lv_icmp_gt (tgt := 80) hx hb dX7_readVillage_28 (by decide) (fun c9 => absurd c9 (by decide)) (fun _ => ?_)
              refine lv_aload_n hx hb dX7_readVillage_31 rfl (lv_at hl 3 rfl) ?_
              refine va_get (D := D) (ci := 6) (v := .int u44_flaw) (C := RX7) (T := TX7) (N := 5) hx hb hts inTX7 hown hK.1 hP 2 rfl rfl 3 (by decide) (hts _ t1_62) (fun _ h9 => h9) rfl dX7_readVillage_32 ?_
              refine lv_if_ne (tgt := 80) hx hb dX7_readVillage_35 (by decide) (fun c_ => ?_) (fun c_ => ?_)
              · have hF := hF.1 c_
                refine lv_aload_n hx hb dX7_readVillage_80 rfl (lv_at hl 3 rfl) ?_
                refine lv_iconst (v := 0) hx hb dX7_readVillage_81 (by decide) ?_
                refine va_put (D := D) (ci := 6) (v := .int 0) (ty := .int) (C := RX7) (T := TX7) (N := 5) hx hb hts inTX7 tyX7 tyX7_ok nmX7 hown hK.1 hP hD hS 2 rfl rfl 1 (by decide) (hts _ t1_58) (fun _ h9 => h9) rfl (tyX7_ok 1 (by decide)) rfl rfl (Nat.le_of_ble_eq_true rfl) dX7_readVillage_82 (fun H locs hP hD hS => ?_)
                have hP : va_P D CL [(h_newcomers, .inl (cy 3, 3, .inr (.inr (.inr (.inr (va_up v_newcomers 0 (some q10))))))), (q10, PEl tq10), (h_this, .inr (6, [.ref h_newcomers, .int 0, .int u43_place, .int u44_flaw, .ref h_bytes])), (h_bytes, .inl (cy 0, 60, .inl v_bytes))] H := hP
                have hD : va_D A [(h_newcomers, .inl (cy 3, 3, .inr (.inr (.inr (.inr (va_up v_newcomers 0 (some q10))))))), (q10, PEl tq10), (h_this, .inr (6, [.ref h_newcomers, .int 0, .int u43_place, .int u44_flaw, .ref h_bytes])), (h_bytes, .inl (cy 0, 60, .inl v_bytes))] := hD
                refine lv_iload_n hx hb dX7_readVillage_85 rfl (lv_at hl 2 rfl) ?_
                have hP : va_P D CL [(h_this, .inr (6, [.ref h_newcomers, .int 0, .int u43_place, .int u44_flaw, .ref h_bytes])), (h_bytes, .inl (cy 0, 60, .inl v_bytes)), (h_newcomers, .inl (cy 3, 3, .inr (.inr (.inr (.inr (va_up v_newcomers 0 (some q10))))))), (q10, PEl tq10)] H := (hP.sub [2, 3, 0, 1] rfl)
                have hD : va_D A [(h_this, .inr (6, [.ref h_newcomers, .int 0, .int u43_place, .int u44_flaw, .ref h_bytes])), (h_bytes, .inl (cy 0, 60, .inl v_bytes)), (h_newcomers, .inl (cy 3, 3, .inr (.inr (.inr (.inr (va_up v_newcomers 0 (some q10))))))), (q10, PEl tq10)] := (hD.sub [2, 3, 0, 1] (by decide) rfl)
                refine W.widen (k := 4) (n := 16) (by decide) (by decide) ?_
                exact rt_i C hQ rfl hP hD hS ⟨0, u43_place, u44_flaw, (va_up v_newcomers 0 (some q10)), [(q10, tq10)], (NSok_c ho_q10 NSok_0), rfl, hF⟩ dX7_readVillage_86
              · have hF := hF.2 c_
                refine lv_aload_n hx hb dX7_readVillage_38 rfl (lv_at hl 3 rfl) ?_
                refine va_get (D := D) (ci := 6) (v := .int u43_place) (C := RX7) (T := TX7) (N := 5) hx hb hts inTX7 hown hK.1 hP 2 rfl rfl 2 (by decide) (hts _ t1_60) (fun _ h9 => h9) rfl dX7_readVillage_39 ?_
                refine lv_aload_n hx hb dX7_readVillage_42 rfl (lv_at hl 3 rfl) ?_
                refine va_get (D := D) (ci := 6) (v := .int v_length) (C := RX7) (T := TX7) (N := 5) hx hb hts inTX7 hown hK.1 hP 2 rfl rfl 1 (by decide) (hts _ t1_58) (fun _ h9 => h9) rfl dX7_readVillage_43 ?_
                refine lv_icmp_ge (tgt := 80) hx hb dX7_readVillage_46 (by decide) (fun c_ => ?_) (fun c_ => ?_)
                · have hF := hF.1 c_
                  refine lv_aload_n hx hb dX7_readVillage_80 rfl (lv_at hl 3 rfl) ?_
                  refine lv_iconst (v := 0) hx hb dX7_readVillage_81 (by decide) ?_
                  refine va_put (D := D) (ci := 6) (v := .int 0) (ty := .int) (C := RX7) (T := TX7) (N := 5) hx hb hts inTX7 tyX7 tyX7_ok nmX7 hown hK.1 hP hD hS 2 rfl rfl 1 (by decide) (hts _ t1_58) (fun _ h9 => h9) rfl (tyX7_ok 1 (by decide)) rfl rfl (Nat.le_of_ble_eq_true rfl) dX7_readVillage_82 (fun H locs hP hD hS => ?_)
                  have hP : va_P D CL [(h_newcomers, .inl (cy 3, 3, .inr (.inr (.inr (.inr (va_up v_newcomers 0 (some q10))))))), (q10, PEl tq10), (h_this, .inr (6, [.ref h_newcomers, .int 0, .int u43_place, .int u44_flaw, .ref h_bytes])), (h_bytes, .inl (cy 0, 60, .inl v_bytes))] H := hP
                  have hD : va_D A [(h_newcomers, .inl (cy 3, 3, .inr (.inr (.inr (.inr (va_up v_newcomers 0 (some q10))))))), (q10, PEl tq10), (h_this, .inr (6, [.ref h_newcomers, .int 0, .int u43_place, .int u44_flaw, .ref h_bytes])), (h_bytes, .inl (cy 0, 60, .inl v_bytes))] := hD
                  refine lv_iload_n hx hb dX7_readVillage_85 rfl (lv_at hl 2 rfl) ?_
                  have hP : va_P D CL [(h_this, .inr (6, [.ref h_newcomers, .int 0, .int u43_place, .int u44_flaw, .ref h_bytes])), (h_bytes, .inl (cy 0, 60, .inl v_bytes)), (h_newcomers, .inl (cy 3, 3, .inr (.inr (.inr (.inr (va_up v_newcomers 0 (some q10))))))), (q10, PEl tq10)] H := (hP.sub [2, 3, 0, 1] rfl)
                  have hD : va_D A [(h_this, .inr (6, [.ref h_newcomers, .int 0, .int u43_place, .int u44_flaw, .ref h_bytes])), (h_bytes, .inl (cy 0, 60, .inl v_bytes)), (h_newcomers, .inl (cy 3, 3, .inr (.inr (.inr (.inr (va_up v_newcomers 0 (some q10))))))), (q10, PEl tq10)] := (hD.sub [2, 3, 0, 1] (by decide) rfl)
                  refine W.widen (k := 4) (n := 16) (by decide) (by decide) ?_
                  exact rt_i C hQ rfl hP hD hS ⟨0, u43_place, u44_flaw, (va_up v_newcomers 0 (some q10)), [(q10, tq10)], (NSok_c ho_q10 NSok_0), rfl, hF⟩ dX7_readVillage_86
                · have hF := hF.2 c_
                  refine lv_aload_n hx hb dX7_readVillage_49 rfl (lv_at hl 3 rfl) ?_
                  refine lv_iload_n hx hb dX7_readVillage_50 rfl (lv_at hl 0 rfl) ?_
                  refine cV_t (As := [.int 2]) (wr := [(h_newcomers, .inl (cy 3, 3, .inr (.inr (.inr (.inr (va_up v_newcomers 0 (some q10))))))), (q10, PEl tq10)]) C hA hP hD hS mfX7_readPerson t2_61 ts_4 t2_59 (ccX7_readPerson l D cy h_this h_bytes (.ref h_newcomers) v_length u43_place u44_flaw v_bytes 2 _ hF) [2, 3] [0, 1] rfl rfl (by decide) (by decide) (by decide) PO.np 2 6 rfl rfl rfl rfl hl.1 rfl (Nat.le_of_ble_eq_true rfl) dX7_readVillage_51 ⟨Nat.le_of_ble_eq_true rfl, Nat.le_of_ble_eq_true rfl⟩ ⟨Nat.le_of_ble_eq_true rfl, Nat.le_of_ble_eq_true rfl⟩ ?_
                  rintro r w1 H locs (⟨u47_place, u48_flaw, rfl, rfl, hF⟩ | ⟨q50, tq50, u47_place, u48_flaw, ho_q50, rfl, rfl, hF⟩) hP hD hS
                  · have hF := hF.1 rfl
                    have hP : va_P D CL [(h_newcomers, .inl (cy 3, 3, .inr (.inr (.inr (.inr (va_up v_newcomers 0 (some q10))))))), (q10, PEl tq10), (h_this, .inr (6, [.ref h_newcomers, .int v_length, .int u47_place, .int u48_flaw, .ref h_bytes])), (h_bytes, .inl (cy 0, 60, .inl v_bytes))] H := hP
                    have hD : va_D A [(h_newcomers, .inl (cy 3, 3, .inr (.inr (.inr (.inr (va_up v_newcomers 0 (some q10))))))), (q10, PEl tq10), (h_this, .inr (6, [.ref h_newcomers, .int v_length, .int u47_place, .int u48_flaw, .ref h_bytes])), (h_bytes, .inl (cy 0, 60, .inl v_bytes))] := hD
                    refine W.eq (g2 := F0 m 54 ls [.null]) rfl ?_
                    refine lv_astore_nN (lv' := [(3, .null), (2, .int 2), (1, .int 1), (0, .ref h_this)]) hx hb dX7_readVillage_54 rfl hl (by decide) rfl (fun ls hl => ?_)
                    refine lv_aload_nN hx hb dX7_readVillage_55 rfl (lv_at hl 0 rfl) ?_
                    refine lv_ifnullN (tgt := 74) hx hb dX7_readVillage_56 (by decide) ?_
                    refine lv_iinc (v := 3) (lv' := [(2, .int 3), (3, .null), (1, .int 1), (0, .ref h_this)]) hx hb dX7_readVillage_74 hl (k := 1) rfl rfl (by decide) rfl (fun ls hl => ?_)
                    refine lv_goto (tgt := 26) hx hb dX7_readVillage_77 (by decide) ?_
                    refine lv_iload_n hx hb dX7_readVillage_26 rfl (lv_at hl 0 rfl) ?_
                    refine lv_iconst (v := 3) hx hb dX7_readVillage_27 (by decide) ?_
                    refine lv_icmp_gt (tgt := 80) hx hb dX7_readVillage_28 (by decide) (fun c9 => absurd c9 (by decide)) (fun _ => ?_)
                    refine lv_aload_n hx hb dX7_readVillage_31 rfl (lv_at hl 3 rfl) ?_
                    refine va_get (D := D) (ci := 6) (v := .int u48_flaw) (C := RX7) (T := TX7) (N := 5) hx hb hts inTX7 hown hK.1 hP 2 rfl rfl 3 (by decide) (hts _ t1_62) (fun _ h9 => h9) rfl dX7_readVillage_32 ?_
                    refine lv_if_ne (tgt := 80) hx hb dX7_readVillage_35 (by decide) (fun c_ => ?_) (fun c_ => ?_)
                    · have hF := hF.1 c_
                      refine lv_aload_n hx hb dX7_readVillage_80 rfl (lv_at hl 3 rfl) ?_
                      refine lv_iconst (v := 0) hx hb dX7_readVillage_81 (by decide) ?_
                      refine va_put (D := D) (ci := 6) (v := .int 0) (ty := .int) (C := RX7) (T := TX7) (N := 5) hx hb hts inTX7 tyX7 tyX7_ok nmX7 hown hK.1 hP hD hS 2 rfl rfl 1 (by decide) (hts _ t1_58) (fun _ h9 => h9) rfl (tyX7_ok 1 (by decide)) rfl rfl (Nat.le_of_ble_eq_true rfl) dX7_readVillage_82 (fun H locs hP hD hS => ?_)
                      have hP : va_P D CL [(h_newcomers, .inl (cy 3, 3, .inr (.inr (.inr (.inr (va_up v_newcomers 0 (some q10))))))), (q10, PEl tq10), (h_this, .inr (6, [.ref h_newcomers, .int 0, .int u47_place, .int u48_flaw, .ref h_bytes])), (h_bytes, .inl (cy 0, 60, .inl v_bytes))] H := hP
                      have hD : va_D A [(h_newcomers, .inl (cy 3, 3, .inr (.inr (.inr (.inr (va_up v_newcomers 0 (some q10))))))), (q10, PEl tq10), (h_this, .inr (6, [.ref h_newcomers, .int 0, .int u47_place, .int u48_flaw, .ref h_bytes])), (h_bytes, .inl (cy 0, 60, .inl v_bytes))] := hD
                      refine lv_iload_n hx hb dX7_readVillage_85 rfl (lv_at hl 2 rfl) ?_
                      have hP : va_P D CL [(h_this, .inr (6, [.ref h_newcomers, .int 0, .int u47_place, .int u48_flaw, .ref h_bytes])), (h_bytes, .inl (cy 0, 60, .inl v_bytes)), (h_newcomers, .inl (cy 3, 3, .inr (.inr (.inr (.inr (va_up v_newcomers 0 (some q10))))))), (q10, PEl tq10)] H := (hP.sub [2, 3, 0, 1] rfl)
                      have hD : va_D A [(h_this, .inr (6, [.ref h_newcomers, .int 0, .int u47_place, .int u48_flaw, .ref h_bytes])), (h_bytes, .inl (cy 0, 60, .inl v_bytes)), (h_newcomers, .inl (cy 3, 3, .inr (.inr (.inr (.inr (va_up v_newcomers 0 (some q10))))))), (q10, PEl tq10)] := (hD.sub [2, 3, 0, 1] (by decide) rfl)
                      refine W.widen (k := 4) (n := 16) (by decide) (by decide) ?_
                      exact rt_i C hQ rfl hP hD hS ⟨0, u47_place, u48_flaw, (va_up v_newcomers 0 (some q10)), [(q10, tq10)], (NSok_c ho_q10 NSok_0), rfl, hF⟩ dX7_readVillage_86
                    · have hF := hF.2 c_
                      refine lv_aload_n hx hb dX7_readVillage_38 rfl (lv_at hl 3 rfl) ?_
                      refine va_get (D := D) (ci := 6) (v := .int u47_place) (C := RX7) (T := TX7) (N := 5) hx hb hts inTX7 hown hK.1 hP 2 rfl rfl 2 (by decide) (hts _ t1_60) (fun _ h9 => h9) rfl dX7_readVillage_39 ?_
                      refine lv_aload_n hx hb dX7_readVillage_42 rfl (lv_at hl 3 rfl) ?_
                      refine va_get (D := D) (ci := 6) (v := .int v_length) (C := RX7) (T := TX7) (N := 5) hx hb hts inTX7 hown hK.1 hP 2 rfl rfl 1 (by decide) (hts _ t1_58) (fun _ h9 => h9) rfl dX7_readVillage_43 ?_
                      refine lv_icmp_ge (tgt := 80) hx hb dX7_readVillage_46 (by decide) (fun c_ => ?_) (fun c_ => ?_)
                      · have hF := hF.1 c_
                        refine lv_aload_n hx hb dX7_readVillage_80 rfl (lv_at hl 3 rfl) ?_
                        refine lv_iconst (v := 0) hx hb dX7_readVillage_81 (by decide) ?_
                        refine va_put (D := D) (ci := 6) (v := .int 0) (ty := .int) (C := RX7) (T := TX7) (N := 5) hx hb hts inTX7 tyX7 tyX7_ok nmX7 hown hK.1 hP hD hS 2 rfl rfl 1 (by decide) (hts _ t1_58) (fun _ h9 => h9) rfl (tyX7_ok 1 (by decide)) rfl rfl (Nat.le_of_ble_eq_true rfl) dX7_readVillage_82 (fun H locs hP hD hS => ?_)
                        have hP : va_P D CL [(h_newcomers, .inl (cy 3, 3, .inr (.inr (.inr (.inr (va_up v_newcomers 0 (some q10))))))), (q10, PEl tq10), (h_this, .inr (6, [.ref h_newcomers, .int 0, .int u47_place, .int u48_flaw, .ref h_bytes])), (h_bytes, .inl (cy 0, 60, .inl v_bytes))] H := hP
                        have hD : va_D A [(h_newcomers, .inl (cy 3, 3, .inr (.inr (.inr (.inr (va_up v_newcomers 0 (some q10))))))), (q10, PEl tq10), (h_this, .inr (6, [.ref h_newcomers, .int 0, .int u47_place, .int u48_flaw, .ref h_bytes])), (h_bytes, .inl (cy 0, 60, .inl v_bytes))] := hD
                        refine lv_iload_n hx hb dX7_readVillage_85 rfl (lv_at hl 2 rfl) ?_
                        have hP : va_P D CL [(h_this, .inr (6, [.ref h_newcomers, .int 0, .int u47_place, .int u48_flaw, .ref h_bytes])), (h_bytes, .inl (cy 0, 60, .inl v_bytes)), (h_newcomers, .inl (cy 3, 3, .inr (.inr (.inr (.inr (va_up v_newcomers 0 (some q10))))))), (q10, PEl tq10)] H := (hP.sub [2, 3, 0, 1] rfl)
                        have hD : va_D A [(h_this, .inr (6, [.ref h_newcomers, .int 0, .int u47_place, .int u48_flaw, .ref h_bytes])), (h_bytes, .inl (cy 0, 60, .inl v_bytes)), (h_newcomers, .inl (cy 3, 3, .inr (.inr (.inr (.inr (va_up v_newcomers 0 (some q10))))))), (q10, PEl tq10)] := (hD.sub [2, 3, 0, 1] (by decide) rfl)
                        refine W.widen (k := 4) (n := 16) (by decide) (by decide) ?_
                        exact rt_i C hQ rfl hP hD hS ⟨0, u47_place, u48_flaw, (va_up v_newcomers 0 (some q10)), [(q10, tq10)], (NSok_c ho_q10 NSok_0), rfl, hF⟩ dX7_readVillage_86
                      · have hF := hF.2 c_
                        refine lv_aload_n hx hb dX7_readVillage_49 rfl (lv_at hl 3 rfl) ?_
                        refine lv_iload_n hx hb dX7_readVillage_50 rfl (lv_at hl 0 rfl) ?_
                        refine cV_t (As := [.int 3]) (wr := [(h_newcomers, .inl (cy 3, 3, .inr (.inr (.inr (.inr (va_up v_newcomers 0 (some q10))))))), (q10, PEl tq10)]) C hA hP hD hS mfX7_readPerson t2_61 ts_4 t2_59 (ccX7_readPerson l D cy h_this h_bytes (.ref h_newcomers) v_length u47_place u48_flaw v_bytes 3 _ hF) [2, 3] [0, 1] rfl rfl (by decide) (by decide) (by decide) PO.np 2 6 rfl rfl rfl rfl hl.1 rfl (Nat.le_of_ble_eq_true rfl) dX7_readVillage_51 ⟨Nat.le_of_ble_eq_true rfl, Nat.le_of_ble_eq_true rfl⟩ ⟨Nat.le_of_ble_eq_true rfl, Nat.le_of_ble_eq_true rfl⟩ ?_
                        rintro r w1 H locs (⟨u51_place, u52_flaw, rfl, rfl, hF⟩ | ⟨q54, tq54, u51_place, u52_flaw, ho_q54, rfl, rfl, hF⟩) hP hD hS
                        · have hF := hF.1 rfl
                          have hP : va_P D CL [(h_newcomers, .inl (cy 3, 3, .inr (.inr (.inr (.inr (va_up v_newcomers 0 (some q10))))))), (q10, PEl tq10), (h_this, .inr (6, [.ref h_newcomers, .int v_length, .int u51_place, .int u52_flaw, .ref h_bytes])), (h_bytes, .inl (cy 0, 60, .inl v_bytes))] H := hP
                          have hD : va_D A [(h_newcomers, .inl (cy 3, 3, .inr (.inr (.inr (.inr (va_up v_newcomers 0 (some q10))))))), (q10, PEl tq10), (h_this, .inr (6, [.ref h_newcomers, .int v_length, .int u51_place, .int u52_flaw, .ref h_bytes])), (h_bytes, .inl (cy 0, 60, .inl v_bytes))] := hD
                          refine W.eq (g2 := F0 m 54 ls [.null]) rfl ?_
                          refine lv_astore_nN (lv' := [(3, .null), (2, .int 3), (1, .int 1), (0, .ref h_this)]) hx hb dX7_readVillage_54 rfl hl (by decide) rfl (fun ls hl => ?_)
                          refine lv_aload_nN hx hb dX7_readVillage_55 rfl (lv_at hl 0 rfl) ?_
                          refine lv_ifnullN (tgt := 74) hx hb dX7_readVillage_56 (by decide) ?_
                          refine lv_iinc (v := 4) (lv' := [(2, .int 4), (3, .null), (1, .int 1), (0, .ref h_this)]) hx hb dX7_readVillage_74 hl (k := 1) rfl rfl (by decide) rfl (fun ls hl => ?_)
                          refine lv_goto (tgt := 26) hx hb dX7_readVillage_77 (by decide) ?_
                          refine lv_iload_n hx hb dX7_readVillage_26 rfl (lv_at hl 0 rfl) ?_
                          refine lv_iconst (v := 3) hx hb dX7_readVillage_27 (by decide) ?_
                          refine lv_icmp_gt (tgt := 80) hx hb dX7_readVillage_28 (by decide) (fun _ => ?_) (fun c9 => absurd (by decide) c9)
                          refine lv_aload_n hx hb dX7_readVillage_80 rfl (lv_at hl 3 rfl) ?_
                          refine lv_iconst (v := 0) hx hb dX7_readVillage_81 (by decide) ?_
                          refine va_put (D := D) (ci := 6) (v := .int 0) (ty := .int) (C := RX7) (T := TX7) (N := 5) hx hb hts inTX7 tyX7 tyX7_ok nmX7 hown hK.1 hP hD hS 2 rfl rfl 1 (by decide) (hts _ t1_58) (fun _ h9 => h9) rfl (tyX7_ok 1 (by decide)) rfl rfl (Nat.le_of_ble_eq_true rfl) dX7_readVillage_82 (fun H locs hP hD hS => ?_)
                          have hP : va_P D CL [(h_newcomers, .inl (cy 3, 3, .inr (.inr (.inr (.inr (va_up v_newcomers 0 (some q10))))))), (q10, PEl tq10), (h_this, .inr (6, [.ref h_newcomers, .int 0, .int u51_place, .int u52_flaw, .ref h_bytes])), (h_bytes, .inl (cy 0, 60, .inl v_bytes))] H := hP
                          have hD : va_D A [(h_newcomers, .inl (cy 3, 3, .inr (.inr (.inr (.inr (va_up v_newcomers 0 (some q10))))))), (q10, PEl tq10), (h_this, .inr (6, [.ref h_newcomers, .int 0, .int u51_place, .int u52_flaw, .ref h_bytes])), (h_bytes, .inl (cy 0, 60, .inl v_bytes))] := hD
                          refine lv_iload_n hx hb dX7_readVillage_85 rfl (lv_at hl 2 rfl) ?_
                          have hP : va_P D CL [(h_this, .inr (6, [.ref h_newcomers, .int 0, .int u51_place, .int u52_flaw, .ref h_bytes])), (h_bytes, .inl (cy 0, 60, .inl v_bytes)), (h_newcomers, .inl (cy 3, 3, .inr (.inr (.inr (.inr (va_up v_newcomers 0 (some q10))))))), (q10, PEl tq10)] H := (hP.sub [2, 3, 0, 1] rfl)
                          have hD : va_D A [(h_this, .inr (6, [.ref h_newcomers, .int 0, .int u51_place, .int u52_flaw, .ref h_bytes])), (h_bytes, .inl (cy 0, 60, .inl v_bytes)), (h_newcomers, .inl (cy 3, 3, .inr (.inr (.inr (.inr (va_up v_newcomers 0 (some q10))))))), (q10, PEl tq10)] := (hD.sub [2, 3, 0, 1] (by decide) rfl)
                          refine W.widen (k := 4) (n := 16) (by decide) (by decide) ?_
                          exact rt_i C hQ rfl hP hD hS ⟨0, u51_place, u52_flaw, (va_up v_newcomers 0 (some q10)), [(q10, tq10)], (NSok_c ho_q10 NSok_0), rfl, hF⟩ dX7_readVillage_86
                        · have hF := hF.2 q54 tq54 rfl
                          have hP : va_P D CL [(h_newcomers, .inl (cy 3, 3, .inr (.inr (.inr (.inr (va_up v_newcomers 0 (some q10))))))), (q10, PEl tq10), (h_this, .inr (6, [.ref h_newcomers, .int v_length, .int u51_place, .int u52_flaw, .ref h_bytes])), (h_bytes, .inl (cy 0, 60, .inl v_bytes)), (q54, PEl tq54)] H := hP
                          have hD : va_D A [(h_newcomers, .inl (cy 3, 3, .inr (.inr (.inr (.inr (va_up v_newcomers 0 (some q10))))))), (q10, PEl tq10), (h_this, .inr (6, [.ref h_newcomers, .int v_length, .int u51_place, .int u52_flaw, .ref h_bytes])), (h_bytes, .inl (cy 0, 60, .inl v_bytes)), (q54, PEl tq54)] := hD
                          refine W.eq (g2 := F0 m 54 ls [.ref q54]) rfl ?_
                          refine lv_astore_n (lv' := [(3, .ref q54), (2, .int 3), (1, .int 1), (0, .ref h_this)]) hx hb dX7_readVillage_54 rfl hl (by decide) rfl (fun ls hl => ?_)
                          refine lv_aload_n hx hb dX7_readVillage_55 rfl (lv_at hl 0 rfl) ?_
                          refine lv_ifnull hx hb dX7_readVillage_56 ?_
                          refine lv_iload_n hx hb dX7_readVillage_59 rfl (lv_at hl 1 rfl) ?_
                          refine lv_iconst (v := 3) hx hb dX7_readVillage_60 (by decide) ?_
                          refine lv_icmp_ge (tgt := 74) hx hb dX7_readVillage_61 (by decide) (fun _ => ?_) (fun c9 => absurd (by decide) c9)
                          refine lv_iinc (v := 4) (lv' := [(2, .int 4), (3, .ref q54), (1, .int 1), (0, .ref h_this)]) hx hb dX7_readVillage_74 hl (k := 1) rfl rfl (by decide) rfl (fun ls hl => ?_)
                          refine lv_goto (tgt := 26) hx hb dX7_readVillage_77 (by decide) ?_
                          refine lv_iload_n hx hb dX7_readVillage_26 rfl (lv_at hl 0 rfl) ?_
                          refine lv_iconst (v := 3) hx hb dX7_readVillage_27 (by decide) ?_
                          refine lv_icmp_gt (tgt := 80) hx hb dX7_readVillage_28 (by decide) (fun _ => ?_) (fun c9 => absurd (by decide) c9)
                          refine lv_aload_n hx hb dX7_readVillage_80 rfl (lv_at hl 3 rfl) ?_
                          refine lv_iconst (v := 0) hx hb dX7_readVillage_81 (by decide) ?_
                          refine va_put (D := D) (ci := 6) (v := .int 0) (ty := .int) (C := RX7) (T := TX7) (N := 5) hx hb hts inTX7 tyX7 tyX7_ok nmX7 hown hK.1 hP hD hS 2 rfl rfl 1 (by decide) (hts _ t1_58) (fun _ h9 => h9) rfl (tyX7_ok 1 (by decide)) rfl rfl (Nat.le_of_ble_eq_true rfl) dX7_readVillage_82 (fun H locs hP hD hS => ?_)
                          have hP : va_P D CL [(h_newcomers, .inl (cy 3, 3, .inr (.inr (.inr (.inr (va_up v_newcomers 0 (some q10))))))), (q10, PEl tq10), (h_this, .inr (6, [.ref h_newcomers, .int 0, .int u51_place, .int u52_flaw, .ref h_bytes])), (h_bytes, .inl (cy 0, 60, .inl v_bytes)), (q54, PEl tq54)] H := hP
                          have hD : va_D A [(h_newcomers, .inl (cy 3, 3, .inr (.inr (.inr (.inr (va_up v_newcomers 0 (some q10))))))), (q10, PEl tq10), (h_this, .inr (6, [.ref h_newcomers, .int 0, .int u51_place, .int u52_flaw, .ref h_bytes])), (h_bytes, .inl (cy 0, 60, .inl v_bytes)), (q54, PEl tq54)] := hD
                          refine lv_iload_n hx hb dX7_readVillage_85 rfl (lv_at hl 2 rfl) ?_
                          have hP : va_P D CL [(h_this, .inr (6, [.ref h_newcomers, .int 0, .int u51_place, .int u52_flaw, .ref h_bytes])), (h_bytes, .inl (cy 0, 60, .inl v_bytes)), (h_newcomers, .inl (cy 3, 3, .inr (.inr (.inr (.inr (va_up v_newcomers 0 (some q10))))))), (q10, PEl tq10), (q54, PEl tq54)] H := (hP.sub [2, 3, 0, 1, 4] rfl)
                          have hD : va_D A [(h_this, .inr (6, [.ref h_newcomers, .int 0, .int u51_place, .int u52_flaw, .ref h_bytes])), (h_bytes, .inl (cy 0, 60, .inl v_bytes)), (h_newcomers, .inl (cy 3, 3, .inr (.inr (.inr (.inr (va_up v_newcomers 0 (some q10))))))), (q10, PEl tq10), (q54, PEl tq54)] := (hD.sub [2, 3, 0, 1, 4] (by decide) rfl)
                          refine W.widen (k := 4) (n := 16) (by decide) (by decide) ?_
                          exact rt_i C hQ rfl hP hD hS ⟨0, u51_place, u52_flaw, (va_up v_newcomers 0 (some q10)), [(q10, tq10), (q54, tq54)], (NSok_c ho_q10 (NSok_c ho_q54 NSok_0)), rfl, hF⟩ dX7_readVillage_86
                  · have hF := hF.2 q50 tq50 rfl
                    have hP : va_P D CL [(h_newcomers, .inl (cy 3, 3, .inr (.inr (.inr (.inr (va_up v_newcomers 0 (some q10))))))), (q10, PEl tq10), (h_this, .inr (6, [.ref h_newcomers, .int v_length, .int u47_place, .int u48_flaw, .ref h_bytes])), (h_bytes, .inl (cy 0, 60, .inl v_bytes)), (q50, PEl tq50)] H := hP
                    have hD : va_D A [(h_newcomers, .inl (cy 3, 3, .inr (.inr (.inr (.inr (va_up v_newcomers 0 (some q10))))))), (q10, PEl tq10), (h_this, .inr (6, [.ref h_newcomers, .int v_length, .int u47_place, .int u48_flaw, .ref h_bytes])), (h_bytes, .inl (cy 0, 60, .inl v_bytes)), (q50, PEl tq50)] := hD
                    refine W.eq (g2 := F0 m 54 ls [.ref q50]) rfl ?_
                    refine lv_astore_n (lv' := [(3, .ref q50), (2, .int 2), (1, .int 1), (0, .ref h_this)]) hx hb dX7_readVillage_54 rfl hl (by decide) rfl (fun ls hl => ?_)
                    refine lv_aload_n hx hb dX7_readVillage_55 rfl (lv_at hl 0 rfl) ?_
                    refine lv_ifnull hx hb dX7_readVillage_56 ?_
                    refine lv_iload_n hx hb dX7_readVillage_59 rfl (lv_at hl 1 rfl) ?_
                    refine lv_iconst (v := 3) hx hb dX7_readVillage_60 (by decide) ?_
                    refine lv_icmp_ge (tgt := 74) hx hb dX7_readVillage_61 (by decide) (fun c9 => absurd c9 (by decide)) (fun _ => ?_)
                    refine lv_aload_n hx hb dX7_readVillage_64 rfl (lv_at hl 3 rfl) ?_
                    refine va_get (D := D) (ci := 6) (v := .ref h_newcomers) (C := RX7) (T := TX7) (N := 5) hx hb hts inTX7 hown hK.1 hP 2 rfl rfl 0 (by decide) (hts _ t1_56) (fun _ h9 => h9) rfl dX7_readVillage_65 ?_
                    refine lv_iload_n hx hb dX7_readVillage_68 rfl (lv_at hl 1 rfl) ?_
                    refine lv_aload_n hx hb dX7_readVillage_69 rfl (lv_at hl 0 rfl) ?_
                    refine va_astqM hx hb hK.1 hP hD hS 0 3 rfl rfl (new_any hK hP (k := 4) rfl ho_q50) (vi (by decide)) dX7_readVillage_70 (fun H locs hP hD hS => ?_)
                    have hP : va_P D CL [(h_newcomers, .inl (cy 3, 3, .inr (.inr (.inr (.inr (va_up (va_up v_newcomers 0 (some q10)) 2 (some q50))))))), (q10, PEl tq10), (h_this, .inr (6, [.ref h_newcomers, .int v_length, .int u47_place, .int u48_flaw, .ref h_bytes])), (h_bytes, .inl (cy 0, 60, .inl v_bytes)), (q50, PEl tq50)] H := hP
                    have hD : va_D A [(h_newcomers, .inl (cy 3, 3, .inr (.inr (.inr (.inr (va_up (va_up v_newcomers 0 (some q10)) 2 (some q50))))))), (q10, PEl tq10), (h_this, .inr (6, [.ref h_newcomers, .int v_length, .int u47_place, .int u48_flaw, .ref h_bytes])), (h_bytes, .inl (cy 0, 60, .inl v_bytes)), (q50, PEl tq50)] := hD
                    refine lv_iinc (v := 2) (lv' := [(1, .int 2), (3, .ref q50), (2, .int 2), (0, .ref h_this)]) hx hb dX7_readVillage_71 hl (k := 2) rfl rfl (by decide) rfl (fun ls hl => ?_)
                    refine lv_iinc (v := 3) (lv' := [(2, .int 3), (1, .int 2), (3, .ref q50), (0, .ref h_this)]) hx hb dX7_readVillage_74 hl (k := 2) rfl rfl (by decide) rfl (fun ls hl => ?_)
                    refine lv_goto (tgt := 26) hx hb dX7_readVillage_77 (by decide) ?_
                    refine lv_iload_n hx hb dX7_readVillage_26 rfl (lv_at hl 0 rfl) ?_
                    refine lv_iconst (v := 3) hx hb dX7_readVillage_27 (by decide) ?_
                    refine lv_icmp_gt (tgt := 80) hx hb dX7_readVillage_28 (by decide) (fun c9 => absurd c9 (by decide)) (fun _ => ?_)
                    refine lv_aload_n hx hb dX7_readVillage_31 rfl (lv_at hl 3 rfl) ?_
                    refine va_get (D := D) (ci := 6) (v := .int u48_flaw) (C := RX7) (T := TX7) (N := 5) hx hb hts inTX7 hown hK.1 hP 2 rfl rfl 3 (by decide) (hts _ t1_62) (fun _ h9 => h9) rfl dX7_readVillage_32 ?_
                    refine lv_if_ne (tgt := 80) hx hb dX7_readVillage_35 (by decide) (fun c_ => ?_) (fun c_ => ?_)
                    · have hF := hF.1 c_
                      refine lv_aload_n hx hb dX7_readVillage_80 rfl (lv_at hl 3 rfl) ?_
                      refine lv_iconst (v := 0) hx hb dX7_readVillage_81 (by decide) ?_
                      refine va_put (D := D) (ci := 6) (v := .int 0) (ty := .int) (C := RX7) (T := TX7) (N := 5) hx hb hts inTX7 tyX7 tyX7_ok nmX7 hown hK.1 hP hD hS 2 rfl rfl 1 (by decide) (hts _ t1_58) (fun _ h9 => h9) rfl (tyX7_ok 1 (by decide)) rfl rfl (Nat.le_of_ble_eq_true rfl) dX7_readVillage_82 (fun H locs hP hD hS => ?_)
                      have hP : va_P D CL [(h_newcomers, .inl (cy 3, 3, .inr (.inr (.inr (.inr (va_up (va_up v_newcomers 0 (some q10)) 2 (some q50))))))), (q10, PEl tq10), (h_this, .inr (6, [.ref h_newcomers, .int 0, .int u47_place, .int u48_flaw, .ref h_bytes])), (h_bytes, .inl (cy 0, 60, .inl v_bytes)), (q50, PEl tq50)] H := hP
                      have hD : va_D A [(h_newcomers, .inl (cy 3, 3, .inr (.inr (.inr (.inr (va_up (va_up v_newcomers 0 (some q10)) 2 (some q50))))))), (q10, PEl tq10), (h_this, .inr (6, [.ref h_newcomers, .int 0, .int u47_place, .int u48_flaw, .ref h_bytes])), (h_bytes, .inl (cy 0, 60, .inl v_bytes)), (q50, PEl tq50)] := hD
                      refine lv_iload_n hx hb dX7_readVillage_85 rfl (lv_at hl 1 rfl) ?_
                      have hP : va_P D CL [(h_this, .inr (6, [.ref h_newcomers, .int 0, .int u47_place, .int u48_flaw, .ref h_bytes])), (h_bytes, .inl (cy 0, 60, .inl v_bytes)), (h_newcomers, .inl (cy 3, 3, .inr (.inr (.inr (.inr (va_up (va_up v_newcomers 0 (some q10)) 2 (some q50))))))), (q10, PEl tq10), (q50, PEl tq50)] H := (hP.sub [2, 3, 0, 1, 4] rfl)
                      have hD : va_D A [(h_this, .inr (6, [.ref h_newcomers, .int 0, .int u47_place, .int u48_flaw, .ref h_bytes])), (h_bytes, .inl (cy 0, 60, .inl v_bytes)), (h_newcomers, .inl (cy 3, 3, .inr (.inr (.inr (.inr (va_up (va_up v_newcomers 0 (some q10)) 2 (some q50))))))), (q10, PEl tq10), (q50, PEl tq50)] := (hD.sub [2, 3, 0, 1, 4] (by decide) rfl)
                      refine W.widen (k := 4) (n := 16) (by decide) (by decide) ?_
                      exact rt_i C hQ rfl hP hD hS ⟨0, u47_place, u48_flaw, (va_up (va_up v_newcomers 0 (some q10)) 2 (some q50)), [(q10, tq10), (q50, tq50)], (NSok_c ho_q10 (NSok_c ho_q50 NSok_0)), rfl, hF⟩ dX7_readVillage_86
                    · have hF := hF.2 c_
                      refine lv_aload_n hx hb dX7_readVillage_38 rfl (lv_at hl 3 rfl) ?_
                      refine va_get (D := D) (ci := 6) (v := .int u47_place) (C := RX7) (T := TX7) (N := 5) hx hb hts inTX7 hown hK.1 hP 2 rfl rfl 2 (by decide) (hts _ t1_60) (fun _ h9 => h9) rfl dX7_readVillage_39 ?_
                      refine lv_aload_n hx hb dX7_readVillage_42 rfl (lv_at hl 3 rfl) ?_
                      refine va_get (D := D) (ci := 6) (v := .int v_length) (C := RX7) (T := TX7) (N := 5) hx hb hts inTX7 hown hK.1 hP 2 rfl rfl 1 (by decide) (hts _ t1_58) (fun _ h9 => h9) rfl dX7_readVillage_43 ?_
                      refine lv_icmp_ge (tgt := 80) hx hb dX7_readVillage_46 (by decide) (fun c_ => ?_) (fun c_ => ?_)
                      · have hF := hF.1 c_
                        refine lv_aload_n hx hb dX7_readVillage_80 rfl (lv_at hl 3 rfl) ?_
                        refine lv_iconst (v := 0) hx hb dX7_readVillage_81 (by decide) ?_
                        refine va_put (D := D) (ci := 6) (v := .int 0) (ty := .int) (C := RX7) (T := TX7) (N := 5) hx hb hts inTX7 tyX7 tyX7_ok nmX7 hown hK.1 hP hD hS 2 rfl rfl 1 (by decide) (hts _ t1_58) (fun _ h9 => h9) rfl (tyX7_ok 1 (by decide)) rfl rfl (Nat.le_of_ble_eq_true rfl) dX7_readVillage_82 (fun H locs hP hD hS => ?_)
                        have hP : va_P D CL [(h_newcomers, .inl (cy 3, 3, .inr (.inr (.inr (.inr (va_up (va_up v_newcomers 0 (some q10)) 2 (some q50))))))), (q10, PEl tq10), (h_this, .inr (6, [.ref h_newcomers, .int 0, .int u47_place, .int u48_flaw, .ref h_bytes])), (h_bytes, .inl (cy 0, 60, .inl v_bytes)), (q50, PEl tq50)] H := hP
                        have hD : va_D A [(h_newcomers, .inl (cy 3, 3, .inr (.inr (.inr (.inr (va_up (va_up v_newcomers 0 (some q10)) 2 (some q50))))))), (q10, PEl tq10), (h_this, .inr (6, [.ref h_newcomers, .int 0, .int u47_place, .int u48_flaw, .ref h_bytes])), (h_bytes, .inl (cy 0, 60, .inl v_bytes)), (q50, PEl tq50)] := hD
                        refine lv_iload_n hx hb dX7_readVillage_85 rfl (lv_at hl 1 rfl) ?_
                        have hP : va_P D CL [(h_this, .inr (6, [.ref h_newcomers, .int 0, .int u47_place, .int u48_flaw, .ref h_bytes])), (h_bytes, .inl (cy 0, 60, .inl v_bytes)), (h_newcomers, .inl (cy 3, 3, .inr (.inr (.inr (.inr (va_up (va_up v_newcomers 0 (some q10)) 2 (some q50))))))), (q10, PEl tq10), (q50, PEl tq50)] H := (hP.sub [2, 3, 0, 1, 4] rfl)
                        have hD : va_D A [(h_this, .inr (6, [.ref h_newcomers, .int 0, .int u47_place, .int u48_flaw, .ref h_bytes])), (h_bytes, .inl (cy 0, 60, .inl v_bytes)), (h_newcomers, .inl (cy 3, 3, .inr (.inr (.inr (.inr (va_up (va_up v_newcomers 0 (some q10)) 2 (some q50))))))), (q10, PEl tq10), (q50, PEl tq50)] := (hD.sub [2, 3, 0, 1, 4] (by decide) rfl)
                        refine W.widen (k := 4) (n := 16) (by decide) (by decide) ?_
                        exact rt_i C hQ rfl hP hD hS ⟨0, u47_place, u48_flaw, (va_up (va_up v_newcomers 0 (some q10)) 2 (some q50)), [(q10, tq10), (q50, tq50)], (NSok_c ho_q10 (NSok_c ho_q50 NSok_0)), rfl, hF⟩ dX7_readVillage_86
                      · have hF := hF.2 c_
                        refine lv_aload_n hx hb dX7_readVillage_49 rfl (lv_at hl 3 rfl) ?_
                        refine lv_iload_n hx hb dX7_readVillage_50 rfl (lv_at hl 0 rfl) ?_
                        refine cV_t (As := [.int 3]) (wr := [(h_newcomers, .inl (cy 3, 3, .inr (.inr (.inr (.inr (va_up (va_up v_newcomers 0 (some q10)) 2 (some q50))))))), (q10, PEl tq10), (q50, PEl tq50)]) C hA hP hD hS mfX7_readPerson t2_61 ts_4 t2_59 (ccX7_readPerson l D cy h_this h_bytes (.ref h_newcomers) v_length u47_place u48_flaw v_bytes 3 _ hF) [2, 3] [0, 1, 4] rfl rfl (by decide) (by decide) (by decide) PO.np 2 6 rfl rfl rfl rfl hl.1 rfl (Nat.le_of_ble_eq_true rfl) dX7_readVillage_51 ⟨Nat.le_of_ble_eq_true rfl, Nat.le_of_ble_eq_true rfl⟩ ⟨Nat.le_of_ble_eq_true rfl, Nat.le_of_ble_eq_true rfl⟩ ?_
                        rintro r w1 H locs (⟨u56_place, u57_flaw, rfl, rfl, hF⟩ | ⟨q59, tq59, u56_place, u57_flaw, ho_q59, rfl, rfl, hF⟩) hP hD hS
                        · have hF := hF.1 rfl
                          have hP : va_P D CL [(h_newcomers, .inl (cy 3, 3, .inr (.inr (.inr (.inr (va_up (va_up v_newcomers 0 (some q10)) 2 (some q50))))))), (q10, PEl tq10), (q50, PEl tq50), (h_this, .inr (6, [.ref h_newcomers, .int v_length, .int u56_place, .int u57_flaw, .ref h_bytes])), (h_bytes, .inl (cy 0, 60, .inl v_bytes))] H := hP
                          have hD : va_D A [(h_newcomers, .inl (cy 3, 3, .inr (.inr (.inr (.inr (va_up (va_up v_newcomers 0 (some q10)) 2 (some q50))))))), (q10, PEl tq10), (q50, PEl tq50), (h_this, .inr (6, [.ref h_newcomers, .int v_length, .int u56_place, .int u57_flaw, .ref h_bytes])), (h_bytes, .inl (cy 0, 60, .inl v_bytes))] := hD
                          refine W.eq (g2 := F0 m 54 ls [.null]) rfl ?_
                          refine lv_astore_nN (lv' := [(3, .null), (2, .int 3), (1, .int 2), (0, .ref h_this)]) hx hb dX7_readVillage_54 rfl hl (by decide) rfl (fun ls hl => ?_)
                          refine lv_aload_nN hx hb dX7_readVillage_55 rfl (lv_at hl 0 rfl) ?_
                          refine lv_ifnullN (tgt := 74) hx hb dX7_readVillage_56 (by decide) ?_
                          refine lv_iinc (v := 4) (lv' := [(2, .int 4), (3, .null), (1, .int 2), (0, .ref h_this)]) hx hb dX7_readVillage_74 hl (k := 1) rfl rfl (by decide) rfl (fun ls hl => ?_)
                          refine lv_goto (tgt := 26) hx hb dX7_readVillage_77 (by decide) ?_
                          refine lv_iload_n hx hb dX7_readVillage_26 rfl (lv_at hl 0 rfl) ?_
                          refine lv_iconst (v := 3) hx hb dX7_readVillage_27 (by decide) ?_
                          refine lv_icmp_gt (tgt := 80) hx hb dX7_readVillage_28 (by decide) (fun _ => ?_) (fun c9 => absurd (by decide) c9)
                          refine lv_aload_n hx hb dX7_readVillage_80 rfl (lv_at hl 3 rfl) ?_
                          refine lv_iconst (v := 0) hx hb dX7_readVillage_81 (by decide) ?_
                          refine va_put (D := D) (ci := 6) (v := .int 0) (ty := .int) (C := RX7) (T := TX7) (N := 5) hx hb hts inTX7 tyX7 tyX7_ok nmX7 hown hK.1 hP hD hS 3 rfl rfl 1 (by decide) (hts _ t1_58) (fun _ h9 => h9) rfl (tyX7_ok 1 (by decide)) rfl rfl (Nat.le_of_ble_eq_true rfl) dX7_readVillage_82 (fun H locs hP hD hS => ?_)
                          have hP : va_P D CL [(h_newcomers, .inl (cy 3, 3, .inr (.inr (.inr (.inr (va_up (va_up v_newcomers 0 (some q10)) 2 (some q50))))))), (q10, PEl tq10), (q50, PEl tq50), (h_this, .inr (6, [.ref h_newcomers, .int 0, .int u56_place, .int u57_flaw, .ref h_bytes])), (h_bytes, .inl (cy 0, 60, .inl v_bytes))] H := hP
                          have hD : va_D A [(h_newcomers, .inl (cy 3, 3, .inr (.inr (.inr (.inr (va_up (va_up v_newcomers 0 (some q10)) 2 (some q50))))))), (q10, PEl tq10), (q50, PEl tq50), (h_this, .inr (6, [.ref h_newcomers, .int 0, .int u56_place, .int u57_flaw, .ref h_bytes])), (h_bytes, .inl (cy 0, 60, .inl v_bytes))] := hD
                          refine lv_iload_n hx hb dX7_readVillage_85 rfl (lv_at hl 2 rfl) ?_
                          have hP : va_P D CL [(h_this, .inr (6, [.ref h_newcomers, .int 0, .int u56_place, .int u57_flaw, .ref h_bytes])), (h_bytes, .inl (cy 0, 60, .inl v_bytes)), (h_newcomers, .inl (cy 3, 3, .inr (.inr (.inr (.inr (va_up (va_up v_newcomers 0 (some q10)) 2 (some q50))))))), (q10, PEl tq10), (q50, PEl tq50)] H := (hP.sub [3, 4, 0, 1, 2] rfl)
                          have hD : va_D A [(h_this, .inr (6, [.ref h_newcomers, .int 0, .int u56_place, .int u57_flaw, .ref h_bytes])), (h_bytes, .inl (cy 0, 60, .inl v_bytes)), (h_newcomers, .inl (cy 3, 3, .inr (.inr (.inr (.inr (va_up (va_up v_newcomers 0 (some q10)) 2 (some q50))))))), (q10, PEl tq10), (q50, PEl tq50)] := (hD.sub [3, 4, 0, 1, 2] (by decide) rfl)
                          refine W.widen (k := 4) (n := 16) (by decide) (by decide) ?_
                          exact rt_i C hQ rfl hP hD hS ⟨0, u56_place, u57_flaw, (va_up (va_up v_newcomers 0 (some q10)) 2 (some q50)), [(q10, tq10), (q50, tq50)], (NSok_c ho_q10 (NSok_c ho_q50 NSok_0)), rfl, hF⟩ dX7_readVillage_86
                        · have hF := hF.2 q59 tq59 rfl
                          have hP : va_P D CL [(h_newcomers, .inl (cy 3, 3, .inr (.inr (.inr (.inr (va_up (va_up v_newcomers 0 (some q10)) 2 (some q50))))))), (q10, PEl tq10), (q50, PEl tq50), (h_this, .inr (6, [.ref h_newcomers, .int v_length, .int u56_place, .int u57_flaw, .ref h_bytes])), (h_bytes, .inl (cy 0, 60, .inl v_bytes)), (q59, PEl tq59)] H := hP
                          have hD : va_D A [(h_newcomers, .inl (cy 3, 3, .inr (.inr (.inr (.inr (va_up (va_up v_newcomers 0 (some q10)) 2 (some q50))))))), (q10, PEl tq10), (q50, PEl tq50), (h_this, .inr (6, [.ref h_newcomers, .int v_length, .int u56_place, .int u57_flaw, .ref h_bytes])), (h_bytes, .inl (cy 0, 60, .inl v_bytes)), (q59, PEl tq59)] := hD
                          refine W.eq (g2 := F0 m 54 ls [.ref q59]) rfl ?_
                          refine lv_astore_n (lv' := [(3, .ref q59), (2, .int 3), (1, .int 2), (0, .ref h_this)]) hx hb dX7_readVillage_54 rfl hl (by decide) rfl (fun ls hl => ?_)
                          refine lv_aload_n hx hb dX7_readVillage_55 rfl (lv_at hl 0 rfl) ?_
                          refine lv_ifnull hx hb dX7_readVillage_56 ?_
                          refine lv_iload_n hx hb dX7_readVillage_59 rfl (lv_at hl 1 rfl) ?_
                          refine lv_iconst (v := 3) hx hb dX7_readVillage_60 (by decide) ?_
                          refine lv_icmp_ge (tgt := 74) hx hb dX7_readVillage_61 (by decide) (fun _ => ?_) (fun c9 => absurd (by decide) c9)
                          refine lv_iinc (v := 4) (lv' := [(2, .int 4), (3, .ref q59), (1, .int 2), (0, .ref h_this)]) hx hb dX7_readVillage_74 hl (k := 1) rfl rfl (by decide) rfl (fun ls hl => ?_)
                          refine lv_goto (tgt := 26) hx hb dX7_readVillage_77 (by decide) ?_
                          refine lv_iload_n hx hb dX7_readVillage_26 rfl (lv_at hl 0 rfl) ?_
                          refine lv_iconst (v := 3) hx hb dX7_readVillage_27 (by decide) ?_
                          refine lv_icmp_gt (tgt := 80) hx hb dX7_readVillage_28 (by decide) (fun _ => ?_) (fun c9 => absurd (by decide) c9)
                          refine lv_aload_n hx hb dX7_readVillage_80 rfl (lv_at hl 3 rfl) ?_
                          refine lv_iconst (v := 0) hx hb dX7_readVillage_81 (by decide) ?_
                          refine va_put (D := D) (ci := 6) (v := .int 0) (ty := .int) (C := RX7) (T := TX7) (N := 5) hx hb hts inTX7 tyX7 tyX7_ok nmX7 hown hK.1 hP hD hS 3 rfl rfl 1 (by decide) (hts _ t1_58) (fun _ h9 => h9) rfl (tyX7_ok 1 (by decide)) rfl rfl (Nat.le_of_ble_eq_true rfl) dX7_readVillage_82 (fun H locs hP hD hS => ?_)
                          have hP : va_P D CL [(h_newcomers, .inl (cy 3, 3, .inr (.inr (.inr (.inr (va_up (va_up v_newcomers 0 (some q10)) 2 (some q50))))))), (q10, PEl tq10), (q50, PEl tq50), (h_this, .inr (6, [.ref h_newcomers, .int 0, .int u56_place, .int u57_flaw, .ref h_bytes])), (h_bytes, .inl (cy 0, 60, .inl v_bytes)), (q59, PEl tq59)] H := hP
                          have hD : va_D A [(h_newcomers, .inl (cy 3, 3, .inr (.inr (.inr (.inr (va_up (va_up v_newcomers 0 (some q10)) 2 (some q50))))))), (q10, PEl tq10), (q50, PEl tq50), (h_this, .inr (6, [.ref h_newcomers, .int 0, .int u56_place, .int u57_flaw, .ref h_bytes])), (h_bytes, .inl (cy 0, 60, .inl v_bytes)), (q59, PEl tq59)] := hD
                          refine lv_iload_n hx hb dX7_readVillage_85 rfl (lv_at hl 2 rfl) ?_
                          have hP : va_P D CL [(h_this, .inr (6, [.ref h_newcomers, .int 0, .int u56_place, .int u57_flaw, .ref h_bytes])), (h_bytes, .inl (cy 0, 60, .inl v_bytes)), (h_newcomers, .inl (cy 3, 3, .inr (.inr (.inr (.inr (va_up (va_up v_newcomers 0 (some q10)) 2 (some q50))))))), (q10, PEl tq10), (q50, PEl tq50), (q59, PEl tq59)] H := (hP.sub [3, 4, 0, 1, 2, 5] rfl)
                          have hD : va_D A [(h_this, .inr (6, [.ref h_newcomers, .int 0, .int u56_place, .int u57_flaw, .ref h_bytes])), (h_bytes, .inl (cy 0, 60, .inl v_bytes)), (h_newcomers, .inl (cy 3, 3, .inr (.inr (.inr (.inr (va_up (va_up v_newcomers 0 (some q10)) 2 (some q50))))))), (q10, PEl tq10), (q50, PEl tq50), (q59, PEl tq59)] := (hD.sub [3, 4, 0, 1, 2, 5] (by decide) rfl)
                          refine W.widen (k := 4) (n := 16) (by decide) (by decide) ?_
                          exact rt_i C hQ rfl hP hD hS ⟨0, u56_place, u57_flaw, (va_up (va_up v_newcomers 0 (some q10)) 2 (some q50)), [(q10, tq10), (q50, tq50), (q59, tq59)], (NSok_c ho_q10 (NSok_c ho_q50 (NSok_c ho_q59 NSok_0))), rfl, hF⟩ dX7_readVillage_86
            · have hF := hF.2 q46 tq46 rfl
              have hP : va_P D CL [(h_newcomers, .inl (cy 3, 3, .inr (.inr (.inr (.inr (va_up v_newcomers 0 (some q10))))))), (q10, PEl tq10), (h_this, .inr (6, [.ref h_newcomers, .int v_length, .int u43_place, .int u44_flaw, .ref h_bytes])), (h_bytes, .inl (cy 0, 60, .inl v_bytes)), (q46, PEl tq46)] H := hP
              have hD : va_D A [(h_newcomers, .inl (cy 3, 3, .inr (.inr (.inr (.inr (va_up v_newcomers 0 (some q10))))))), (q10, PEl tq10), (h_this, .inr (6, [.ref h_newcomers, .int v_length, .int u43_place, .int u44_flaw, .ref h_bytes])), (h_bytes, .inl (cy 0, 60, .inl v_bytes)), (q46, PEl tq46)] := hD
              refine W.eq (g2 := F0 m 54 ls [.ref q46]) rfl ?_
              refine lv_astore_n (lv' := [(3, .ref q46), (2, .int 1), (1, .int 1), (0, .ref h_this)]) hx hb dX7_readVillage_54 rfl hl (by decide) rfl (fun ls hl => ?_)
              refine lv_aload_n hx hb dX7_readVillage_55 rfl (lv_at hl 0 rfl) ?_
              refine lv_ifnull hx hb dX7_readVillage_56 ?_
              refine lv_iload_n hx hb dX7_readVillage_59 rfl (lv_at hl 1 rfl) ?_
              refine lv_iconst (v := 3) hx hb dX7_readVillage_60 (by decide) ?_
              refine lv_icmp_ge (tgt := 74) hx hb dX7_readVillage_61 (by decide) (fun c9 => absurd c9 (by decide)) (fun _ => ?_)
              refine lv_aload_n hx hb dX7_readVillage_64 rfl (lv_at hl 3 rfl) ?_
              refine va_get (D := D) (ci := 6) (v := .ref h_newcomers) (C := RX7) (T := TX7) (N := 5) hx hb hts inTX7 hown hK.1 hP 2 rfl rfl 0 (by decide) (hts _ t1_56) (fun _ h9 => h9) rfl dX7_readVillage_65 ?_
              refine lv_iload_n hx hb dX7_readVillage_68 rfl (lv_at hl 1 rfl) ?_
              refine lv_aload_n hx hb dX7_readVillage_69 rfl (lv_at hl 0 rfl) ?_
              refine va_astqM hx hb hK.1 hP hD hS 0 3 rfl rfl (new_any hK hP (k := 4) rfl ho_q46) (vi (by decide)) dX7_readVillage_70 (fun H locs hP hD hS => ?_)
              have hP : va_P D CL [(h_newcomers, .inl (cy 3, 3, .inr (.inr (.inr (.inr (va_up (va_up v_newcomers 0 (some q10)) 1 (some q46))))))), (q10, PEl tq10), (h_this, .inr (6, [.ref h_newcomers, .int v_length, .int u43_place, .int u44_flaw, .ref h_bytes])), (h_bytes, .inl (cy 0, 60, .inl v_bytes)), (q46, PEl tq46)] H := hP
              have hD : va_D A [(h_newcomers, .inl (cy 3, 3, .inr (.inr (.inr (.inr (va_up (va_up v_newcomers 0 (some q10)) 1 (some q46))))))), (q10, PEl tq10), (h_this, .inr (6, [.ref h_newcomers, .int v_length, .int u43_place, .int u44_flaw, .ref h_bytes])), (h_bytes, .inl (cy 0, 60, .inl v_bytes)), (q46, PEl tq46)] := hD
              refine lv_iinc (v := 2) (lv' := [(1, .int 2), (3, .ref q46), (2, .int 1), (0, .ref h_this)]) hx hb dX7_readVillage_71 hl (k := 2) rfl rfl (by decide) rfl (fun ls hl => ?_)
              refine lv_iinc (v := 2) (lv' := [(2, .int 2), (1, .int 2), (3, .ref q46), (0, .ref h_this)]) hx hb dX7_readVillage_74 hl (k := 2) rfl rfl (by decide) rfl (fun ls hl => ?_)
              refine lv_goto (tgt := 26) hx hb dX7_readVillage_77 (by decide) ?_
              refine lv_iload_n hx hb dX7_readVillage_26 rfl (lv_at hl 0 rfl) ?_
              refine lv_iconst (v := 3) hx hb dX7_readVillage_27 (by decide) ?_
              refine lv_icmp_gt (tgt := 80) hx hb dX7_readVillage_28 (by decide) (fun c9 => absurd c9 (by decide)) (fun _ => ?_)
              refine lv_aload_n hx hb dX7_readVillage_31 rfl (lv_at hl 3 rfl) ?_
              refine va_get (D := D) (ci := 6) (v := .int u44_flaw) (C := RX7) (T := TX7) (N := 5) hx hb hts inTX7 hown hK.1 hP 2 rfl rfl 3 (by decide) (hts _ t1_62) (fun _ h9 => h9) rfl dX7_readVillage_32 ?_
              refine lv_if_ne (tgt := 80) hx hb dX7_readVillage_35 (by decide) (fun c_ => ?_) (fun c_ => ?_)
              · have hF := hF.1 c_
                refine lv_aload_n hx hb dX7_readVillage_80 rfl (lv_at hl 3 rfl) ?_
                refine lv_iconst (v := 0) hx hb dX7_readVillage_81 (by decide) ?_
                refine va_put (D := D) (ci := 6) (v := .int 0) (ty := .int) (C := RX7) (T := TX7) (N := 5) hx hb hts inTX7 tyX7 tyX7_ok nmX7 hown hK.1 hP hD hS 2 rfl rfl 1 (by decide) (hts _ t1_58) (fun _ h9 => h9) rfl (tyX7_ok 1 (by decide)) rfl rfl (Nat.le_of_ble_eq_true rfl) dX7_readVillage_82 (fun H locs hP hD hS => ?_)
                have hP : va_P D CL [(h_newcomers, .inl (cy 3, 3, .inr (.inr (.inr (.inr (va_up (va_up v_newcomers 0 (some q10)) 1 (some q46))))))), (q10, PEl tq10), (h_this, .inr (6, [.ref h_newcomers, .int 0, .int u43_place, .int u44_flaw, .ref h_bytes])), (h_bytes, .inl (cy 0, 60, .inl v_bytes)), (q46, PEl tq46)] H := hP
                have hD : va_D A [(h_newcomers, .inl (cy 3, 3, .inr (.inr (.inr (.inr (va_up (va_up v_newcomers 0 (some q10)) 1 (some q46))))))), (q10, PEl tq10), (h_this, .inr (6, [.ref h_newcomers, .int 0, .int u43_place, .int u44_flaw, .ref h_bytes])), (h_bytes, .inl (cy 0, 60, .inl v_bytes)), (q46, PEl tq46)] := hD
                refine lv_iload_n hx hb dX7_readVillage_85 rfl (lv_at hl 1 rfl) ?_
                have hP : va_P D CL [(h_this, .inr (6, [.ref h_newcomers, .int 0, .int u43_place, .int u44_flaw, .ref h_bytes])), (h_bytes, .inl (cy 0, 60, .inl v_bytes)), (h_newcomers, .inl (cy 3, 3, .inr (.inr (.inr (.inr (va_up (va_up v_newcomers 0 (some q10)) 1 (some q46))))))), (q10, PEl tq10), (q46, PEl tq46)] H := (hP.sub [2, 3, 0, 1, 4] rfl)
                have hD : va_D A [(h_this, .inr (6, [.ref h_newcomers, .int 0, .int u43_place, .int u44_flaw, .ref h_bytes])), (h_bytes, .inl (cy 0, 60, .inl v_bytes)), (h_newcomers, .inl (cy 3, 3, .inr (.inr (.inr (.inr (va_up (va_up v_newcomers 0 (some q10)) 1 (some q46))))))), (q10, PEl tq10), (q46, PEl tq46)] := (hD.sub [2, 3, 0, 1, 4] (by decide) rfl)
                refine W.widen (k := 4) (n := 16) (by decide) (by decide) ?_
                exact rt_i C hQ rfl hP hD hS ⟨0, u43_place, u44_flaw, (va_up (va_up v_newcomers 0 (some q10)) 1 (some q46)), [(q10, tq10), (q46, tq46)], (NSok_c ho_q10 (NSok_c ho_q46 NSok_0)), rfl, hF⟩ dX7_readVillage_86
              · have hF := hF.2 c_
                refine lv_aload_n hx hb dX7_readVillage_38 rfl (lv_at hl 3 rfl) ?_
                refine va_get (D := D) (ci := 6) (v := .int u43_place) (C := RX7) (T := TX7) (N := 5) hx hb hts inTX7 hown hK.1 hP 2 rfl rfl 2 (by decide) (hts _ t1_60) (fun _ h9 => h9) rfl dX7_readVillage_39 ?_
                refine lv_aload_n hx hb dX7_readVillage_42 rfl (lv_at hl 3 rfl) ?_
                refine va_get (D := D) (ci := 6) (v := .int v_length) (C := RX7) (T := TX7) (N := 5) hx hb hts inTX7 hown hK.1 hP 2 rfl rfl 1 (by decide) (hts _ t1_58) (fun _ h9 => h9) rfl dX7_readVillage_43 ?_
                refine lv_icmp_ge (tgt := 80) hx hb dX7_readVillage_46 (by decide) (fun c_ => ?_) (fun c_ => ?_)
                · have hF := hF.1 c_
                  refine lv_aload_n hx hb dX7_readVillage_80 rfl (lv_at hl 3 rfl) ?_
                  refine lv_iconst (v := 0) hx hb dX7_readVillage_81 (by decide) ?_
                  refine va_put (D := D) (ci := 6) (v := .int 0) (ty := .int) (C := RX7) (T := TX7) (N := 5) hx hb hts inTX7 tyX7 tyX7_ok nmX7 hown hK.1 hP hD hS 2 rfl rfl 1 (by decide) (hts _ t1_58) (fun _ h9 => h9) rfl (tyX7_ok 1 (by decide)) rfl rfl (Nat.le_of_ble_eq_true rfl) dX7_readVillage_82 (fun H locs hP hD hS => ?_)
                  have hP : va_P D CL [(h_newcomers, .inl (cy 3, 3, .inr (.inr (.inr (.inr (va_up (va_up v_newcomers 0 (some q10)) 1 (some q46))))))), (q10, PEl tq10), (h_this, .inr (6, [.ref h_newcomers, .int 0, .int u43_place, .int u44_flaw, .ref h_bytes])), (h_bytes, .inl (cy 0, 60, .inl v_bytes)), (q46, PEl tq46)] H := hP
                  have hD : va_D A [(h_newcomers, .inl (cy 3, 3, .inr (.inr (.inr (.inr (va_up (va_up v_newcomers 0 (some q10)) 1 (some q46))))))), (q10, PEl tq10), (h_this, .inr (6, [.ref h_newcomers, .int 0, .int u43_place, .int u44_flaw, .ref h_bytes])), (h_bytes, .inl (cy 0, 60, .inl v_bytes)), (q46, PEl tq46)] := hD
                  refine lv_iload_n hx hb dX7_readVillage_85 rfl (lv_at hl 1 rfl) ?_
                  have hP : va_P D CL [(h_this, .inr (6, [.ref h_newcomers, .int 0, .int u43_place, .int u44_flaw, .ref h_bytes])), (h_bytes, .inl (cy 0, 60, .inl v_bytes)), (h_newcomers, .inl (cy 3, 3, .inr (.inr (.inr (.inr (va_up (va_up v_newcomers 0 (some q10)) 1 (some q46))))))), (q10, PEl tq10), (q46, PEl tq46)] H := (hP.sub [2, 3, 0, 1, 4] rfl)
                  have hD : va_D A [(h_this, .inr (6, [.ref h_newcomers, .int 0, .int u43_place, .int u44_flaw, .ref h_bytes])), (h_bytes, .inl (cy 0, 60, .inl v_bytes)), (h_newcomers, .inl (cy 3, 3, .inr (.inr (.inr (.inr (va_up (va_up v_newcomers 0 (some q10)) 1 (some q46))))))), (q10, PEl tq10), (q46, PEl tq46)] := (hD.sub [2, 3, 0, 1, 4] (by decide) rfl)
                  refine W.widen (k := 4) (n := 16) (by decide) (by decide) ?_
                  exact rt_i C hQ rfl hP hD hS ⟨0, u43_place, u44_flaw, (va_up (va_up v_newcomers 0 (some q10)) 1 (some q46)), [(q10, tq10), (q46, tq46)], (NSok_c ho_q10 (NSok_c ho_q46 NSok_0)), rfl, hF⟩ dX7_readVillage_86
                · have hF := hF.2 c_
                  refine lv_aload_n hx hb dX7_readVillage_49 rfl (lv_at hl 3 rfl) ?_
                  refine lv_iload_n hx hb dX7_readVillage_50 rfl (lv_at hl 0 rfl) ?_
                  refine cV_t (As := [.int 2]) (wr := [(h_newcomers, .inl (cy 3, 3, .inr (.inr (.inr (.inr (va_up (va_up v_newcomers 0 (some q10)) 1 (some q46))))))), (q10, PEl tq10), (q46, PEl tq46)]) C hA hP hD hS mfX7_readPerson t2_61 ts_4 t2_59 (ccX7_readPerson l D cy h_this h_bytes (.ref h_newcomers) v_length u43_place u44_flaw v_bytes 2 _ hF) [2, 3] [0, 1, 4] rfl rfl (by decide) (by decide) (by decide) PO.np 2 6 rfl rfl rfl rfl hl.1 rfl (Nat.le_of_ble_eq_true rfl) dX7_readVillage_51 ⟨Nat.le_of_ble_eq_true rfl, Nat.le_of_ble_eq_true rfl⟩ ⟨Nat.le_of_ble_eq_true rfl, Nat.le_of_ble_eq_true rfl⟩ ?_
                  rintro r w1 H locs (⟨u61_place, u62_flaw, rfl, rfl, hF⟩ | ⟨q64, tq64, u61_place, u62_flaw, ho_q64, rfl, rfl, hF⟩) hP hD hS
                  · have hF := hF.1 rfl
                    have hP : va_P D CL [(h_newcomers, .inl (cy 3, 3, .inr (.inr (.inr (.inr (va_up (va_up v_newcomers 0 (some q10)) 1 (some q46))))))), (q10, PEl tq10), (q46, PEl tq46), (h_this, .inr (6, [.ref h_newcomers, .int v_length, .int u61_place, .int u62_flaw, .ref h_bytes])), (h_bytes, .inl (cy 0, 60, .inl v_bytes))] H := hP
                    have hD : va_D A [(h_newcomers, .inl (cy 3, 3, .inr (.inr (.inr (.inr (va_up (va_up v_newcomers 0 (some q10)) 1 (some q46))))))), (q10, PEl tq10), (q46, PEl tq46), (h_this, .inr (6, [.ref h_newcomers, .int v_length, .int u61_place, .int u62_flaw, .ref h_bytes])), (h_bytes, .inl (cy 0, 60, .inl v_bytes))] := hD
                    refine W.eq (g2 := F0 m 54 ls [.null]) rfl ?_
                    refine lv_astore_nN (lv' := [(3, .null), (2, .int 2), (1, .int 2), (0, .ref h_this)]) hx hb dX7_readVillage_54 rfl hl (by decide) rfl (fun ls hl => ?_)
                    refine lv_aload_nN hx hb dX7_readVillage_55 rfl (lv_at hl 0 rfl) ?_
                    refine lv_ifnullN (tgt := 74) hx hb dX7_readVillage_56 (by decide) ?_
                    refine lv_iinc (v := 3) (lv' := [(2, .int 3), (3, .null), (1, .int 2), (0, .ref h_this)]) hx hb dX7_readVillage_74 hl (k := 1) rfl rfl (by decide) rfl (fun ls hl => ?_)
                    refine lv_goto (tgt := 26) hx hb dX7_readVillage_77 (by decide) ?_
                    refine lv_iload_n hx hb dX7_readVillage_26 rfl (lv_at hl 0 rfl) ?_
                    refine lv_iconst (v := 3) hx hb dX7_readVillage_27 (by decide) ?_
                    refine lv_icmp_gt (tgt := 80) hx hb dX7_readVillage_28 (by decide) (fun c9 => absurd c9 (by decide)) (fun _ => ?_)
                    refine lv_aload_n hx hb dX7_readVillage_31 rfl (lv_at hl 3 rfl) ?_
                    refine va_get (D := D) (ci := 6) (v := .int u62_flaw) (C := RX7) (T := TX7) (N := 5) hx hb hts inTX7 hown hK.1 hP 3 rfl rfl 3 (by decide) (hts _ t1_62) (fun _ h9 => h9) rfl dX7_readVillage_32 ?_
                    refine lv_if_ne (tgt := 80) hx hb dX7_readVillage_35 (by decide) (fun c_ => ?_) (fun c_ => ?_)
                    · have hF := hF.1 c_
                      refine lv_aload_n hx hb dX7_readVillage_80 rfl (lv_at hl 3 rfl) ?_
                      refine lv_iconst (v := 0) hx hb dX7_readVillage_81 (by decide) ?_
                      refine va_put (D := D) (ci := 6) (v := .int 0) (ty := .int) (C := RX7) (T := TX7) (N := 5) hx hb hts inTX7 tyX7 tyX7_ok nmX7 hown hK.1 hP hD hS 3 rfl rfl 1 (by decide) (hts _ t1_58) (fun _ h9 => h9) rfl (tyX7_ok 1 (by decide)) rfl rfl (Nat.le_of_ble_eq_true rfl) dX7_readVillage_82 (fun H locs hP hD hS => ?_)
                      have hP : va_P D CL [(h_newcomers, .inl (cy 3, 3, .inr (.inr (.inr (.inr (va_up (va_up v_newcomers 0 (some q10)) 1 (some q46))))))), (q10, PEl tq10), (q46, PEl tq46), (h_this, .inr (6, [.ref h_newcomers, .int 0, .int u61_place, .int u62_flaw, .ref h_bytes])), (h_bytes, .inl (cy 0, 60, .inl v_bytes))] H := hP
                      have hD : va_D A [(h_newcomers, .inl (cy 3, 3, .inr (.inr (.inr (.inr (va_up (va_up v_newcomers 0 (some q10)) 1 (some q46))))))), (q10, PEl tq10), (q46, PEl tq46), (h_this, .inr (6, [.ref h_newcomers, .int 0, .int u61_place, .int u62_flaw, .ref h_bytes])), (h_bytes, .inl (cy 0, 60, .inl v_bytes))] := hD
                      refine lv_iload_n hx hb dX7_readVillage_85 rfl (lv_at hl 2 rfl) ?_
                      have hP : va_P D CL [(h_this, .inr (6, [.ref h_newcomers, .int 0, .int u61_place, .int u62_flaw, .ref h_bytes])), (h_bytes, .inl (cy 0, 60, .inl v_bytes)), (h_newcomers, .inl (cy 3, 3, .inr (.inr (.inr (.inr (va_up (va_up v_newcomers 0 (some q10)) 1 (some q46))))))), (q10, PEl tq10), (q46, PEl tq46)] H := (hP.sub [3, 4, 0, 1, 2] rfl)
                      have hD : va_D A [(h_this, .inr (6, [.ref h_newcomers, .int 0, .int u61_place, .int u62_flaw, .ref h_bytes])), (h_bytes, .inl (cy 0, 60, .inl v_bytes)), (h_newcomers, .inl (cy 3, 3, .inr (.inr (.inr (.inr (va_up (va_up v_newcomers 0 (some q10)) 1 (some q46))))))), (q10, PEl tq10), (q46, PEl tq46)] := (hD.sub [3, 4, 0, 1, 2] (by decide) rfl)
                      refine W.widen (k := 4) (n := 16) (by decide) (by decide) ?_
                      exact rt_i C hQ rfl hP hD hS ⟨0, u61_place, u62_flaw, (va_up (va_up v_newcomers 0 (some q10)) 1 (some q46)), [(q10, tq10), (q46, tq46)], (NSok_c ho_q10 (NSok_c ho_q46 NSok_0)), rfl, hF⟩ dX7_readVillage_86
                    · have hF := hF.2 c_
                      refine lv_aload_n hx hb dX7_readVillage_38 rfl (lv_at hl 3 rfl) ?_
                      refine va_get (D := D) (ci := 6) (v := .int u61_place) (C := RX7) (T := TX7) (N := 5) hx hb hts inTX7 hown hK.1 hP 3 rfl rfl 2 (by decide) (hts _ t1_60) (fun _ h9 => h9) rfl dX7_readVillage_39 ?_
                      refine lv_aload_n hx hb dX7_readVillage_42 rfl (lv_at hl 3 rfl) ?_
                      refine va_get (D := D) (ci := 6) (v := .int v_length) (C := RX7) (T := TX7) (N := 5) hx hb hts inTX7 hown hK.1 hP 3 rfl rfl 1 (by decide) (hts _ t1_58) (fun _ h9 => h9) rfl dX7_readVillage_43 ?_
                      refine lv_icmp_ge (tgt := 80) hx hb dX7_readVillage_46 (by decide) (fun c_ => ?_) (fun c_ => ?_)
                      · have hF := hF.1 c_
                        refine lv_aload_n hx hb dX7_readVillage_80 rfl (lv_at hl 3 rfl) ?_
                        refine lv_iconst (v := 0) hx hb dX7_readVillage_81 (by decide) ?_
                        refine va_put (D := D) (ci := 6) (v := .int 0) (ty := .int) (C := RX7) (T := TX7) (N := 5) hx hb hts inTX7 tyX7 tyX7_ok nmX7 hown hK.1 hP hD hS 3 rfl rfl 1 (by decide) (hts _ t1_58) (fun _ h9 => h9) rfl (tyX7_ok 1 (by decide)) rfl rfl (Nat.le_of_ble_eq_true rfl) dX7_readVillage_82 (fun H locs hP hD hS => ?_)
                        have hP : va_P D CL [(h_newcomers, .inl (cy 3, 3, .inr (.inr (.inr (.inr (va_up (va_up v_newcomers 0 (some q10)) 1 (some q46))))))), (q10, PEl tq10), (q46, PEl tq46), (h_this, .inr (6, [.ref h_newcomers, .int 0, .int u61_place, .int u62_flaw, .ref h_bytes])), (h_bytes, .inl (cy 0, 60, .inl v_bytes))] H := hP
                        have hD : va_D A [(h_newcomers, .inl (cy 3, 3, .inr (.inr (.inr (.inr (va_up (va_up v_newcomers 0 (some q10)) 1 (some q46))))))), (q10, PEl tq10), (q46, PEl tq46), (h_this, .inr (6, [.ref h_newcomers, .int 0, .int u61_place, .int u62_flaw, .ref h_bytes])), (h_bytes, .inl (cy 0, 60, .inl v_bytes))] := hD
                        refine lv_iload_n hx hb dX7_readVillage_85 rfl (lv_at hl 2 rfl) ?_
                        have hP : va_P D CL [(h_this, .inr (6, [.ref h_newcomers, .int 0, .int u61_place, .int u62_flaw, .ref h_bytes])), (h_bytes, .inl (cy 0, 60, .inl v_bytes)), (h_newcomers, .inl (cy 3, 3, .inr (.inr (.inr (.inr (va_up (va_up v_newcomers 0 (some q10)) 1 (some q46))))))), (q10, PEl tq10), (q46, PEl tq46)] H := (hP.sub [3, 4, 0, 1, 2] rfl)
                        have hD : va_D A [(h_this, .inr (6, [.ref h_newcomers, .int 0, .int u61_place, .int u62_flaw, .ref h_bytes])), (h_bytes, .inl (cy 0, 60, .inl v_bytes)), (h_newcomers, .inl (cy 3, 3, .inr (.inr (.inr (.inr (va_up (va_up v_newcomers 0 (some q10)) 1 (some q46))))))), (q10, PEl tq10), (q46, PEl tq46)] := (hD.sub [3, 4, 0, 1, 2] (by decide) rfl)
                        refine W.widen (k := 4) (n := 16) (by decide) (by decide) ?_
                        exact rt_i C hQ rfl hP hD hS ⟨0, u61_place, u62_flaw, (va_up (va_up v_newcomers 0 (some q10)) 1 (some q46)), [(q10, tq10), (q46, tq46)], (NSok_c ho_q10 (NSok_c ho_q46 NSok_0)), rfl, hF⟩ dX7_readVillage_86
                      · have hF := hF.2 c_
                        refine lv_aload_n hx hb dX7_readVillage_49 rfl (lv_at hl 3 rfl) ?_
                        refine lv_iload_n hx hb dX7_readVillage_50 rfl (lv_at hl 0 rfl) ?_
                        refine cV_t (As := [.int 3]) (wr := [(h_newcomers, .inl (cy 3, 3, .inr (.inr (.inr (.inr (va_up (va_up v_newcomers 0 (some q10)) 1 (some q46))))))), (q10, PEl tq10), (q46, PEl tq46)]) C hA hP hD hS mfX7_readPerson t2_61 ts_4 t2_59 (ccX7_readPerson l D cy h_this h_bytes (.ref h_newcomers) v_length u61_place u62_flaw v_bytes 3 _ hF) [3, 4] [0, 1, 2] rfl rfl (by decide) (by decide) (by decide) PO.np 3 6 rfl rfl rfl rfl hl.1 rfl (Nat.le_of_ble_eq_true rfl) dX7_readVillage_51 ⟨Nat.le_of_ble_eq_true rfl, Nat.le_of_ble_eq_true rfl⟩ ⟨Nat.le_of_ble_eq_true rfl, Nat.le_of_ble_eq_true rfl⟩ ?_
                        rintro r w1 H locs (⟨u65_place, u66_flaw, rfl, rfl, hF⟩ | ⟨q68, tq68, u65_place, u66_flaw, ho_q68, rfl, rfl, hF⟩) hP hD hS
                        · have hF := hF.1 rfl
                          have hP : va_P D CL [(h_newcomers, .inl (cy 3, 3, .inr (.inr (.inr (.inr (va_up (va_up v_newcomers 0 (some q10)) 1 (some q46))))))), (q10, PEl tq10), (q46, PEl tq46), (h_this, .inr (6, [.ref h_newcomers, .int v_length, .int u65_place, .int u66_flaw, .ref h_bytes])), (h_bytes, .inl (cy 0, 60, .inl v_bytes))] H := hP
                          have hD : va_D A [(h_newcomers, .inl (cy 3, 3, .inr (.inr (.inr (.inr (va_up (va_up v_newcomers 0 (some q10)) 1 (some q46))))))), (q10, PEl tq10), (q46, PEl tq46), (h_this, .inr (6, [.ref h_newcomers, .int v_length, .int u65_place, .int u66_flaw, .ref h_bytes])), (h_bytes, .inl (cy 0, 60, .inl v_bytes))] := hD
                          refine W.eq (g2 := F0 m 54 ls [.null]) rfl ?_
                          refine lv_astore_nN (lv' := [(3, .null), (2, .int 3), (1, .int 2), (0, .ref h_this)]) hx hb dX7_readVillage_54 rfl hl (by decide) rfl (fun ls hl => ?_)
                          refine lv_aload_nN hx hb dX7_readVillage_55 rfl (lv_at hl 0 rfl) ?_
                          refine lv_ifnullN (tgt := 74) hx hb dX7_readVillage_56 (by decide) ?_
                          refine lv_iinc (v := 4) (lv' := [(2, .int 4), (3, .null), (1, .int 2), (0, .ref h_this)]) hx hb dX7_readVillage_74 hl (k := 1) rfl rfl (by decide) rfl (fun ls hl => ?_)
                          refine lv_goto (tgt := 26) hx hb dX7_readVillage_77 (by decide) ?_
                          refine lv_iload_n hx hb dX7_readVillage_26 rfl (lv_at hl 0 rfl) ?_
                          refine lv_iconst (v := 3) hx hb dX7_readVillage_27 (by decide) ?_
                          refine lv_icmp_gt (tgt := 80) hx hb dX7_readVillage_28 (by decide) (fun _ => ?_) (fun c9 => absurd (by decide) c9)
                          refine lv_aload_n hx hb dX7_readVillage_80 rfl (lv_at hl 3 rfl) ?_
                          refine lv_iconst (v := 0) hx hb dX7_readVillage_81 (by decide) ?_
                          refine va_put (D := D) (ci := 6) (v := .int 0) (ty := .int) (C := RX7) (T := TX7) (N := 5) hx hb hts inTX7 tyX7 tyX7_ok nmX7 hown hK.1 hP hD hS 3 rfl rfl 1 (by decide) (hts _ t1_58) (fun _ h9 => h9) rfl (tyX7_ok 1 (by decide)) rfl rfl (Nat.le_of_ble_eq_true rfl) dX7_readVillage_82 (fun H locs hP hD hS => ?_)
                          have hP : va_P D CL [(h_newcomers, .inl (cy 3, 3, .inr (.inr (.inr (.inr (va_up (va_up v_newcomers 0 (some q10)) 1 (some q46))))))), (q10, PEl tq10), (q46, PEl tq46), (h_this, .inr (6, [.ref h_newcomers, .int 0, .int u65_place, .int u66_flaw, .ref h_bytes])), (h_bytes, .inl (cy 0, 60, .inl v_bytes))] H := hP
                          have hD : va_D A [(h_newcomers, .inl (cy 3, 3, .inr (.inr (.inr (.inr (va_up (va_up v_newcomers 0 (some q10)) 1 (some q46))))))), (q10, PEl tq10), (q46, PEl tq46), (h_this, .inr (6, [.ref h_newcomers, .int 0, .int u65_place, .int u66_flaw, .ref h_bytes])), (h_bytes, .inl (cy 0, 60, .inl v_bytes))] := hD
                          refine lv_iload_n hx hb dX7_readVillage_85 rfl (lv_at hl 2 rfl) ?_
                          have hP : va_P D CL [(h_this, .inr (6, [.ref h_newcomers, .int 0, .int u65_place, .int u66_flaw, .ref h_bytes])), (h_bytes, .inl (cy 0, 60, .inl v_bytes)), (h_newcomers, .inl (cy 3, 3, .inr (.inr (.inr (.inr (va_up (va_up v_newcomers 0 (some q10)) 1 (some q46))))))), (q10, PEl tq10), (q46, PEl tq46)] H := (hP.sub [3, 4, 0, 1, 2] rfl)
                          have hD : va_D A [(h_this, .inr (6, [.ref h_newcomers, .int 0, .int u65_place, .int u66_flaw, .ref h_bytes])), (h_bytes, .inl (cy 0, 60, .inl v_bytes)), (h_newcomers, .inl (cy 3, 3, .inr (.inr (.inr (.inr (va_up (va_up v_newcomers 0 (some q10)) 1 (some q46))))))), (q10, PEl tq10), (q46, PEl tq46)] := (hD.sub [3, 4, 0, 1, 2] (by decide) rfl)
                          refine W.widen (k := 4) (n := 16) (by decide) (by decide) ?_
                          exact rt_i C hQ rfl hP hD hS ⟨0, u65_place, u66_flaw, (va_up (va_up v_newcomers 0 (some q10)) 1 (some q46)), [(q10, tq10), (q46, tq46)], (NSok_c ho_q10 (NSok_c ho_q46 NSok_0)), rfl, hF⟩ dX7_readVillage_86
                        · have hF := hF.2 q68 tq68 rfl
                          have hP : va_P D CL [(h_newcomers, .inl (cy 3, 3, .inr (.inr (.inr (.inr (va_up (va_up v_newcomers 0 (some q10)) 1 (some q46))))))), (q10, PEl tq10), (q46, PEl tq46), (h_this, .inr (6, [.ref h_newcomers, .int v_length, .int u65_place, .int u66_flaw, .ref h_bytes])), (h_bytes, .inl (cy 0, 60, .inl v_bytes)), (q68, PEl tq68)] H := hP
                          have hD : va_D A [(h_newcomers, .inl (cy 3, 3, .inr (.inr (.inr (.inr (va_up (va_up v_newcomers 0 (some q10)) 1 (some q46))))))), (q10, PEl tq10), (q46, PEl tq46), (h_this, .inr (6, [.ref h_newcomers, .int v_length, .int u65_place, .int u66_flaw, .ref h_bytes])), (h_bytes, .inl (cy 0, 60, .inl v_bytes)), (q68, PEl tq68)] := hD
                          refine W.eq (g2 := F0 m 54 ls [.ref q68]) rfl ?_
                          refine lv_astore_n (lv' := [(3, .ref q68), (2, .int 3), (1, .int 2), (0, .ref h_this)]) hx hb dX7_readVillage_54 rfl hl (by decide) rfl (fun ls hl => ?_)
                          refine lv_aload_n hx hb dX7_readVillage_55 rfl (lv_at hl 0 rfl) ?_
                          refine lv_ifnull hx hb dX7_readVillage_56 ?_
                          refine lv_iload_n hx hb dX7_readVillage_59 rfl (lv_at hl 1 rfl) ?_
                          refine lv_iconst (v := 3) hx hb dX7_readVillage_60 (by decide) ?_
                          refine lv_icmp_ge (tgt := 74) hx hb dX7_readVillage_61 (by decide) (fun _ => ?_) (fun c9 => absurd (by decide) c9)
                          refine lv_iinc (v := 4) (lv' := [(2, .int 4), (3, .ref q68), (1, .int 2), (0, .ref h_this)]) hx hb dX7_readVillage_74 hl (k := 1) rfl rfl (by decide) rfl (fun ls hl => ?_)
                          refine lv_goto (tgt := 26) hx hb dX7_readVillage_77 (by decide) ?_
                          refine lv_iload_n hx hb dX7_readVillage_26 rfl (lv_at hl 0 rfl) ?_
                          refine lv_iconst (v := 3) hx hb dX7_readVillage_27 (by decide) ?_
                          refine lv_icmp_gt (tgt := 80) hx hb dX7_readVillage_28 (by decide) (fun _ => ?_) (fun c9 => absurd (by decide) c9)
                          refine lv_aload_n hx hb dX7_readVillage_80 rfl (lv_at hl 3 rfl) ?_
                          refine lv_iconst (v := 0) hx hb dX7_readVillage_81 (by decide) ?_
                          refine va_put (D := D) (ci := 6) (v := .int 0) (ty := .int) (C := RX7) (T := TX7) (N := 5) hx hb hts inTX7 tyX7 tyX7_ok nmX7 hown hK.1 hP hD hS 3 rfl rfl 1 (by decide) (hts _ t1_58) (fun _ h9 => h9) rfl (tyX7_ok 1 (by decide)) rfl rfl (Nat.le_of_ble_eq_true rfl) dX7_readVillage_82 (fun H locs hP hD hS => ?_)
                          have hP : va_P D CL [(h_newcomers, .inl (cy 3, 3, .inr (.inr (.inr (.inr (va_up (va_up v_newcomers 0 (some q10)) 1 (some q46))))))), (q10, PEl tq10), (q46, PEl tq46), (h_this, .inr (6, [.ref h_newcomers, .int 0, .int u65_place, .int u66_flaw, .ref h_bytes])), (h_bytes, .inl (cy 0, 60, .inl v_bytes)), (q68, PEl tq68)] H := hP
                          have hD : va_D A [(h_newcomers, .inl (cy 3, 3, .inr (.inr (.inr (.inr (va_up (va_up v_newcomers 0 (some q10)) 1 (some q46))))))), (q10, PEl tq10), (q46, PEl tq46), (h_this, .inr (6, [.ref h_newcomers, .int 0, .int u65_place, .int u66_flaw, .ref h_bytes])), (h_bytes, .inl (cy 0, 60, .inl v_bytes)), (q68, PEl tq68)] := hD
                          refine lv_iload_n hx hb dX7_readVillage_85 rfl (lv_at hl 2 rfl) ?_
                          have hP : va_P D CL [(h_this, .inr (6, [.ref h_newcomers, .int 0, .int u65_place, .int u66_flaw, .ref h_bytes])), (h_bytes, .inl (cy 0, 60, .inl v_bytes)), (h_newcomers, .inl (cy 3, 3, .inr (.inr (.inr (.inr (va_up (va_up v_newcomers 0 (some q10)) 1 (some q46))))))), (q10, PEl tq10), (q46, PEl tq46), (q68, PEl tq68)] H := (hP.sub [3, 4, 0, 1, 2, 5] rfl)
                          have hD : va_D A [(h_this, .inr (6, [.ref h_newcomers, .int 0, .int u65_place, .int u66_flaw, .ref h_bytes])), (h_bytes, .inl (cy 0, 60, .inl v_bytes)), (h_newcomers, .inl (cy 3, 3, .inr (.inr (.inr (.inr (va_up (va_up v_newcomers 0 (some q10)) 1 (some q46))))))), (q10, PEl tq10), (q46, PEl tq46), (q68, PEl tq68)] := (hD.sub [3, 4, 0, 1, 2, 5] (by decide) rfl)
                          refine W.widen (k := 4) (n := 16) (by decide) (by decide) ?_
                          exact rt_i C hQ rfl hP hD hS ⟨0, u65_place, u66_flaw, (va_up (va_up v_newcomers 0 (some q10)) 1 (some q46)), [(q10, tq10), (q46, tq46), (q68, tq68)], (NSok_c ho_q10 (NSok_c ho_q46 (NSok_c ho_q68 NSok_0))), rfl, hF⟩ dX7_readVillage_86
                  · have hF := hF.2 q64 tq64 rfl
                    have hP : va_P D CL [(h_newcomers, .inl (cy 3, 3, .inr (.inr (.inr (.inr (va_up (va_up v_newcomers 0 (some q10)) 1 (some q46))))))), (q10, PEl tq10), (q46, PEl tq46), (h_this, .inr (6, [.ref h_newcomers, .int v_length, .int u61_place, .int u62_flaw, .ref h_bytes])), (h_bytes, .inl (cy 0, 60, .inl v_bytes)), (q64, PEl tq64)] H := hP
                    have hD : va_D A [(h_newcomers, .inl (cy 3, 3, .inr (.inr (.inr (.inr (va_up (va_up v_newcomers 0 (some q10)) 1 (some q46))))))), (q10, PEl tq10), (q46, PEl tq46), (h_this, .inr (6, [.ref h_newcomers, .int v_length, .int u61_place, .int u62_flaw, .ref h_bytes])), (h_bytes, .inl (cy 0, 60, .inl v_bytes)), (q64, PEl tq64)] := hD
                    refine W.eq (g2 := F0 m 54 ls [.ref q64]) rfl ?_
                    refine lv_astore_n (lv' := [(3, .ref q64), (2, .int 2), (1, .int 2), (0, .ref h_this)]) hx hb dX7_readVillage_54 rfl hl (by decide) rfl (fun ls hl => ?_)
                    refine lv_aload_n hx hb dX7_readVillage_55 rfl (lv_at hl 0 rfl) ?_
                    refine lv_ifnull hx hb dX7_readVillage_56 ?_
                    refine lv_iload_n hx hb dX7_readVillage_59 rfl (lv_at hl 1 rfl) ?_
                    refine lv_iconst (v := 3) hx hb dX7_readVillage_60 (by decide) ?_
                    refine lv_icmp_ge (tgt := 74) hx hb dX7_readVillage_61 (by decide) (fun c9 => absurd c9 (by decide)) (fun _ => ?_)
                    refine lv_aload_n hx hb dX7_readVillage_64 rfl (lv_at hl 3 rfl) ?_
                    refine va_get (D := D) (ci := 6) (v := .ref h_newcomers) (C := RX7) (T := TX7) (N := 5) hx hb hts inTX7 hown hK.1 hP 3 rfl rfl 0 (by decide) (hts _ t1_56) (fun _ h9 => h9) rfl dX7_readVillage_65 ?_
                    refine lv_iload_n hx hb dX7_readVillage_68 rfl (lv_at hl 1 rfl) ?_
                    refine lv_aload_n hx hb dX7_readVillage_69 rfl (lv_at hl 0 rfl) ?_
                    refine va_astqM hx hb hK.1 hP hD hS 0 3 rfl rfl (new_any hK hP (k := 5) rfl ho_q64) (vi (by decide)) dX7_readVillage_70 (fun H locs hP hD hS => ?_)
                    have hP : va_P D CL [(h_newcomers, .inl (cy 3, 3, .inr (.inr (.inr (.inr (va_up (va_up (va_up v_newcomers 0 (some q10)) 1 (some q46)) 2 (some q64))))))), (q10, PEl tq10), (q46, PEl tq46), (h_this, .inr (6, [.ref h_newcomers, .int v_length, .int u61_place, .int u62_flaw, .ref h_bytes])), (h_bytes, .inl (cy 0, 60, .inl v_bytes)), (q64, PEl tq64)] H := hP
                    have hD : va_D A [(h_newcomers, .inl (cy 3, 3, .inr (.inr (.inr (.inr (va_up (va_up (va_up v_newcomers 0 (some q10)) 1 (some q46)) 2 (some q64))))))), (q10, PEl tq10), (q46, PEl tq46), (h_this, .inr (6, [.ref h_newcomers, .int v_length, .int u61_place, .int u62_flaw, .ref h_bytes])), (h_bytes, .inl (cy 0, 60, .inl v_bytes)), (q64, PEl tq64)] := hD
                    refine lv_iinc (v := 3) (lv' := [(1, .int 3), (3, .ref q64), (2, .int 2), (0, .ref h_this)]) hx hb dX7_readVillage_71 hl (k := 2) rfl rfl (by decide) rfl (fun ls hl => ?_)
                    refine lv_iinc (v := 3) (lv' := [(2, .int 3), (1, .int 3), (3, .ref q64), (0, .ref h_this)]) hx hb dX7_readVillage_74 hl (k := 2) rfl rfl (by decide) rfl (fun ls hl => ?_)
                    refine lv_goto (tgt := 26) hx hb dX7_readVillage_77 (by decide) ?_
                    refine lv_iload_n hx hb dX7_readVillage_26 rfl (lv_at hl 0 rfl) ?_
                    refine lv_iconst (v := 3) hx hb dX7_readVillage_27 (by decide) ?_
                    refine lv_icmp_gt (tgt := 80) hx hb dX7_readVillage_28 (by decide) (fun c9 => absurd c9 (by decide)) (fun _ => ?_)
                    refine lv_aload_n hx hb dX7_readVillage_31 rfl (lv_at hl 3 rfl) ?_
                    refine va_get (D := D) (ci := 6) (v := .int u62_flaw) (C := RX7) (T := TX7) (N := 5) hx hb hts inTX7 hown hK.1 hP 3 rfl rfl 3 (by decide) (hts _ t1_62) (fun _ h9 => h9) rfl dX7_readVillage_32 ?_
                    refine lv_if_ne (tgt := 80) hx hb dX7_readVillage_35 (by decide) (fun c_ => ?_) (fun c_ => ?_)
                    · have hF := hF.1 c_
                      refine lv_aload_n hx hb dX7_readVillage_80 rfl (lv_at hl 3 rfl) ?_
                      refine lv_iconst (v := 0) hx hb dX7_readVillage_81 (by decide) ?_
                      refine va_put (D := D) (ci := 6) (v := .int 0) (ty := .int) (C := RX7) (T := TX7) (N := 5) hx hb hts inTX7 tyX7 tyX7_ok nmX7 hown hK.1 hP hD hS 3 rfl rfl 1 (by decide) (hts _ t1_58) (fun _ h9 => h9) rfl (tyX7_ok 1 (by decide)) rfl rfl (Nat.le_of_ble_eq_true rfl) dX7_readVillage_82 (fun H locs hP hD hS => ?_)
                      have hP : va_P D CL [(h_newcomers, .inl (cy 3, 3, .inr (.inr (.inr (.inr (va_up (va_up (va_up v_newcomers 0 (some q10)) 1 (some q46)) 2 (some q64))))))), (q10, PEl tq10), (q46, PEl tq46), (h_this, .inr (6, [.ref h_newcomers, .int 0, .int u61_place, .int u62_flaw, .ref h_bytes])), (h_bytes, .inl (cy 0, 60, .inl v_bytes)), (q64, PEl tq64)] H := hP
                      have hD : va_D A [(h_newcomers, .inl (cy 3, 3, .inr (.inr (.inr (.inr (va_up (va_up (va_up v_newcomers 0 (some q10)) 1 (some q46)) 2 (some q64))))))), (q10, PEl tq10), (q46, PEl tq46), (h_this, .inr (6, [.ref h_newcomers, .int 0, .int u61_place, .int u62_flaw, .ref h_bytes])), (h_bytes, .inl (cy 0, 60, .inl v_bytes)), (q64, PEl tq64)] := hD
                      refine lv_iload_n hx hb dX7_readVillage_85 rfl (lv_at hl 1 rfl) ?_
                      have hP : va_P D CL [(h_this, .inr (6, [.ref h_newcomers, .int 0, .int u61_place, .int u62_flaw, .ref h_bytes])), (h_bytes, .inl (cy 0, 60, .inl v_bytes)), (h_newcomers, .inl (cy 3, 3, .inr (.inr (.inr (.inr (va_up (va_up (va_up v_newcomers 0 (some q10)) 1 (some q46)) 2 (some q64))))))), (q10, PEl tq10), (q46, PEl tq46), (q64, PEl tq64)] H := (hP.sub [3, 4, 0, 1, 2, 5] rfl)
                      have hD : va_D A [(h_this, .inr (6, [.ref h_newcomers, .int 0, .int u61_place, .int u62_flaw, .ref h_bytes])), (h_bytes, .inl (cy 0, 60, .inl v_bytes)), (h_newcomers, .inl (cy 3, 3, .inr (.inr (.inr (.inr (va_up (va_up (va_up v_newcomers 0 (some q10)) 1 (some q46)) 2 (some q64))))))), (q10, PEl tq10), (q46, PEl tq46), (q64, PEl tq64)] := (hD.sub [3, 4, 0, 1, 2, 5] (by decide) rfl)
                      refine W.widen (k := 4) (n := 16) (by decide) (by decide) ?_
                      exact rt_i C hQ rfl hP hD hS ⟨0, u61_place, u62_flaw, (va_up (va_up (va_up v_newcomers 0 (some q10)) 1 (some q46)) 2 (some q64)), [(q10, tq10), (q46, tq46), (q64, tq64)], (NSok_c ho_q10 (NSok_c ho_q46 (NSok_c ho_q64 NSok_0))), rfl, hF⟩ dX7_readVillage_86
                    · have hF := hF.2 c_
                      refine lv_aload_n hx hb dX7_readVillage_38 rfl (lv_at hl 3 rfl) ?_
                      refine va_get (D := D) (ci := 6) (v := .int u61_place) (C := RX7) (T := TX7) (N := 5) hx hb hts inTX7 hown hK.1 hP 3 rfl rfl 2 (by decide) (hts _ t1_60) (fun _ h9 => h9) rfl dX7_readVillage_39 ?_
                      refine lv_aload_n hx hb dX7_readVillage_42 rfl (lv_at hl 3 rfl) ?_
                      refine va_get (D := D) (ci := 6) (v := .int v_length) (C := RX7) (T := TX7) (N := 5) hx hb hts inTX7 hown hK.1 hP 3 rfl rfl 1 (by decide) (hts _ t1_58) (fun _ h9 => h9) rfl dX7_readVillage_43 ?_
                      refine lv_icmp_ge (tgt := 80) hx hb dX7_readVillage_46 (by decide) (fun c_ => ?_) (fun c_ => ?_)
                      · have hF := hF.1 c_
                        refine lv_aload_n hx hb dX7_readVillage_80 rfl (lv_at hl 3 rfl) ?_
                        refine lv_iconst (v := 0) hx hb dX7_readVillage_81 (by decide) ?_
                        refine va_put (D := D) (ci := 6) (v := .int 0) (ty := .int) (C := RX7) (T := TX7) (N := 5) hx hb hts inTX7 tyX7 tyX7_ok nmX7 hown hK.1 hP hD hS 3 rfl rfl 1 (by decide) (hts _ t1_58) (fun _ h9 => h9) rfl (tyX7_ok 1 (by decide)) rfl rfl (Nat.le_of_ble_eq_true rfl) dX7_readVillage_82 (fun H locs hP hD hS => ?_)
                        have hP : va_P D CL [(h_newcomers, .inl (cy 3, 3, .inr (.inr (.inr (.inr (va_up (va_up (va_up v_newcomers 0 (some q10)) 1 (some q46)) 2 (some q64))))))), (q10, PEl tq10), (q46, PEl tq46), (h_this, .inr (6, [.ref h_newcomers, .int 0, .int u61_place, .int u62_flaw, .ref h_bytes])), (h_bytes, .inl (cy 0, 60, .inl v_bytes)), (q64, PEl tq64)] H := hP
                        have hD : va_D A [(h_newcomers, .inl (cy 3, 3, .inr (.inr (.inr (.inr (va_up (va_up (va_up v_newcomers 0 (some q10)) 1 (some q46)) 2 (some q64))))))), (q10, PEl tq10), (q46, PEl tq46), (h_this, .inr (6, [.ref h_newcomers, .int 0, .int u61_place, .int u62_flaw, .ref h_bytes])), (h_bytes, .inl (cy 0, 60, .inl v_bytes)), (q64, PEl tq64)] := hD
                        refine lv_iload_n hx hb dX7_readVillage_85 rfl (lv_at hl 1 rfl) ?_
                        have hP : va_P D CL [(h_this, .inr (6, [.ref h_newcomers, .int 0, .int u61_place, .int u62_flaw, .ref h_bytes])), (h_bytes, .inl (cy 0, 60, .inl v_bytes)), (h_newcomers, .inl (cy 3, 3, .inr (.inr (.inr (.inr (va_up (va_up (va_up v_newcomers 0 (some q10)) 1 (some q46)) 2 (some q64))))))), (q10, PEl tq10), (q46, PEl tq46), (q64, PEl tq64)] H := (hP.sub [3, 4, 0, 1, 2, 5] rfl)
                        have hD : va_D A [(h_this, .inr (6, [.ref h_newcomers, .int 0, .int u61_place, .int u62_flaw, .ref h_bytes])), (h_bytes, .inl (cy 0, 60, .inl v_bytes)), (h_newcomers, .inl (cy 3, 3, .inr (.inr (.inr (.inr (va_up (va_up (va_up v_newcomers 0 (some q10)) 1 (some q46)) 2 (some q64))))))), (q10, PEl tq10), (q46, PEl tq46), (q64, PEl tq64)] := (hD.sub [3, 4, 0, 1, 2, 5] (by decide) rfl)
                        refine W.widen (k := 4) (n := 16) (by decide) (by decide) ?_
                        exact rt_i C hQ rfl hP hD hS ⟨0, u61_place, u62_flaw, (va_up (va_up (va_up v_newcomers 0 (some q10)) 1 (some q46)) 2 (some q64)), [(q10, tq10), (q46, tq46), (q64, tq64)], (NSok_c ho_q10 (NSok_c ho_q46 (NSok_c ho_q64 NSok_0))), rfl, hF⟩ dX7_readVillage_86
                      · have hF := hF.2 c_
                        refine lv_aload_n hx hb dX7_readVillage_49 rfl (lv_at hl 3 rfl) ?_
                        refine lv_iload_n hx hb dX7_readVillage_50 rfl (lv_at hl 0 rfl) ?_
                        refine cV_t (As := [.int 3]) (wr := [(h_newcomers, .inl (cy 3, 3, .inr (.inr (.inr (.inr (va_up (va_up (va_up v_newcomers 0 (some q10)) 1 (some q46)) 2 (some q64))))))), (q10, PEl tq10), (q46, PEl tq46), (q64, PEl tq64)]) C hA hP hD hS mfX7_readPerson t2_61 ts_4 t2_59 (ccX7_readPerson l D cy h_this h_bytes (.ref h_newcomers) v_length u61_place u62_flaw v_bytes 3 _ hF) [3, 4] [0, 1, 2, 5] rfl rfl (by decide) (by decide) (by decide) PO.np 3 6 rfl rfl rfl rfl hl.1 rfl (Nat.le_of_ble_eq_true rfl) dX7_readVillage_51 ⟨Nat.le_of_ble_eq_true rfl, Nat.le_of_ble_eq_true rfl⟩ ⟨Nat.le_of_ble_eq_true rfl, Nat.le_of_ble_eq_true rfl⟩ ?_
                        rintro r w1 H locs (⟨u70_place, u71_flaw, rfl, rfl, hF⟩ | ⟨q73, tq73, u70_place, u71_flaw, ho_q73, rfl, rfl, hF⟩) hP hD hS
                        · have hF := hF.1 rfl
                          have hP : va_P D CL [(h_newcomers, .inl (cy 3, 3, .inr (.inr (.inr (.inr (va_up (va_up (va_up v_newcomers 0 (some q10)) 1 (some q46)) 2 (some q64))))))), (q10, PEl tq10), (q46, PEl tq46), (q64, PEl tq64), (h_this, .inr (6, [.ref h_newcomers, .int v_length, .int u70_place, .int u71_flaw, .ref h_bytes])), (h_bytes, .inl (cy 0, 60, .inl v_bytes))] H := hP
                          have hD : va_D A [(h_newcomers, .inl (cy 3, 3, .inr (.inr (.inr (.inr (va_up (va_up (va_up v_newcomers 0 (some q10)) 1 (some q46)) 2 (some q64))))))), (q10, PEl tq10), (q46, PEl tq46), (q64, PEl tq64), (h_this, .inr (6, [.ref h_newcomers, .int v_length, .int u70_place, .int u71_flaw, .ref h_bytes])), (h_bytes, .inl (cy 0, 60, .inl v_bytes))] := hD
                          refine W.eq (g2 := F0 m 54 ls [.null]) rfl ?_
                          refine lv_astore_nN (lv' := [(3, .null), (2, .int 3), (1, .int 3), (0, .ref h_this)]) hx hb dX7_readVillage_54 rfl hl (by decide) rfl (fun ls hl => ?_)
                          refine lv_aload_nN hx hb dX7_readVillage_55 rfl (lv_at hl 0 rfl) ?_
                          refine lv_ifnullN (tgt := 74) hx hb dX7_readVillage_56 (by decide) ?_
                          refine lv_iinc (v := 4) (lv' := [(2, .int 4), (3, .null), (1, .int 3), (0, .ref h_this)]) hx hb dX7_readVillage_74 hl (k := 1) rfl rfl (by decide) rfl (fun ls hl => ?_)
                          refine lv_goto (tgt := 26) hx hb dX7_readVillage_77 (by decide) ?_
                          refine lv_iload_n hx hb dX7_readVillage_26 rfl (lv_at hl 0 rfl) ?_
                          refine lv_iconst (v := 3) hx hb dX7_readVillage_27 (by decide) ?_
                          refine lv_icmp_gt (tgt := 80) hx hb dX7_readVillage_28 (by decide) (fun _ => ?_) (fun c9 => absurd (by decide) c9)
                          refine lv_aload_n hx hb dX7_readVillage_80 rfl (lv_at hl 3 rfl) ?_
                          refine lv_iconst (v := 0) hx hb dX7_readVillage_81 (by decide) ?_
                          refine va_put (D := D) (ci := 6) (v := .int 0) (ty := .int) (C := RX7) (T := TX7) (N := 5) hx hb hts inTX7 tyX7 tyX7_ok nmX7 hown hK.1 hP hD hS 4 rfl rfl 1 (by decide) (hts _ t1_58) (fun _ h9 => h9) rfl (tyX7_ok 1 (by decide)) rfl rfl (Nat.le_of_ble_eq_true rfl) dX7_readVillage_82 (fun H locs hP hD hS => ?_)
                          have hP : va_P D CL [(h_newcomers, .inl (cy 3, 3, .inr (.inr (.inr (.inr (va_up (va_up (va_up v_newcomers 0 (some q10)) 1 (some q46)) 2 (some q64))))))), (q10, PEl tq10), (q46, PEl tq46), (q64, PEl tq64), (h_this, .inr (6, [.ref h_newcomers, .int 0, .int u70_place, .int u71_flaw, .ref h_bytes])), (h_bytes, .inl (cy 0, 60, .inl v_bytes))] H := hP
                          have hD : va_D A [(h_newcomers, .inl (cy 3, 3, .inr (.inr (.inr (.inr (va_up (va_up (va_up v_newcomers 0 (some q10)) 1 (some q46)) 2 (some q64))))))), (q10, PEl tq10), (q46, PEl tq46), (q64, PEl tq64), (h_this, .inr (6, [.ref h_newcomers, .int 0, .int u70_place, .int u71_flaw, .ref h_bytes])), (h_bytes, .inl (cy 0, 60, .inl v_bytes))] := hD
                          refine lv_iload_n hx hb dX7_readVillage_85 rfl (lv_at hl 2 rfl) ?_
                          have hP : va_P D CL [(h_this, .inr (6, [.ref h_newcomers, .int 0, .int u70_place, .int u71_flaw, .ref h_bytes])), (h_bytes, .inl (cy 0, 60, .inl v_bytes)), (h_newcomers, .inl (cy 3, 3, .inr (.inr (.inr (.inr (va_up (va_up (va_up v_newcomers 0 (some q10)) 1 (some q46)) 2 (some q64))))))), (q10, PEl tq10), (q46, PEl tq46), (q64, PEl tq64)] H := (hP.sub [4, 5, 0, 1, 2, 3] rfl)
                          have hD : va_D A [(h_this, .inr (6, [.ref h_newcomers, .int 0, .int u70_place, .int u71_flaw, .ref h_bytes])), (h_bytes, .inl (cy 0, 60, .inl v_bytes)), (h_newcomers, .inl (cy 3, 3, .inr (.inr (.inr (.inr (va_up (va_up (va_up v_newcomers 0 (some q10)) 1 (some q46)) 2 (some q64))))))), (q10, PEl tq10), (q46, PEl tq46), (q64, PEl tq64)] := (hD.sub [4, 5, 0, 1, 2, 3] (by decide) rfl)
                          refine W.widen (k := 4) (n := 16) (by decide) (by decide) ?_
                          exact rt_i C hQ rfl hP hD hS ⟨0, u70_place, u71_flaw, (va_up (va_up (va_up v_newcomers 0 (some q10)) 1 (some q46)) 2 (some q64)), [(q10, tq10), (q46, tq46), (q64, tq64)], (NSok_c ho_q10 (NSok_c ho_q46 (NSok_c ho_q64 NSok_0))), rfl, hF⟩ dX7_readVillage_86
                        · have hF := hF.2 q73 tq73 rfl
                          have hP : va_P D CL [(h_newcomers, .inl (cy 3, 3, .inr (.inr (.inr (.inr (va_up (va_up (va_up v_newcomers 0 (some q10)) 1 (some q46)) 2 (some q64))))))), (q10, PEl tq10), (q46, PEl tq46), (q64, PEl tq64), (h_this, .inr (6, [.ref h_newcomers, .int v_length, .int u70_place, .int u71_flaw, .ref h_bytes])), (h_bytes, .inl (cy 0, 60, .inl v_bytes)), (q73, PEl tq73)] H := hP
                          have hD : va_D A [(h_newcomers, .inl (cy 3, 3, .inr (.inr (.inr (.inr (va_up (va_up (va_up v_newcomers 0 (some q10)) 1 (some q46)) 2 (some q64))))))), (q10, PEl tq10), (q46, PEl tq46), (q64, PEl tq64), (h_this, .inr (6, [.ref h_newcomers, .int v_length, .int u70_place, .int u71_flaw, .ref h_bytes])), (h_bytes, .inl (cy 0, 60, .inl v_bytes)), (q73, PEl tq73)] := hD
                          refine W.eq (g2 := F0 m 54 ls [.ref q73]) rfl ?_
                          refine lv_astore_n (lv' := [(3, .ref q73), (2, .int 3), (1, .int 3), (0, .ref h_this)]) hx hb dX7_readVillage_54 rfl hl (by decide) rfl (fun ls hl => ?_)
                          refine lv_aload_n hx hb dX7_readVillage_55 rfl (lv_at hl 0 rfl) ?_
                          refine lv_ifnull hx hb dX7_readVillage_56 ?_
                          refine lv_iload_n hx hb dX7_readVillage_59 rfl (lv_at hl 1 rfl) ?_
                          refine lv_iconst (v := 3) hx hb dX7_readVillage_60 (by decide) ?_
                          refine lv_icmp_ge (tgt := 74) hx hb dX7_readVillage_61 (by decide) (fun _ => ?_) (fun c9 => absurd (by decide) c9)
                          refine lv_iinc (v := 4) (lv' := [(2, .int 4), (3, .ref q73), (1, .int 3), (0, .ref h_this)]) hx hb dX7_readVillage_74 hl (k := 1) rfl rfl (by decide) rfl (fun ls hl => ?_)
                          refine lv_goto (tgt := 26) hx hb dX7_readVillage_77 (by decide) ?_
                          refine lv_iload_n hx hb dX7_readVillage_26 rfl (lv_at hl 0 rfl) ?_
                          refine lv_iconst (v := 3) hx hb dX7_readVillage_27 (by decide) ?_
                          refine lv_icmp_gt (tgt := 80) hx hb dX7_readVillage_28 (by decide) (fun _ => ?_) (fun c9 => absurd (by decide) c9)
                          refine lv_aload_n hx hb dX7_readVillage_80 rfl (lv_at hl 3 rfl) ?_
                          refine lv_iconst (v := 0) hx hb dX7_readVillage_81 (by decide) ?_
                          refine va_put (D := D) (ci := 6) (v := .int 0) (ty := .int) (C := RX7) (T := TX7) (N := 5) hx hb hts inTX7 tyX7 tyX7_ok nmX7 hown hK.1 hP hD hS 4 rfl rfl 1 (by decide) (hts _ t1_58) (fun _ h9 => h9) rfl (tyX7_ok 1 (by decide)) rfl rfl (Nat.le_of_ble_eq_true rfl) dX7_readVillage_82 (fun H locs hP hD hS => ?_)
                          have hP : va_P D CL [(h_newcomers, .inl (cy 3, 3, .inr (.inr (.inr (.inr (va_up (va_up (va_up v_newcomers 0 (some q10)) 1 (some q46)) 2 (some q64))))))), (q10, PEl tq10), (q46, PEl tq46), (q64, PEl tq64), (h_this, .inr (6, [.ref h_newcomers, .int 0, .int u70_place, .int u71_flaw, .ref h_bytes])), (h_bytes, .inl (cy 0, 60, .inl v_bytes)), (q73, PEl tq73)] H := hP
                          have hD : va_D A [(h_newcomers, .inl (cy 3, 3, .inr (.inr (.inr (.inr (va_up (va_up (va_up v_newcomers 0 (some q10)) 1 (some q46)) 2 (some q64))))))), (q10, PEl tq10), (q46, PEl tq46), (q64, PEl tq64), (h_this, .inr (6, [.ref h_newcomers, .int 0, .int u70_place, .int u71_flaw, .ref h_bytes])), (h_bytes, .inl (cy 0, 60, .inl v_bytes)), (q73, PEl tq73)] := hD
                          refine lv_iload_n hx hb dX7_readVillage_85 rfl (lv_at hl 2 rfl) ?_
                          have hP : va_P D CL [(h_this, .inr (6, [.ref h_newcomers, .int 0, .int u70_place, .int u71_flaw, .ref h_bytes])), (h_bytes, .inl (cy 0, 60, .inl v_bytes)), (h_newcomers, .inl (cy 3, 3, .inr (.inr (.inr (.inr (va_up (va_up (va_up v_newcomers 0 (some q10)) 1 (some q46)) 2 (some q64))))))), (q10, PEl tq10), (q46, PEl tq46), (q64, PEl tq64), (q73, PEl tq73)] H := (hP.sub [4, 5, 0, 1, 2, 3, 6] rfl)
                          have hD : va_D A [(h_this, .inr (6, [.ref h_newcomers, .int 0, .int u70_place, .int u71_flaw, .ref h_bytes])), (h_bytes, .inl (cy 0, 60, .inl v_bytes)), (h_newcomers, .inl (cy 3, 3, .inr (.inr (.inr (.inr (va_up (va_up (va_up v_newcomers 0 (some q10)) 1 (some q46)) 2 (some q64))))))), (q10, PEl tq10), (q46, PEl tq46), (q64, PEl tq64), (q73, PEl tq73)] := (hD.sub [4, 5, 0, 1, 2, 3, 6] (by decide) rfl)
                          refine W.widen (k := 4) (n := 16) (by decide) (by decide) ?_
                          exact rt_i C hQ rfl hP hD hS ⟨0, u70_place, u71_flaw, (va_up (va_up (va_up v_newcomers 0 (some q10)) 1 (some q46)) 2 (some q64)), [(q10, tq10), (q46, tq46), (q64, tq64), (q73, tq73)], (NSok_c ho_q10 (NSok_c ho_q46 (NSok_c ho_q64 (NSok_c ho_q73 NSok_0)))), rfl, hF⟩ dX7_readVillage_86
