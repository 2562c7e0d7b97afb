def wlX12_power_4 (post : Int64 → Prop) : Nat → Int32 → Int64 → Int32 → Prop
  | 0, _, _, _ => False
  | n + 1, l0, l1, l3 => (l0 ≤ l3 → (post l1)) ∧ (¬ l0 ≤ l3 → ((wlX12_power_4 post n) l0 (l1 * 10) (l3 + 1)))
def wpX12_power (p0 : Int32) (post : Int64 → Prop) : Prop := wlX12_power_4 post fu p0 1 0
abbrev miX12_power : MI := (yX12_power, cX12_power, 4, (some .long))
theorem mfX12_power : MF miX12_power 1 := ⟨t5_146, t1_8, by decide +kernel⟩
abbrev rmX12_power : Room := { frames := 0, cells := 0, slots := 0, locals := 0 }
set_option maxHeartbeats 4000000 in
set_option maxRecDepth 100000 in
theorem ccX12_power (l : Launch) (D : va_G) (cy : Nat → ClassId) (p0 : Int32) (post : Int64 → Prop) (hF : wpX12_power p0 post) : Cr l D cy miX12_power rmX12_power emL NP [.int p0] [] post := by
  refine Cr.of (by decide) (Nat.le_of_ble_eq_true rfl) ?_
  intro p e s m args below meth c ls Q C hQ hO hP hl
  obtain ⟨hx, hb, hr, hml, hown, hts, hK, hlk, hnm⟩ := id C
  have hb : c.code = cX12_power := hb
  have hml : c.maxLocals = 4 := hml
  have hown : s.vm.findClass RX12 = some m.cls := hown
  have hl : lv_has ls 4 [(0, .int p0)] := hl
  have L_4 : ∀ (n_4 : Nat) (l0 : Int32) (l1 : Int64) (l3 : Int32) (ls : Array Slot), lv_has ls 4 [(0, .int l0), (1, .long l1), (3, .int l3)] → wlX12_power_4 post n_4 l0 l1 l3 → W p l e rmX12_power s m args below meth c s.heap [] 0 0 Q (F0 m 4 ls []) := by
    intro n_4
    induction n_4 with
    | zero =>
      intro l0 l1 l3 ls  hl hF
      simp only [wlX12_power_4] at hF
    | succ n_4 ih_4 =>
      intro l0 l1 l3 ls  hl hF
      unfold wlX12_power_4 at hF
      refine lv_iload_n hx hb dX12_power_4 rfl (lv_at hl 2 rfl) ?_
      refine lv_iload_n hx hb dX12_power_5 rfl (lv_at hl 0 rfl) ?_
      refine lv_icmp_ge (tgt := 21) hx hb dX12_power_6 (by decide) (fun c_ => ?_) (fun c_ => ?_)
      · have hF := hF.1 c_
        refine lv_lload_n hx hb dX12_power_21 rfl (lv_at hl 1 rfl) ?_
        exact rr_l C hQ rfl hF dX12_power_22
      · have hF := hF.2 c_
        refine lv_lload_n hx hb dX12_power_9 rfl (lv_at hl 1 rfl) ?_
        refine lv_ldc2 hx hb hown (hts _ t5_77) dX12_power_10 ?_
        refine lv_lmul hx hb dX12_power_13 ?_
        refine lv_lstore_n (lv' := [(1, .long (l1 * 10)), (0, .int l0), (3, .int l3)]) hx hb dX12_power_14 rfl hl (by decide) rfl (fun ls hl => ?_)
        refine lv_iinc (v := (l3 + 1)) (lv' := [(3, .int (l3 + 1)), (1, .long (l1 * 10)), (0, .int l0)]) hx hb dX12_power_15 hl (k := 2) rfl rfl (by decide) rfl (fun ls hl => ?_)
        refine lv_goto (tgt := 4) hx hb dX12_power_18 (by decide) ?_
        exact ih_4 l0 (l1 * 10) (l3 + 1) ls  (lv_sub hl [2, 1, 0] rfl) hF
  unfold wpX12_power at hF
  refine lv_lconst (v := 1) hx hb dX12_power_0 (by decide) ?_
  refine lv_lstore_n (lv' := [(1, .long 1), (0, .int p0)]) hx hb dX12_power_1 rfl hl (by decide) rfl (fun ls hl => ?_)
  refine lv_iconst (v := 0) hx hb dX12_power_2 (by decide) ?_
  refine lv_istore_n (lv' := [(3, .int 0), (1, .long 1), (0, .int p0)]) hx hb dX12_power_3 rfl hl (by decide) rfl (fun ls hl => ?_)
  exact L_4 fu p0 1 0 ls  (lv_sub hl [2, 1, 0] rfl) hF

def wlX12_tells_17 (post : Int64 → Prop) : Nat → Int64 → Int64 → Bool → Int64 → Int64 → Prop
  | 0, _, _, _, _, _ => False
  | n + 1, l0, l2, l4, l5, l7 => (l7 = 0 → ((l4 = false → (¬ l5 = 0 ∧ (post (l2 / l5)))) ∧ (l4 = true → (¬ l5 = 0 ∧ (post (l0 / l5)))))) ∧ (¬ l7 = 0 → (¬ l7 = 0 ∧ ((wlX12_tells_17 post n) l0 l2 l4 l7 (l5 - l5 / l7 * l7))))
def wjX12_tells_12 (post : Int64 → Prop) (l0 : Int64) (l2 : Int64) (l4 : Bool) (k0 : Int64) : Prop := wlX12_tells_17 post fu l0 l2 l4 k0 l2
def wpX12_tells (p0 : Int64) (p1 : Int64) (p2 : Bool) (post : Int64 → Prop) : Prop := (0 ≤ p0 → (wjX12_tells_12 post p0 p1 p2 p0)) ∧ (¬ 0 ≤ p0 → (wjX12_tells_12 post p0 p1 p2 (-p0)))
abbrev miX12_tells : MI := (yX12_tells, cX12_tells, 11, (some .long))
theorem mfX12_tells : MF miX12_tells 3 := ⟨t5_149, t1_8, by decide +kernel⟩
abbrev rmX12_tells : Room := { frames := 0, cells := 0, slots := 0, locals := 0 }
set_option maxHeartbeats 4000000 in
set_option maxRecDepth 100000 in
theorem ccX12_tells (l : Launch) (D : va_G) (cy : Nat → ClassId) (p0 : Int64) (p1 : Int64) (p2 : Bool) (post : Int64 → Prop) (hF : wpX12_tells p0 p1 p2 post) : Cr l D cy miX12_tells rmX12_tells emL NP [.long p0, .long p1, .int (bz p2)] [] post := by
  refine Cr.of (by decide) (Nat.le_of_ble_eq_true rfl) ?_
  intro p e s m args below meth c ls Q C hQ hO hP hl
  obtain ⟨hx, hb, hr, hml, hown, hts, hK, hlk, hnm⟩ := id C
  have hb : c.code = cX12_tells := hb
  have hml : c.maxLocals = 11 := hml
  have hown : s.vm.findClass RX12 = some m.cls := hown
  have hl : lv_has ls 11 [(0, .long p0), (2, .long p1), (4, .int (bz p2))] := hl
  have L_17 : ∀ (n_17 : Nat) (l0 : Int64) (l2 : Int64) (l4 : Bool) (l5 : Int64) (l7 : Int64) (ls : Array Slot), lv_has ls 11 [(0, .long l0), (2, .long l2), (4, .int (bz l4)), (5, .long l5), (7, .long l7)] → wlX12_tells_17 post n_17 l0 l2 l4 l5 l7 → W p l e rmX12_tells s m args below meth c s.heap [] 0 0 Q (F0 m 17 ls []) := by
    intro n_17
    induction n_17 with
    | zero =>
      intro l0 l2 l4 l5 l7 ls  hl hF
      simp only [wlX12_tells_17] at hF
    | succ n_17 ih_17 =>
      intro l0 l2 l4 l5 l7 ls  hl hF
      unfold wlX12_tells_17 at hF
      refine lv_lload hx hb dX12_tells_17 (lv_at hl 4 rfl) ?_
      refine lv_lconst (v := 0) hx hb dX12_tells_19 (by decide) ?_
      refine W.lcmp hx hb dX12_tells_20 ?_
      refine lv_if_eq (tgt := 42) hx hb dX12_tells_21 (by decide) (fun c_ => ?_) (fun c_ => ?_)
      · have hF := hF.1 ((lg_cmp_eq _ _).mp c_)
        refine lv_iload hx hb dX12_tells_42 (lv_at hl 2 rfl) ?_
        refine lv_if_eq (tgt := 54) hx hb dX12_tells_44 (by decide) (fun c_ => ?_) (fun c_ => ?_)
        · have hF := hF.1 ((bz_0 _).mp c_)
          refine lv_lload_n hx hb dX12_tells_54 rfl (lv_at hl 1 rfl) ?_
          refine lv_lload hx hb dX12_tells_55 (lv_at hl 3 rfl) ?_
          obtain ⟨hz1, hF⟩ := hF
          refine lv_ldiv hx hb dX12_tells_57 hz1 ?_
          exact rr_l C hQ rfl hF dX12_tells_58
        · have hF := hF.2 ((bz_1 _).mp c_)
          refine lv_lload_n hx hb dX12_tells_47 rfl (lv_at hl 0 rfl) ?_
          refine lv_lload hx hb dX12_tells_48 (lv_at hl 3 rfl) ?_
          obtain ⟨hz2, hF⟩ := hF
          refine lv_ldiv hx hb dX12_tells_50 hz2 ?_
          refine lv_goto (tgt := 58) hx hb dX12_tells_51 (by decide) ?_
          exact rr_l C hQ rfl hF dX12_tells_58
      · have hF := hF.2 (fun z9 => c_ ((lg_cmp_eq _ _).mpr z9))
        refine lv_lload hx hb dX12_tells_24 (lv_at hl 3 rfl) ?_
        refine lv_lload hx hb dX12_tells_26 (lv_at hl 4 rfl) ?_
        obtain ⟨hz3, hF⟩ := hF
        refine lv_lrem hx hb dX12_tells_28 hz3 ?_
        refine lv_lstore (lv' := [(9, .long (l5 - l5 / l7 * l7)), (0, .long l0), (2, .long l2), (4, .int (bz l4)), (5, .long l5), (7, .long l7)]) hx hb dX12_tells_29 hl (by decide) rfl (fun ls hl => ?_)
        refine lv_lload hx hb dX12_tells_31 (lv_at hl 5 rfl) ?_
        refine lv_lstore (lv' := [(5, .long l7), (9, .long (l5 - l5 / l7 * l7)), (0, .long l0), (2, .long l2), (4, .int (bz l4)), (7, .long l7)]) hx hb dX12_tells_33 hl (by decide) rfl (fun ls hl => ?_)
        refine lv_lload hx hb dX12_tells_35 (lv_at hl 1 rfl) ?_
        refine lv_lstore (lv' := [(7, .long (l5 - l5 / l7 * l7)), (5, .long l7), (9, .long (l5 - l5 / l7 * l7)), (0, .long l0), (2, .long l2), (4, .int (bz l4))]) hx hb dX12_tells_37 hl (by decide) rfl (fun ls hl => ?_)
        refine lv_goto (tgt := 17) hx hb dX12_tells_39 (by decide) ?_
        exact ih_17 l0 l2 l4 l7 (l5 - l5 / l7 * l7) ls  (lv_sub hl [3, 4, 5, 1, 0] rfl) hF
  have J_12 : ∀ (l0 : Int64) (l2 : Int64) (l4 : Bool) (k0 : Int64) (ls : Array Slot), lv_has ls 11 [(0, .long l0), (2, .long l2), (4, .int (bz l4))] → wjX12_tells_12 post l0 l2 l4 k0 → W p l e rmX12_tells s m args below meth c s.heap [] 0 0 Q (F0 m 12 ls [.long k0]) := by
    intro l0 l2 l4 k0 ls  hl hF
    unfold wjX12_tells_12 at hF
    refine lv_lstore (lv' := [(5, .long k0), (0, .long l0), (2, .long l2), (4, .int (bz l4))]) hx hb dX12_tells_12 hl (by decide) rfl (fun ls hl => ?_)
    refine lv_lload_n hx hb dX12_tells_14 rfl (lv_at hl 2 rfl) ?_
    refine lv_lstore (lv' := [(7, .long l2), (5, .long k0), (0, .long l0), (2, .long l2), (4, .int (bz l4))]) hx hb dX12_tells_15 hl (by decide) rfl (fun ls hl => ?_)
    exact L_17 fu l0 l2 l4 k0 l2 ls  (lv_sub hl [2, 3, 4, 1, 0] rfl) hF
  unfold wpX12_tells at hF
  refine lv_lload_n hx hb dX12_tells_0 rfl (lv_at hl 0 rfl) ?_
  refine lv_lconst (v := 0) hx hb dX12_tells_1 (by decide) ?_
  refine W.lcmp hx hb dX12_tells_2 ?_
  refine lv_if_ge (tgt := 11) hx hb dX12_tells_3 (by decide) (fun c_ => ?_) (fun c_ => ?_)
  · have hF := hF.1 ((lg_cmp_ge _ _).mp c_)
    refine lv_lload_n hx hb dX12_tells_11 rfl (lv_at hl 0 rfl) ?_
    exact J_12 p0 p1 p2 p0 ls  (lv_sub hl [0, 1, 2] rfl) hF
  · have hF := hF.2 (fun z9 => c_ ((lg_cmp_ge _ _).mpr z9))
    refine lv_lload_n hx hb dX12_tells_6 rfl (lv_at hl 0 rfl) ?_
    refine lv_lneg hx hb dX12_tells_7 ?_
    refine lv_goto (tgt := 12) hx hb dX12_tells_8 (by decide) ?_
    exact J_12 p0 p1 p2 (-p0) ls  (lv_sub hl [0, 1, 2] rfl) hF

def wjX12_ways_55 (v_now : Nat → Int32) (post : Int64 → Prop) (K_5 : Int32 → Int32 → Int64 → Int32 → Prop) (l1 : Int32) (l2 : Int32) (l5 : Int32) (k0 : Int64) (k1 : Int64) : Prop := K_5 l1 l2 (k1 * k0) (l5 + 1)
def wlX12_ways_5 (v_now : Nat → Int32) (post : Int64 → Prop) : Nat → Int32 → Int32 → Int64 → Int32 → Prop
  | 0, _, _, _, _ => False
  | n + 1, l1, l2, l3, l5 => ((v_now 1) ≤ l5 → (post l3)) ∧ (¬ (v_now 1) ≤ l5 → (wpX12_odds l5 ((l1 >>> (l5 &&& 31)) &&& 1) v_now (fun r1 => wpX12_has l2 l5 (fun r2 => (r2 = false → (wjX12_ways_55 v_now post (wlX12_ways_5 v_now post n) l1 l2 l5 (((10 - r1)).toInt64) l3)) ∧ (r2 = true → (wjX12_ways_55 v_now post (wlX12_ways_5 v_now post n) l1 l2 l5 ((r1).toInt64) l3))))))
def wpX12_ways (p0 : Int32) (p1 : Int32) (v_now : Nat → Int32) (post : Int64 → Prop) : Prop := wlX12_ways_5 v_now post fu p0 p1 1 0
abbrev miX12_ways : MI := (yX12_ways, cX12_ways, 7, (some .long))
theorem mfX12_ways : MF miX12_ways 2 := ⟨t5_140, t1_8, by decide +kernel⟩
abbrev rmX12_ways : Room := { frames := 2, cells := 0, slots := 0, locals := 45 }
set_option maxHeartbeats 4000000 in
set_option maxRecDepth 100000 in
theorem ccX12_ways (l : Launch) (D : va_G) (cy : Nat → ClassId) (h_this : Nat) (h_now : Nat) (x_lane : Value) (x_many : Value) (x_items : Value) (x_spare : Value) (x_tape : Value) (x_draft : Value) (x_tried : Value) (x_past : Value) (x_images : Value) (x_kept : Value) (x_trace : Value) (x_comes : Value) (x_standing : Value) (x_brought : Value) (x_habit : Value) (v_status : Int32) (v_taped : Int32) (v_faultKind : Int32) (v_faultPlace : Int32) (v_at : Int32) (v_start : Int32) (v_token : Int32) (v_value : Int32) (v_acts : Int32) (v_traced : Int32) (v_livedMany : Int32) (v_now : Nat → Int32) (p0 : Int32) (p1 : Int32) (post : Int64 → Prop) (hF : wpX12_ways p0 p1 v_now post) : Cr l D cy miX12_ways rmX12_ways emL NP [.ref h_this, .int p0, .int p1] [(h_this, .inr (11, [x_lane, x_many, x_items, x_spare, .int v_status, x_tape, .int v_taped, .int v_faultKind, .int v_faultPlace, .int v_at, .int v_start, .int v_token, .int v_value, .ref h_now, x_draft, x_tried, x_past, .int v_acts, x_images, x_kept, x_trace, .int v_traced, x_comes, x_standing, x_brought, x_habit, .int v_livedMany])), (h_now, .inl (cy 0, 124, .inl v_now))] post := by
  refine Cr.of (by decide) (Nat.le_of_ble_eq_true rfl) ?_
  intro p e s m args below meth c ls Q C hQ hO hP hl
  obtain ⟨hx, hb, hr, hml, hown, hts, hK, hlk, hnm⟩ := id C
  have hb : c.code = cX12_ways := hb
  have hml : c.maxLocals = 7 := hml
  have hown : s.vm.findClass RX12 = some m.cls := hown
  have hl : lv_has ls 7 [(0, .ref h_this), (1, .int p0), (2, .int p1)] := hl
  have L_5 : ∀ (n_5 : Nat) (l1 : Int32) (l2 : Int32) (l3 : Int64) (l5 : Int32) (ls : Array Slot), lv_has ls 7 [(0, .ref h_this), (1, .int l1), (2, .int l2), (3, .long l3), (5, .int l5)] → wlX12_ways_5 v_now post n_5 l1 l2 l3 l5 → W p l e rmX12_ways s m args below meth c s.heap [] 0 0 Q (F0 m 5 ls []) := by
    intro n_5
    induction n_5 with
    | zero =>
      intro l1 l2 l3 l5 ls  hl hF
      simp only [wlX12_ways_5] at hF
    | succ n_5 ih_5 =>
      have J_55 : ∀ (l1 : Int32) (l2 : Int32) (l5 : Int32) (k0 : Int64) (k1 : Int64) (ls : Array Slot), lv_has ls 7 [(0, .ref h_this), (1, .int l1), (2, .int l2), (5, .int l5)] → wjX12_ways_55 v_now post (wlX12_ways_5 v_now post n_5) l1 l2 l5 k0 k1 → W p l e rmX12_ways s m args below meth c s.heap [] 0 0 Q (F0 m 55 ls [.long k0, .long k1]) := by
        intro l1 l2 l5 k0 k1 ls  hl hF
        unfold wjX12_ways_55 at hF
        refine lv_lmul hx hb dX12_ways_55 ?_
        refine lv_lstore_n (lv' := [(3, .long (k1 * k0)), (0, .ref h_this), (1, .int l1), (2, .int l2), (5, .int l5)]) hx hb dX12_ways_56 rfl hl (by decide) rfl (fun ls hl => ?_)
        refine lv_iinc (v := (l5 + 1)) (lv' := [(5, .int (l5 + 1)), (3, .long (k1 * k0)), (0, .ref h_this), (1, .int l1), (2, .int l2)]) hx hb dX12_ways_57 hl (k := 4) rfl rfl (by decide) rfl (fun ls hl => ?_)
        refine lv_goto (tgt := 5) hx hb dX12_ways_60 (by decide) ?_
        exact ih_5 l1 l2 (k1 * k0) (l5 + 1) ls  (lv_sub hl [2, 3, 4, 1, 0] rfl) hF
      intro l1 l2 l3 l5 ls  hl hF
      unfold wlX12_ways_5 at hF
      refine lv_iload hx hb dX12_ways_5 (lv_at hl 4 rfl) ?_
      refine lv_aload_n hx hb dX12_ways_7 rfl (lv_at hl 0 rfl) ?_
      refine va_get (D := D) (ci := 11) (v := .ref h_now) (C := RX12) (T := TX12) (N := 27) hx hb hts inTX12 hown hK.1 hP 0 rfl rfl 13 (by decide) (hts _ t4_137) (fun _ h9 => h9) rfl dX12_ways_8 ?_
      refine lv_iconst (v := 1) hx hb dX12_ways_11 (by decide) ?_
      refine s_iald (j := 1) hx hb hK.1 hP 1 0 rfl rfl (vi (by decide)) (by decide) dX12_ways_12 ?_
      refine lv_icmp_ge (tgt := 63) hx hb dX12_ways_13 (by decide) (fun c_ => ?_) (fun c_ => ?_)
      · have hF := hF.1 c_
        refine lv_lload_n hx hb dX12_ways_63 rfl (lv_at hl 3 rfl) ?_
        exact rr_l C hQ rfl hF dX12_ways_64
      · have hF := hF.2 c_
        refine lv_aload_n hx hb dX12_ways_16 rfl (lv_at hl 0 rfl) ?_
        refine va_get (D := D) (ci := 11) (v := .ref h_now) (C := RX12) (T := TX12) (N := 27) hx hb hts inTX12 hown hK.1 hP 0 rfl rfl 13 (by decide) (hts _ t4_137) (fun _ h9 => h9) rfl dX12_ways_17 ?_
        refine lv_iload hx hb dX12_ways_20 (lv_at hl 4 rfl) ?_
        refine lv_iload_n hx hb dX12_ways_22 rfl (lv_at hl 1 rfl) ?_
        refine lv_iload hx hb dX12_ways_23 (lv_at hl 4 rfl) ?_
        refine lv_ishr hx hb dX12_ways_25 ?_
        refine lv_iconst (v := 1) hx hb dX12_ways_26 (by decide) ?_
        refine lv_iand hx hb dX12_ways_27 ?_
        refine cS_r (As := [.ref h_now, .int l5, .int ((l1 >>> (l5 &&& 31)) &&& 1)]) C mfX12_odds t5_79 t5_78 (ccX12_odds l D cy h_now v_now l5 ((l1 >>> (l5 &&& 31)) &&& 1) _ hF) rfl rfl (hP.sub [1] rfl) PR.np rfl hl.1 rfl (Nat.le_of_ble_eq_true rfl) dX12_ways_28 ⟨Nat.le_of_ble_eq_true rfl, Nat.le_of_ble_eq_true rfl⟩ ⟨Nat.le_of_ble_eq_true rfl, Nat.le_of_ble_eq_true rfl⟩ ?_
        intro r1 hF
        refine W.eq (g2 := F0 m 31 ls [.int r1]) rfl ?_
        refine lv_istore (lv' := [(6, .int r1), (0, .ref h_this), (1, .int l1), (2, .int l2), (3, .long l3), (5, .int l5)]) hx hb dX12_ways_31 hl (by decide) rfl (fun ls hl => ?_)
        refine lv_lload_n hx hb dX12_ways_33 rfl (lv_at hl 4 rfl) ?_
        refine lv_iload_n hx hb dX12_ways_34 rfl (lv_at hl 3 rfl) ?_
        refine lv_iload hx hb dX12_ways_35 (lv_at hl 5 rfl) ?_
        refine cS_r (As := [.int l2, .int l5]) C mfX12_has t5_93 t5_92 (ccX12_has l D cy l2 l5 _ hF) rfl rfl (hP.sub [] rfl) PR.np rfl hl.1 rfl (Nat.le_of_ble_eq_true rfl) dX12_ways_37 ⟨Nat.le_of_ble_eq_true rfl, Nat.le_of_ble_eq_true rfl⟩ ⟨Nat.le_of_ble_eq_true rfl, Nat.le_of_ble_eq_true rfl⟩ ?_
        intro r2 hF
        refine W.eq (g2 := F0 m 40 ls [.int (bz r2), .long l3]) rfl ?_
        refine lv_if_eq (tgt := 49) hx hb dX12_ways_40 (by decide) (fun c_ => ?_) (fun c_ => ?_)
        · have hF := hF.1 ((bz_0 _).mp c_)
          refine lv_bipush (v := 10) hx hb dX12_ways_49 (by decide) ?_
          refine lv_iload hx hb dX12_ways_51 (lv_at hl 0 rfl) ?_
          refine lv_isub hx hb dX12_ways_53 ?_
          refine lv_i2l hx hb dX12_ways_54 rfl ?_
          exact J_55 l1 l2 l5 (((10 - r1)).toInt64) l3 ls  (lv_sub hl [1, 2, 3, 5] rfl) hF
        · have hF := hF.2 ((bz_1 _).mp c_)
          refine lv_iload hx hb dX12_ways_43 (lv_at hl 0 rfl) ?_
          refine lv_i2l hx hb dX12_ways_45 rfl ?_
          refine lv_goto (tgt := 55) hx hb dX12_ways_46 (by decide) ?_
          exact J_55 l1 l2 l5 ((r1).toInt64) l3 ls  (lv_sub hl [1, 2, 3, 5] rfl) hF
  unfold wpX12_ways at hF
  refine lv_lconst (v := 1) hx hb dX12_ways_0 (by decide) ?_
  refine lv_lstore_n (lv' := [(3, .long 1), (0, .ref h_this), (1, .int p0), (2, .int p1)]) hx hb dX12_ways_1 rfl hl (by decide) rfl (fun ls hl => ?_)
  refine lv_iconst (v := 0) hx hb dX12_ways_2 (by decide) ?_
  refine lv_istore (lv' := [(5, .int 0), (3, .long 1), (0, .ref h_this), (1, .int p0), (2, .int p1)]) hx hb dX12_ways_3 hl (by decide) rfl (fun ls hl => ?_)
  exact L_5 fu p0 p1 1 0 ls  (lv_sub hl [2, 3, 4, 1, 0] rfl) hF

def wjX12_goesAgain_70 (v_a0 : Nat → Int32) (v_a1 : Nat → Int32) (post : Int32 → Prop) (K_3 : Int32 → Int32 → Int32 → Prop) (l2 : Int32) (l3 : Int32) (l4 : Int32) : Prop := K_3 l2 l3 (l4 + 1)
def wjX12_goesAgain_35 (v_a0 : Nat → Int32) (v_a1 : Nat → Int32) (post : Int32 → Prop) (K_3 : Int32 → Int32 → Int32 → Prop) (l2 : Int32) (l3 : Int32) (l4 : Int32) (k0 : Bool) : Prop := (k0 = false → (wjX12_goesAgain_70 v_a0 v_a1 post K_3 l2 l3 l4)) ∧ (k0 = true → (vp_in l4 3 ∧ (((v_a1 ((l4).toNatClampNeg)) = 2 → (post l4)) ∧ (¬ (v_a1 ((l4).toNatClampNeg)) = 2 → (vp_in l4 3 ∧ ((¬ (v_a1 ((l4).toNatClampNeg)) = 1 → (wjX12_goesAgain_70 v_a0 v_a1 post K_3 l2 l3 l4)) ∧ ((v_a1 ((l4).toNatClampNeg)) = 1 → (wpX12_has l3 l4 (fun r3 => (r3 = true → (wjX12_goesAgain_70 v_a0 v_a1 post K_3 l2 l3 l4)) ∧ (r3 = false → (post l4)))))))))))
def wjX12_goesAgain_34 (v_a0 : Nat → Int32) (v_a1 : Nat → Int32) (post : Int32 → Prop) (K_3 : Int32 → Int32 → Int32 → Prop) (l2 : Int32) (l3 : Int32) (l4 : Int32) : Prop := wjX12_goesAgain_35 v_a0 v_a1 post K_3 l2 l3 l4 false
def wlX12_goesAgain_3 (v_a0 : Nat → Int32) (v_a1 : Nat → Int32) (post : Int32 → Prop) : Nat → Int32 → Int32 → Int32 → Prop
  | 0, _, _, _ => False
  | n + 1, l2, l3, l4 => ((v_a0 1) ≤ l4 → (post (-1000000))) ∧ (¬ (v_a0 1) ≤ l4 → (wpX12_has l2 l4 (fun r1 => (r1 = false → (wjX12_goesAgain_34 v_a0 v_a1 post (wlX12_goesAgain_3 v_a0 v_a1 post n) l2 l3 l4)) ∧ (r1 = true → (wpX12_kindIn l4 v_a0 (fun r2 => (r2 = 4 → (wjX12_goesAgain_34 v_a0 v_a1 post (wlX12_goesAgain_3 v_a0 v_a1 post n) l2 l3 l4)) ∧ (¬ r2 = 4 → (wjX12_goesAgain_35 v_a0 v_a1 post (wlX12_goesAgain_3 v_a0 v_a1 post n) l2 l3 l4 true))))))))
def wpX12_goesAgain (p2 : Int32) (p3 : Int32) (v_a0 : Nat → Int32) (v_a1 : Nat → Int32) (post : Int32 → Prop) : Prop := wlX12_goesAgain_3 v_a0 v_a1 post fu p2 p3 0
abbrev miX12_goesAgain : MI := (yX12_goesAgain, cX12_goesAgain, 6, (some .int))
theorem mfX12_goesAgain : MF miX12_goesAgain 4 := ⟨t5_143, t1_8, by decide +kernel⟩
abbrev rmX12_goesAgain : Room := { frames := 1, cells := 0, slots := 0, locals := 21 }
set_option maxHeartbeats 4000000 in
set_option maxRecDepth 100000 in
theorem ccX12_goesAgain (l : Launch) (D : va_G) (cy : Nat → ClassId) (h_a0 : Nat) (h_a1 : Nat) (v_a0 : Nat → Int32) (v_a1 : Nat → Int32) (p2 : Int32) (p3 : Int32) (post : Int32 → Prop) (hF : wpX12_goesAgain p2 p3 v_a0 v_a1 post) : Cr l D cy miX12_goesAgain rmX12_goesAgain emI NP [.ref h_a0, .ref h_a1, .int p2, .int p3] [(h_a0, .inl (cy 0, 124, .inl v_a0)), (h_a1, .inl (cy 0, 3, .inl v_a1))] post := by
  refine Cr.of (by decide) (Nat.le_of_ble_eq_true rfl) ?_
  intro p e s m args below meth c ls Q C hQ hO hP hl
  obtain ⟨hx, hb, hr, hml, hown, hts, hK, hlk, hnm⟩ := id C
  have hb : c.code = cX12_goesAgain := hb
  have hml : c.maxLocals = 6 := hml
  have hown : s.vm.findClass RX12 = some m.cls := hown
  have hl : lv_has ls 6 [(0, .ref h_a0), (1, .ref h_a1), (2, .int p2), (3, .int p3)] := hl
  have L_3 : ∀ (n_3 : Nat) (l2 : Int32) (l3 : Int32) (l4 : Int32) (ls : Array Slot), lv_has ls 6 [(0, .ref h_a0), (1, .ref h_a1), (2, .int l2), (3, .int l3), (4, .int l4)] → wlX12_goesAgain_3 v_a0 v_a1 post n_3 l2 l3 l4 → W p l e rmX12_goesAgain s m args below meth c s.heap [] 0 0 Q (F0 m 3 ls []) := by
    intro n_3
    induction n_3 with
    | zero =>
      intro l2 l3 l4 ls  hl hF
      simp only [wlX12_goesAgain_3] at hF
    | succ n_3 ih_3 =>
      have J_70 : ∀ (l2 : Int32) (l3 : Int32) (l4 : Int32) (ls : Array Slot), lv_has ls 6 [(0, .ref h_a0), (1, .ref h_a1), (2, .int l2), (3, .int l3), (4, .int l4)] → wjX12_goesAgain_70 v_a0 v_a1 post (wlX12_goesAgain_3 v_a0 v_a1 post n_3) l2 l3 l4 → W p l e rmX12_goesAgain s m args below meth c s.heap [] 0 0 Q (F0 m 70 ls []) := by
        intro l2 l3 l4 ls  hl hF
        unfold wjX12_goesAgain_70 at hF
        refine lv_iinc (v := (l4 + 1)) (lv' := [(4, .int (l4 + 1)), (0, .ref h_a0), (1, .ref h_a1), (2, .int l2), (3, .int l3)]) hx hb dX12_goesAgain_70 hl (k := 4) rfl rfl (by decide) rfl (fun ls hl => ?_)
        refine lv_goto (tgt := 3) hx hb dX12_goesAgain_73 (by decide) ?_
        exact ih_3 l2 l3 (l4 + 1) ls  (lv_sub hl [1, 2, 3, 4, 0] rfl) hF
      have J_35 : ∀ (l2 : Int32) (l3 : Int32) (l4 : Int32) (k0 : Bool) (ls : Array Slot), lv_has ls 6 [(0, .ref h_a0), (1, .ref h_a1), (2, .int l2), (3, .int l3), (4, .int l4)] → wjX12_goesAgain_35 v_a0 v_a1 post (wlX12_goesAgain_3 v_a0 v_a1 post n_3) l2 l3 l4 k0 → W p l e rmX12_goesAgain s m args below meth c s.heap [] 0 0 Q (F0 m 35 ls [.int (bz k0)]) := by
        intro l2 l3 l4 k0 ls  hl hF
        unfold wjX12_goesAgain_35 at hF
        refine lv_istore (lv' := [(5, .int (bz k0)), (0, .ref h_a0), (1, .ref h_a1), (2, .int l2), (3, .int l3), (4, .int l4)]) hx hb dX12_goesAgain_35 hl (by decide) rfl (fun ls hl => ?_)
        refine lv_iload hx hb dX12_goesAgain_37 (lv_at hl 0 rfl) ?_
        refine lv_if_eq (tgt := 70) hx hb dX12_goesAgain_39 (by decide) (fun c_ => ?_) (fun c_ => ?_)
        · have hF := hF.1 ((bz_0 _).mp c_)
          exact J_70 l2 l3 l4 ls  (lv_sub hl [1, 2, 3, 4, 5] rfl) hF
        · have hF := hF.2 ((bz_1 _).mp c_)
          refine lv_aload_n hx hb dX12_goesAgain_42 rfl (lv_at hl 2 rfl) ?_
          refine lv_iload hx hb dX12_goesAgain_43 (lv_at hl 5 rfl) ?_
          obtain ⟨hi1, hF⟩ := hF
          refine s_iald (j := (l4).toNatClampNeg) hx hb hK.1 hP 1 0 rfl rfl hi1 rfl dX12_goesAgain_45 ?_
          refine lv_iconst (v := 2) hx hb dX12_goesAgain_46 (by decide) ?_
          refine lv_icmp_eq (tgt := 67) hx hb dX12_goesAgain_47 (by decide) (fun c_ => ?_) (fun c_ => ?_)
          · have hF := hF.1 c_
            refine lv_iload hx hb dX12_goesAgain_67 (lv_at hl 5 rfl) ?_
            exact rr_i C hQ rfl hF dX12_goesAgain_69
          · have hF := hF.2 c_
            refine lv_aload_n hx hb dX12_goesAgain_50 rfl (lv_at hl 2 rfl) ?_
            refine lv_iload hx hb dX12_goesAgain_51 (lv_at hl 5 rfl) ?_
            obtain ⟨hi2, hF⟩ := hF
            refine s_iald (j := (l4).toNatClampNeg) hx hb hK.1 hP 1 0 rfl rfl hi2 rfl dX12_goesAgain_53 ?_
            refine lv_iconst (v := 1) hx hb dX12_goesAgain_54 (by decide) ?_
            refine lv_icmp_ne (tgt := 70) hx hb dX12_goesAgain_55 (by decide) (fun c_ => ?_) (fun c_ => ?_)
            · have hF := hF.1 c_
              exact J_70 l2 l3 l4 ls  (lv_sub hl [1, 2, 3, 4, 5] rfl) hF
            · have hF := hF.2 c_
              refine lv_iload_n hx hb dX12_goesAgain_58 rfl (lv_at hl 4 rfl) ?_
              refine lv_iload hx hb dX12_goesAgain_59 (lv_at hl 5 rfl) ?_
              refine cS_r (As := [.int l3, .int l4]) C mfX12_has t5_93 t5_92 (ccX12_has l D cy l3 l4 _ hF) rfl rfl (hP.sub [] rfl) PR.np rfl hl.1 rfl (Nat.le_of_ble_eq_true rfl) dX12_goesAgain_61 ⟨Nat.le_of_ble_eq_true rfl, Nat.le_of_ble_eq_true rfl⟩ ⟨Nat.le_of_ble_eq_true rfl, Nat.le_of_ble_eq_true rfl⟩ ?_
              intro r3 hF
              refine W.eq (g2 := F0 m 64 ls [.int (bz r3)]) rfl ?_
              refine lv_if_ne (tgt := 70) hx hb dX12_goesAgain_64 (by decide) (fun c_ => ?_) (fun c_ => ?_)
              · have hF := hF.1 ((bz_1 _).mp c_)
                exact J_70 l2 l3 l4 ls  (lv_sub hl [1, 2, 3, 4, 5] rfl) hF
              · have hF := hF.2 ((bz_0 _).mp c_)
                refine lv_iload hx hb dX12_goesAgain_67 (lv_at hl 5 rfl) ?_
                exact rr_i C hQ rfl hF dX12_goesAgain_69
      have J_34 : ∀ (l2 : Int32) (l3 : Int32) (l4 : Int32) (ls : Array Slot), lv_has ls 6 [(0, .ref h_a0), (1, .ref h_a1), (2, .int l2), (3, .int l3), (4, .int l4)] → wjX12_goesAgain_34 v_a0 v_a1 post (wlX12_goesAgain_3 v_a0 v_a1 post n_3) l2 l3 l4 → W p l e rmX12_goesAgain s m args below meth c s.heap [] 0 0 Q (F0 m 34 ls []) := by
        intro l2 l3 l4 ls  hl hF
        unfold wjX12_goesAgain_34 at hF
        refine lv_iconst (v := 0) hx hb dX12_goesAgain_34 (by decide) ?_
        exact J_35 l2 l3 l4 false ls  (lv_sub hl [0, 1, 2, 3, 4] rfl) hF
      intro l2 l3 l4 ls  hl hF
      unfold wlX12_goesAgain_3 at hF
      refine lv_iload hx hb dX12_goesAgain_3 (lv_at hl 4 rfl) ?_
      refine lv_aload_n hx hb dX12_goesAgain_5 rfl (lv_at hl 0 rfl) ?_
      refine lv_iconst (v := 1) hx hb dX12_goesAgain_6 (by decide) ?_
      refine s_iald (j := 1) hx hb hK.1 hP 0 0 rfl rfl (vi (by decide)) (by decide) dX12_goesAgain_7 ?_
      refine lv_icmp_ge (tgt := 76) hx hb dX12_goesAgain_8 (by decide) (fun c_ => ?_) (fun c_ => ?_)
      · have hF := hF.1 c_
        refine lv_ldc hx hb hown (hts _ t4_123) dX12_goesAgain_76 ?_
        exact rr_i C hQ rfl hF dX12_goesAgain_78
      · have hF := hF.2 c_
        refine lv_iload_n hx hb dX12_goesAgain_11 rfl (lv_at hl 2 rfl) ?_
        refine lv_iload hx hb dX12_goesAgain_12 (lv_at hl 4 rfl) ?_
        refine cS_r (As := [.int l2, .int l4]) C mfX12_has t5_93 t5_92 (ccX12_has l D cy l2 l4 _ hF) rfl rfl (hP.sub [] rfl) PR.np rfl hl.1 rfl (Nat.le_of_ble_eq_true rfl) dX12_goesAgain_14 ⟨Nat.le_of_ble_eq_true rfl, Nat.le_of_ble_eq_true rfl⟩ ⟨Nat.le_of_ble_eq_true rfl, Nat.le_of_ble_eq_true rfl⟩ ?_
        intro r1 hF
        refine W.eq (g2 := F0 m 17 ls [.int (bz r1)]) rfl ?_
        refine lv_if_eq (tgt := 34) hx hb dX12_goesAgain_17 (by decide) (fun c_ => ?_) (fun c_ => ?_)
        · have hF := hF.1 ((bz_0 _).mp c_)
          exact J_34 l2 l3 l4 ls  (lv_sub hl [0, 1, 2, 3, 4] rfl) hF
        · have hF := hF.2 ((bz_1 _).mp c_)
          refine lv_aload_n hx hb dX12_goesAgain_20 rfl (lv_at hl 0 rfl) ?_
          refine lv_iload hx hb dX12_goesAgain_21 (lv_at hl 4 rfl) ?_
          refine cS_r (As := [.ref h_a0, .int l4]) C mfX12_kindIn t5_82 t5_81 (ccX12_kindIn l D cy h_a0 v_a0 l4 _ hF) rfl rfl (hP.sub [0] rfl) PR.np rfl hl.1 rfl (Nat.le_of_ble_eq_true rfl) dX12_goesAgain_23 ⟨Nat.le_of_ble_eq_true rfl, Nat.le_of_ble_eq_true rfl⟩ ⟨Nat.le_of_ble_eq_true rfl, Nat.le_of_ble_eq_true rfl⟩ ?_
          intro r2 hF
          refine W.eq (g2 := F0 m 26 ls [.int r2]) rfl ?_
          refine lv_iconst (v := 4) hx hb dX12_goesAgain_26 (by decide) ?_
          refine lv_icmp_eq (tgt := 34) hx hb dX12_goesAgain_27 (by decide) (fun c_ => ?_) (fun c_ => ?_)
          · have hF := hF.1 c_
            exact J_34 l2 l3 l4 ls  (lv_sub hl [0, 1, 2, 3, 4] rfl) hF
          · have hF := hF.2 c_
            refine lv_iconst (v := 1) hx hb dX12_goesAgain_30 (by decide) ?_
            refine lv_goto (tgt := 35) hx hb dX12_goesAgain_31 (by decide) ?_
            exact J_35 l2 l3 l4 true ls  (lv_sub hl [0, 1, 2, 3, 4] rfl) hF
  unfold wpX12_goesAgain at hF
  refine lv_iconst (v := 0) hx hb dX12_goesAgain_0 (by decide) ?_
  refine lv_istore (lv' := [(4, .int 0), (0, .ref h_a0), (1, .ref h_a1), (2, .int p2), (3, .int p3)]) hx hb dX12_goesAgain_1 hl (by decide) rfl (fun ls hl => ?_)
  exact L_3 fu p2 p3 0 ls  (lv_sub hl [1, 2, 3, 4, 0] rfl) hF

def wjX12_lays_226 (v_now : Nat → Int32) (v_habit : Nat → Int32) (post : Unit → (Nat → Int64) → (Nat → Int64) → (Nat → Int64) → Prop) (K_69 : Int32 → Int32 → (Nat → Int64) → (Nat → Int64) → (Nat → Int64) → Prop) (l1 : Int32) (l2 : Int32) (w_comes : Nat → Int64) (w_standing : Nat → Int64) (w_brought : Nat → Int64) : Prop := K_69 l1 (l2 + 1) w_comes w_standing w_brought
def wjX12_lays_220 (v_now : Nat → Int32) (v_habit : Nat → Int32) (post : Unit → (Nat → Int64) → (Nat → Int64) → (Nat → Int64) → Prop) (K_69 : Int32 → Int32 → (Nat → Int64) → (Nat → Int64) → (Nat → Int64) → Prop) (K_78 : Int32 → Int32 → Int32 → (Nat → Int64) → (Nat → Int64) → (Nat → Int64) → Prop) (l1 : Int32) (l2 : Int32) (l3 : Int32) (w_comes : Nat → Int64) (w_standing : Nat → Int64) (w_brought : Nat → Int64) : Prop := K_78 l1 l2 (l3 + 1) w_comes w_standing w_brought
def wlX12_lays_175 (v_now : Nat → Int32) (v_habit : Nat → Int32) (post : Unit → (Nat → Int64) → (Nat → Int64) → (Nat → Int64) → Prop) (K_69 : Int32 → Int32 → (Nat → Int64) → (Nat → Int64) → (Nat → Int64) → Prop) (K_78 : Int32 → Int32 → Int32 → (Nat → Int64) → (Nat → Int64) → (Nat → Int64) → Prop) : Nat → Int32 → Int32 → Int32 → Int64 → Int32 → (Nat → Int64) → (Nat → Int64) → (Nat → Int64) → Prop
  | 0, _, _, _, _, _, _, _, _ => False
  | n + 1, l1, l2, l3, l4, l7, w_comes, w_standing, w_brought => (l1 ≤ l7 → (wjX12_lays_220 v_now v_habit post K_69 K_78 l1 l2 l3 w_comes w_standing w_brought)) ∧ (¬ l1 ≤ l7 → (vp_in ((3 * l2) + l7) 24 ∧ (wpX12_has l3 l7 (fun r2 => wpX12_brings l7 r2 v_now (fun r3 => vp_in ((3 * l2) + l7) 24 ∧ ((wlX12_lays_175 v_now v_habit post K_69 K_78 n) l1 l2 l3 l4 (l7 + 1) w_comes w_standing (vp_updL w_brought ((((3 * l2) + l7)).toNatClampNeg) ((w_brought ((((3 * l2) + l7)).toNatClampNeg)) + (l4 * ((r3).toInt64))))))))))
def wlX12_lays_78 (v_now : Nat → Int32) (v_habit : Nat → Int32) (post : Unit → (Nat → Int64) → (Nat → Int64) → (Nat → Int64) → Prop) (K_69 : Int32 → Int32 → (Nat → Int64) → (Nat → Int64) → (Nat → Int64) → Prop) : Nat → Int32 → Int32 → Int32 → (Nat → Int64) → (Nat → Int64) → (Nat → Int64) → Prop
  | 0, _, _, _, _, _, _ => False
  | n + 1, l1, l2, l3, w_comes, w_standing, w_brought => (((1 : Int32) <<< (l1 &&& 31)) ≤ l3 → (wjX12_lays_226 v_now v_habit post K_69 l1 l2 w_comes w_standing w_brought)) ∧ (¬ ((1 : Int32) <<< (l1 &&& 31)) ≤ l3 → (vp_in l2 8 ∧ (((w_comes ((l2).toNatClampNeg)) ≤ 0 → (wjX12_lays_226 v_now v_habit post K_69 l1 l2 w_comes w_standing w_brought)) ∧ (¬ (w_comes ((l2).toNatClampNeg)) ≤ 0 → (vp_in l2 8 ∧ (wpX12_ways l2 l3 v_now (fun r3 => wpX12_goesAgain ((v_now 2) &&& (l2 ^^^ (-1))) l3 v_now v_habit (fun r4 => (r4 = (-1000000) → (vp_in l2 8 ∧ (vp_in l2 8 ∧ (wlX12_lays_175 v_now v_habit post K_69 (wlX12_lays_78 v_now v_habit post K_69 n) fu l1 l2 l3 ((w_comes ((l2).toNatClampNeg)) * r3) 0 w_comes (vp_updL w_standing ((l2).toNatClampNeg) ((w_standing ((l2).toNatClampNeg)) + ((w_comes ((l2).toNatClampNeg)) * r3))) w_brought)))) ∧ (¬ r4 = (-1000000) → (vp_in (l2 ||| ((1 : Int32) <<< (r4 &&& 31))) 8 ∧ (vp_in (l2 ||| ((1 : Int32) <<< (r4 &&& 31))) 8 ∧ (wjX12_lays_220 v_now v_habit post K_69 (wlX12_lays_78 v_now v_habit post K_69 n) l1 l2 l3 (vp_updL w_comes (((l2 ||| ((1 : Int32) <<< (r4 &&& 31)))).toNatClampNeg) ((w_comes (((l2 ||| ((1 : Int32) <<< (r4 &&& 31)))).toNatClampNeg)) + ((w_comes ((l2).toNatClampNeg)) * r3))) w_standing w_brought))))))))))))
def wlX12_lays_69 (v_now : Nat → Int32) (v_habit : Nat → Int32) (post : Unit → (Nat → Int64) → (Nat → Int64) → (Nat → Int64) → Prop) : Nat → Int32 → Int32 → (Nat → Int64) → (Nat → Int64) → (Nat → Int64) → Prop
  | 0, _, _, _, _, _ => False
  | n + 1, l1, l2, w_comes, w_standing, w_brought => (((1 : Int32) <<< (l1 &&& 31)) ≤ l2 → (post () w_comes w_standing w_brought)) ∧ (¬ ((1 : Int32) <<< (l1 &&& 31)) ≤ l2 → (wlX12_lays_78 v_now v_habit post (wlX12_lays_69 v_now v_habit post n) fu l1 l2 0 w_comes w_standing w_brought))
def wlX12_lays_39 (v_now : Nat → Int32) (v_habit : Nat → Int32) (post : Unit → (Nat → Int64) → (Nat → Int64) → (Nat → Int64) → Prop) (K_9 : Int32 → Int32 → (Nat → Int64) → (Nat → Int64) → (Nat → Int64) → Prop) : Nat → Int32 → Int32 → Int32 → (Nat → Int64) → (Nat → Int64) → (Nat → Int64) → Prop
  | 0, _, _, _, _, _, _ => False
  | n + 1, l1, l2, l3, w_comes, w_standing, w_brought => (3 ≤ l3 → (K_9 l1 (l2 + 1) w_comes w_standing w_brought)) ∧ (¬ 3 ≤ l3 → (vp_in ((3 * l2) + l3) 24 ∧ ((wlX12_lays_39 v_now v_habit post K_9 n) l1 l2 (l3 + 1) w_comes w_standing (vp_updL w_brought ((((3 * l2) + l3)).toNatClampNeg) 0))))
def wjX12_lays_29 (v_now : Nat → Int32) (v_habit : Nat → Int32) (post : Unit → (Nat → Int64) → (Nat → Int64) → (Nat → Int64) → Prop) (K_9 : Int32 → Int32 → (Nat → Int64) → (Nat → Int64) → (Nat → Int64) → Prop) (l1 : Int32) (l2 : Int32) (k0 : Int64) (k1 : Int32) (w_comes : Nat → Int64) (w_standing : Nat → Int64) (w_brought : Nat → Int64) : Prop := vp_in k1 8 ∧ (vp_in l2 8 ∧ (wlX12_lays_39 v_now v_habit post K_9 fu l1 l2 0 (vp_updL w_comes ((k1).toNatClampNeg) k0) (vp_updL w_standing ((l2).toNatClampNeg) 0) w_brought))
def wlX12_lays_9 (v_now : Nat → Int32) (v_habit : Nat → Int32) (post : Unit → (Nat → Int64) → (Nat → Int64) → (Nat → Int64) → Prop) : Nat → Int32 → Int32 → (Nat → Int64) → (Nat → Int64) → (Nat → Int64) → Prop
  | 0, _, _, _, _, _ => False
  | n + 1, l1, l2, w_comes, w_standing, w_brought => (8 ≤ l2 → (wlX12_lays_69 v_now v_habit post fu l1 0 w_comes w_standing w_brought)) ∧ (¬ 8 ≤ l2 → ((¬ l2 = 0 → (wjX12_lays_29 v_now v_habit post (wlX12_lays_9 v_now v_habit post n) l1 l2 0 l2 w_comes w_standing w_brought)) ∧ (l2 = 0 → (wjX12_lays_29 v_now v_habit post (wlX12_lays_9 v_now v_habit post n) l1 l2 1 l2 w_comes w_standing w_brought))))
def wpX12_lays (v_now : Nat → Int32) (v_comes : Nat → Int64) (v_standing : Nat → Int64) (v_habit : Nat → Int32) (v_brought : Nat → Int64) (post : Unit → (Nat → Int64) → (Nat → Int64) → (Nat → Int64) → Prop) : Prop := wlX12_lays_9 v_now v_habit post fu (v_now 1) 0 v_comes v_standing v_brought
abbrev miX12_lays : MI := (yX12_lays, cX12_lays, 8, none)
theorem mfX12_lays : MF miX12_lays 0 := ⟨t5_136, t1_8, by decide +kernel⟩
abbrev rmX12_lays : Room := { frames := 3, cells := 0, slots := 0, locals := 71 }
set_option maxHeartbeats 4000000 in
set_option maxRecDepth 100000 in
theorem ccX12_lays (l : Launch) (D : va_G) (cy : Nat → ClassId) (h_this : Nat) (h_now : Nat) (h_comes : Nat) (h_standing : Nat) (h_habit : Nat) (h_brought : Nat) (x_lane : Value) (x_many : Value) (x_items : Value) (x_spare : Value) (x_tape : Value) (x_draft : Value) (x_tried : Value) (x_past : Value) (x_images : Value) (x_kept : Value) (x_trace : Value) (v_status : Int32) (v_taped : Int32) (v_faultKind : Int32) (v_faultPlace : Int32) (v_at : Int32) (v_start : Int32) (v_token : Int32) (v_value : Int32) (v_acts : Int32) (v_traced : Int32) (v_livedMany : Int32) (v_now : Nat → Int32) (v_comes : Nat → Int64) (v_standing : Nat → Int64) (v_habit : Nat → Int32) (v_brought : Nat → Int64) (post : Unit → (Nat → Int64) → (Nat → Int64) → (Nat → Int64) → Prop) (hF : wpX12_lays v_now v_comes v_standing v_habit v_brought post) : Ct l D cy miX12_lays rmX12_lays emV NP [.ref h_this] [(h_this, .inr (11, [x_lane, x_many, x_items, x_spare, .int v_status, x_tape, .int v_taped, .int v_faultKind, .int v_faultPlace, .int v_at, .int v_start, .int v_token, .int v_value, .ref h_now, x_draft, x_tried, x_past, .int v_acts, x_images, x_kept, x_trace, .int v_traced, .ref h_comes, .ref h_standing, .ref h_brought, .ref h_habit, .int v_livedMany])), (h_now, .inl (cy 0, 124, .inl v_now)), (h_comes, .inl (cy 1, 8, .inr (.inl v_comes))), (h_standing, .inl (cy 1, 8, .inr (.inl v_standing))), (h_habit, .inl (cy 0, 3, .inl v_habit)), (h_brought, .inl (cy 1, 24, .inr (.inl v_brought)))] (fun r w1 => ∃ (w_comes : Nat → Int64) (w_standing : Nat → Int64) (w_brought : Nat → Int64), w1 = [(h_this, .inr (11, [x_lane, x_many, x_items, x_spare, .int v_status, x_tape, .int v_taped, .int v_faultKind, .int v_faultPlace, .int v_at, .int v_start, .int v_token, .int v_value, .ref h_now, x_draft, x_tried, x_past, .int v_acts, x_images, x_kept, x_trace, .int v_traced, .ref h_comes, .ref h_standing, .ref h_brought, .ref h_habit, .int v_livedMany])), (h_now, .inl (cy 0, 124, .inl v_now)), (h_comes, .inl (cy 1, 8, .inr (.inl w_comes))), (h_standing, .inl (cy 1, 8, .inr (.inl w_standing))), (h_habit, .inl (cy 0, 3, .inl v_habit)), (h_brought, .inl (cy 1, 24, .inr (.inl w_brought)))] ∧ post r w_comes w_standing w_brought) := by
  refine Ct.of (by decide) (Nat.le_of_ble_eq_true rfl) ?_
  intro p e s m args below meth c A ls Q C hQ hA hI hP hD hS hl
  obtain ⟨hx, hb, hr, hml, hown, hts, hK, hlk, hnm⟩ := id C
  have hb : c.code = cX12_lays := hb
  have hml : c.maxLocals = 8 := hml
  have hown : s.vm.findClass RX12 = some m.cls := hown
  have hl : lv_has ls 8 [(0, .ref h_this)] := hl
  have L_69 : ∀ (n_69 : Nat) (l1 : Int32) (l2 : Int32) (w_comes : Nat → Int64) (w_standing : Nat → Int64) (w_brought : Nat → Int64) (H : Heap) (locs : List Loc) (ls : Array Slot), va_P D CL [(h_this, .inr (11, [x_lane, x_many, x_items, x_spare, .int v_status, x_tape, .int v_taped, .int v_faultKind, .int v_faultPlace, .int v_at, .int v_start, .int v_token, .int v_value, .ref h_now, x_draft, x_tried, x_past, .int v_acts, x_images, x_kept, x_trace, .int v_traced, .ref h_comes, .ref h_standing, .ref h_brought, .ref h_habit, .int v_livedMany])), (h_now, .inl (cy 0, 124, .inl v_now)), (h_comes, .inl (cy 1, 8, .inr (.inl w_comes))), (h_standing, .inl (cy 1, 8, .inr (.inl w_standing))), (h_habit, .inl (cy 0, 3, .inl v_habit)), (h_brought, .inl (cy 1, 24, .inr (.inl w_brought)))] H → va_D A [(h_this, .inr (11, [x_lane, x_many, x_items, x_spare, .int v_status, x_tape, .int v_taped, .int v_faultKind, .int v_faultPlace, .int v_at, .int v_start, .int v_token, .int v_value, .ref h_now, x_draft, x_tried, x_past, .int v_acts, x_images, x_kept, x_trace, .int v_traced, .ref h_comes, .ref h_standing, .ref h_brought, .ref h_habit, .int v_livedMany])), (h_now, .inl (cy 0, 124, .inl v_now)), (h_comes, .inl (cy 1, 8, .inr (.inl w_comes))), (h_standing, .inl (cy 1, 8, .inr (.inl w_standing))), (h_habit, .inl (cy 0, 3, .inl v_habit)), (h_brought, .inl (cy 1, 24, .inr (.inl w_brought)))] → va_S A s.heap H locs → lv_has ls 8 [(0, .ref h_this), (1, .int l1), (2, .int l2)] → wlX12_lays_69 v_now v_habit post n_69 l1 l2 w_comes w_standing w_brought → W p l e rmX12_lays s m args below meth c H locs 0 0 Q (F0 m 69 ls []) := by
    intro n_69
    induction n_69 with
    | zero =>
      intro l1 l2 w_comes w_standing w_brought H locs ls  hP hD hS hl hF
      simp only [wlX12_lays_69] at hF
    | succ n_69 ih_69 =>
      have J_226 : ∀ (l1 : Int32) (l2 : Int32) (w_comes : Nat → Int64) (w_standing : Nat → Int64) (w_brought : Nat → Int64) (H : Heap) (locs : List Loc) (ls : Array Slot), va_P D CL [(h_this, .inr (11, [x_lane, x_many, x_items, x_spare, .int v_status, x_tape, .int v_taped, .int v_faultKind, .int v_faultPlace, .int v_at, .int v_start, .int v_token, .int v_value, .ref h_now, x_draft, x_tried, x_past, .int v_acts, x_images, x_kept, x_trace, .int v_traced, .ref h_comes, .ref h_standing, .ref h_brought, .ref h_habit, .int v_livedMany])), (h_now, .inl (cy 0, 124, .inl v_now)), (h_comes, .inl (cy 1, 8, .inr (.inl w_comes))), (h_standing, .inl (cy 1, 8, .inr (.inl w_standing))), (h_habit, .inl (cy 0, 3, .inl v_habit)), (h_brought, .inl (cy 1, 24, .inr (.inl w_brought)))] H → va_D A [(h_this, .inr (11, [x_lane, x_many, x_items, x_spare, .int v_status, x_tape, .int v_taped, .int v_faultKind, .int v_faultPlace, .int v_at, .int v_start, .int v_token, .int v_value, .ref h_now, x_draft, x_tried, x_past, .int v_acts, x_images, x_kept, x_trace, .int v_traced, .ref h_comes, .ref h_standing, .ref h_brought, .ref h_habit, .int v_livedMany])), (h_now, .inl (cy 0, 124, .inl v_now)), (h_comes, .inl (cy 1, 8, .inr (.inl w_comes))), (h_standing, .inl (cy 1, 8, .inr (.inl w_standing))), (h_habit, .inl (cy 0, 3, .inl v_habit)), (h_brought, .inl (cy 1, 24, .inr (.inl w_brought)))] → va_S A s.heap H locs → lv_has ls 8 [(0, .ref h_this), (1, .int l1), (2, .int l2)] → wjX12_lays_226 v_now v_habit post (wlX12_lays_69 v_now v_habit post n_69) l1 l2 w_comes w_standing w_brought → W p l e rmX12_lays s m args below meth c H locs 0 0 Q (F0 m 226 ls []) := by
        intro l1 l2 w_comes w_standing w_brought H locs ls  hP hD hS hl hF
        unfold wjX12_lays_226 at hF
        refine lv_iinc (v := (l2 + 1)) (lv' := [(2, .int (l2 + 1)), (0, .ref h_this), (1, .int l1)]) hx hb dX12_lays_226 hl (k := 2) rfl rfl (by decide) rfl (fun ls hl => ?_)
        refine lv_goto (tgt := 69) hx hb dX12_lays_229 (by decide) ?_
        exact ih_69 l1 (l2 + 1) w_comes w_standing w_brought _ _ ls  hP hD hS (lv_sub hl [1, 2, 0] rfl) hF
      have L_78 : ∀ (n_78 : Nat) (l1 : Int32) (l2 : Int32) (l3 : Int32) (w_comes : Nat → Int64) (w_standing : Nat → Int64) (w_brought : Nat → Int64) (H : Heap) (locs : List Loc) (ls : Array Slot), va_P D CL [(h_this, .inr (11, [x_lane, x_many, x_items, x_spare, .int v_status, x_tape, .int v_taped, .int v_faultKind, .int v_faultPlace, .int v_at, .int v_start, .int v_token, .int v_value, .ref h_now, x_draft, x_tried, x_past, .int v_acts, x_images, x_kept, x_trace, .int v_traced, .ref h_comes, .ref h_standing, .ref h_brought, .ref h_habit, .int v_livedMany])), (h_now, .inl (cy 0, 124, .inl v_now)), (h_comes, .inl (cy 1, 8, .inr (.inl w_comes))), (h_standing, .inl (cy 1, 8, .inr (.inl w_standing))), (h_habit, .inl (cy 0, 3, .inl v_habit)), (h_brought, .inl (cy 1, 24, .inr (.inl w_brought)))] H → va_D A [(h_this, .inr (11, [x_lane, x_many, x_items, x_spare, .int v_status, x_tape, .int v_taped, .int v_faultKind, .int v_faultPlace, .int v_at, .int v_start, .int v_token, .int v_value, .ref h_now, x_draft, x_tried, x_past, .int v_acts, x_images, x_kept, x_trace, .int v_traced, .ref h_comes, .ref h_standing, .ref h_brought, .ref h_habit, .int v_livedMany])), (h_now, .inl (cy 0, 124, .inl v_now)), (h_comes, .inl (cy 1, 8, .inr (.inl w_comes))), (h_standing, .inl (cy 1, 8, .inr (.inl w_standing))), (h_habit, .inl (cy 0, 3, .inl v_habit)), (h_brought, .inl (cy 1, 24, .inr (.inl w_brought)))] → va_S A s.heap H locs → lv_has ls 8 [(0, .ref h_this), (1, .int l1), (2, .int l2), (3, .int l3)] → wlX12_lays_78 v_now v_habit post (wlX12_lays_69 v_now v_habit post n_69) n_78 l1 l2 l3 w_comes w_standing w_brought → W p l e rmX12_lays s m args below meth c H locs 0 0 Q (F0 m 78 ls []) := by
        intro n_78
        induction n_78 with
        | zero =>
          intro l1 l2 l3 w_comes w_standing w_brought H locs ls  hP hD hS hl hF
          simp only [wlX12_lays_78] at hF
        | succ n_78 ih_78 =>
          have J_220 : ∀ (l1 : Int32) (l2 : Int32) (l3 : Int32) (w_comes : Nat → Int64) (w_standing : Nat → Int64) (w_brought : Nat → Int64) (H : Heap) (locs : List Loc) (ls : Array Slot), va_P D CL [(h_this, .inr (11, [x_lane, x_many, x_items, x_spare, .int v_status, x_tape, .int v_taped, .int v_faultKind, .int v_faultPlace, .int v_at, .int v_start, .int v_token, .int v_value, .ref h_now, x_draft, x_tried, x_past, .int v_acts, x_images, x_kept, x_trace, .int v_traced, .ref h_comes, .ref h_standing, .ref h_brought, .ref h_habit, .int v_livedMany])), (h_now, .inl (cy 0, 124, .inl v_now)), (h_comes, .inl (cy 1, 8, .inr (.inl w_comes))), (h_standing, .inl (cy 1, 8, .inr (.inl w_standing))), (h_habit, .inl (cy 0, 3, .inl v_habit)), (h_brought, .inl (cy 1, 24, .inr (.inl w_brought)))] H → va_D A [(h_this, .inr (11, [x_lane, x_many, x_items, x_spare, .int v_status, x_tape, .int v_taped, .int v_faultKind, .int v_faultPlace, .int v_at, .int v_start, .int v_token, .int v_value, .ref h_now, x_draft, x_tried, x_past, .int v_acts, x_images, x_kept, x_trace, .int v_traced, .ref h_comes, .ref h_standing, .ref h_brought, .ref h_habit, .int v_livedMany])), (h_now, .inl (cy 0, 124, .inl v_now)), (h_comes, .inl (cy 1, 8, .inr (.inl w_comes))), (h_standing, .inl (cy 1, 8, .inr (.inl w_standing))), (h_habit, .inl (cy 0, 3, .inl v_habit)), (h_brought, .inl (cy 1, 24, .inr (.inl w_brought)))] → va_S A s.heap H locs → lv_has ls 8 [(0, .ref h_this), (1, .int l1), (2, .int l2), (3, .int l3)] → wjX12_lays_220 v_now v_habit post (wlX12_lays_69 v_now v_habit post n_69) (wlX12_lays_78 v_now v_habit post (wlX12_lays_69 v_now v_habit post n_69) n_78) l1 l2 l3 w_comes w_standing w_brought → W p l e rmX12_lays s m args below meth c H locs 0 0 Q (F0 m 220 ls []) := by
            intro l1 l2 l3 w_comes w_standing w_brought H locs ls  hP hD hS hl hF
            unfold wjX12_lays_220 at hF
            refine lv_iinc (v := (l3 + 1)) (lv' := [(3, .int (l3 + 1)), (0, .ref h_this), (1, .int l1), (2, .int l2)]) hx hb dX12_lays_220 hl (k := 3) rfl rfl (by decide) rfl (fun ls hl => ?_)
            refine lv_goto (tgt := 78) hx hb dX12_lays_223 (by decide) ?_
            exact ih_78 l1 l2 (l3 + 1) w_comes w_standing w_brought _ _ ls  hP hD hS (lv_sub hl [1, 2, 3, 0] rfl) hF
          have L_175 : ∀ (n_175 : Nat) (l1 : Int32) (l2 : Int32) (l3 : Int32) (l4 : Int64) (l7 : Int32) (w_comes : Nat → Int64) (w_standing : Nat → Int64) (w_brought : Nat → Int64) (H : Heap) (locs : List Loc) (ls : Array Slot), va_P D CL [(h_this, .inr (11, [x_lane, x_many, x_items, x_spare, .int v_status, x_tape, .int v_taped, .int v_faultKind, .int v_faultPlace, .int v_at, .int v_start, .int v_token, .int v_value, .ref h_now, x_draft, x_tried, x_past, .int v_acts, x_images, x_kept, x_trace, .int v_traced, .ref h_comes, .ref h_standing, .ref h_brought, .ref h_habit, .int v_livedMany])), (h_now, .inl (cy 0, 124, .inl v_now)), (h_comes, .inl (cy 1, 8, .inr (.inl w_comes))), (h_standing, .inl (cy 1, 8, .inr (.inl w_standing))), (h_habit, .inl (cy 0, 3, .inl v_habit)), (h_brought, .inl (cy 1, 24, .inr (.inl w_brought)))] H → va_D A [(h_this, .inr (11, [x_lane, x_many, x_items, x_spare, .int v_status, x_tape, .int v_taped, .int v_faultKind, .int v_faultPlace, .int v_at, .int v_start, .int v_token, .int v_value, .ref h_now, x_draft, x_tried, x_past, .int v_acts, x_images, x_kept, x_trace, .int v_traced, .ref h_comes, .ref h_standing, .ref h_brought, .ref h_habit, .int v_livedMany])), (h_now, .inl (cy 0, 124, .inl v_now)), (h_comes, .inl (cy 1, 8, .inr (.inl w_comes))), (h_standing, .inl (cy 1, 8, .inr (.inl w_standing))), (h_habit, .inl (cy 0, 3, .inl v_habit)), (h_brought, .inl (cy 1, 24, .inr (.inl w_brought)))] → va_S A s.heap H locs → lv_has ls 8 [(0, .ref h_this), (1, .int l1), (2, .int l2), (3, .int l3), (4, .long l4), (7, .int l7)] → wlX12_lays_175 v_now v_habit post (wlX12_lays_69 v_now v_habit post n_69) (wlX12_lays_78 v_now v_habit post (wlX12_lays_69 v_now v_habit post n_69) n_78) n_175 l1 l2 l3 l4 l7 w_comes w_standing w_brought → W p l e rmX12_lays s m args below meth c H locs 0 0 Q (F0 m 175 ls []) := by
            intro n_175
            induction n_175 with
            | zero =>
              intro l1 l2 l3 l4 l7 w_comes w_standing w_brought H locs ls  hP hD hS hl hF
              simp only [wlX12_lays_175] at hF
            | succ n_175 ih_175 =>
              intro l1 l2 l3 l4 l7 w_comes w_standing w_brought H locs ls  hP hD hS hl hF
              unfold wlX12_lays_175 at hF
              refine lv_iload hx hb dX12_lays_175 (lv_at hl 5 rfl) ?_
              refine lv_iload_n hx hb dX12_lays_177 rfl (lv_at hl 1 rfl) ?_
              refine lv_icmp_ge (tgt := 220) hx hb dX12_lays_178 (by decide) (fun c_ => ?_) (fun c_ => ?_)
              · have hF := hF.1 c_
                exact J_220 l1 l2 l3 w_comes w_standing w_brought _ _ ls  hP hD hS (lv_sub hl [0, 1, 2, 3] rfl) hF
              · have hF := hF.2 c_
                refine lv_aload_n hx hb dX12_lays_181 rfl (lv_at hl 0 rfl) ?_
                refine va_get (D := D) (ci := 11) (v := .ref h_brought) (C := RX12) (T := TX12) (N := 27) hx hb hts inTX12 hown hK.1 hP 0 rfl rfl 24 (by decide) (hts _ t4_148) (fun _ h9 => h9) rfl dX12_lays_182 ?_
                refine lv_iconst (v := 3) hx hb dX12_lays_185 (by decide) ?_
                refine lv_iload_n hx hb dX12_lays_186 rfl (lv_at hl 2 rfl) ?_
                refine lv_imul hx hb dX12_lays_187 ?_
                refine lv_iload hx hb dX12_lays_188 (lv_at hl 5 rfl) ?_
                refine lv_iadd hx hb dX12_lays_190 ?_
                refine lv_dup2_11 hx hb dX12_lays_191 rfl rfl ?_
                obtain ⟨hi1, hF⟩ := hF
                refine s_lald (j := (((3 * l2) + l7)).toNatClampNeg) hx hb hK.1 hP 5 1 rfl rfl hi1 rfl dX12_lays_192 ?_
                refine lv_lload hx hb dX12_lays_193 (lv_at hl 4 rfl) ?_
                refine lv_aload_n hx hb dX12_lays_195 rfl (lv_at hl 0 rfl) ?_
                refine va_get (D := D) (ci := 11) (v := .ref h_now) (C := RX12) (T := TX12) (N := 27) hx hb hts inTX12 hown hK.1 hP 0 rfl rfl 13 (by decide) (hts _ t4_137) (fun _ h9 => h9) rfl dX12_lays_196 ?_
                refine lv_iload hx hb dX12_lays_199 (lv_at hl 5 rfl) ?_
                refine lv_iload_n hx hb dX12_lays_201 rfl (lv_at hl 3 rfl) ?_
                refine lv_iload hx hb dX12_lays_202 (lv_at hl 5 rfl) ?_
                refine cS_r (As := [.int l3, .int l7]) C mfX12_has t5_93 t5_92 (ccX12_has l D cy l3 l7 _ hF) rfl rfl (hP.sub [] rfl) PR.np rfl hl.1 rfl (Nat.le_of_ble_eq_true rfl) dX12_lays_204 ⟨Nat.le_of_ble_eq_true rfl, Nat.le_of_ble_eq_true rfl⟩ ⟨Nat.le_of_ble_eq_true rfl, Nat.le_of_ble_eq_true rfl⟩ ?_
                intro r2 hF
                refine W.eq (g2 := F0 m 207 ls [.int (bz r2), .int l7, .ref h_now, .long l4, .long (w_brought ((((3 * l2) + l7)).toNatClampNeg)), .int ((3 * l2) + l7), .ref h_brought]) rfl ?_
                refine cS_r (As := [.ref h_now, .int l7, .int (bz r2)]) C mfX12_brings t5_106 t5_105 (ccX12_brings l D cy h_now v_now l7 r2 _ hF) rfl rfl (hP.sub [1] rfl) PR.np rfl hl.1 rfl (Nat.le_of_ble_eq_true rfl) dX12_lays_207 ⟨Nat.le_of_ble_eq_true rfl, Nat.le_of_ble_eq_true rfl⟩ ⟨Nat.le_of_ble_eq_true rfl, Nat.le_of_ble_eq_true rfl⟩ ?_
                intro r3 hF
                refine W.eq (g2 := F0 m 210 ls [.int r3, .long l4, .long (w_brought ((((3 * l2) + l7)).toNatClampNeg)), .int ((3 * l2) + l7), .ref h_brought]) rfl ?_
                refine lv_i2l hx hb dX12_lays_210 rfl ?_
                refine lv_lmul hx hb dX12_lays_211 ?_
                refine lv_ladd hx hb dX12_lays_212 ?_
                obtain ⟨hi4, hF⟩ := hF
                refine s_last (j := (((3 * l2) + l7)).toNatClampNeg) hx hb hK.1 hP hD hS 5 1 rfl rfl hi4 rfl dX12_lays_213 (fun H locs hP hD hS => ?_)
                have hP : va_P D CL [(h_this, .inr (11, [x_lane, x_many, x_items, x_spare, .int v_status, x_tape, .int v_taped, .int v_faultKind, .int v_faultPlace, .int v_at, .int v_start, .int v_token, .int v_value, .ref h_now, x_draft, x_tried, x_past, .int v_acts, x_images, x_kept, x_trace, .int v_traced, .ref h_comes, .ref h_standing, .ref h_brought, .ref h_habit, .int v_livedMany])), (h_now, .inl (cy 0, 124, .inl v_now)), (h_comes, .inl (cy 1, 8, .inr (.inl w_comes))), (h_standing, .inl (cy 1, 8, .inr (.inl w_standing))), (h_habit, .inl (cy 0, 3, .inl v_habit)), (h_brought, .inl (cy 1, 24, .inr (.inl (vp_updL w_brought ((((3 * l2) + l7)).toNatClampNeg) ((w_brought ((((3 * l2) + l7)).toNatClampNeg)) + (l4 * ((r3).toInt64)))))))] H := hP
                have hD : va_D A [(h_this, .inr (11, [x_lane, x_many, x_items, x_spare, .int v_status, x_tape, .int v_taped, .int v_faultKind, .int v_faultPlace, .int v_at, .int v_start, .int v_token, .int v_value, .ref h_now, x_draft, x_tried, x_past, .int v_acts, x_images, x_kept, x_trace, .int v_traced, .ref h_comes, .ref h_standing, .ref h_brought, .ref h_habit, .int v_livedMany])), (h_now, .inl (cy 0, 124, .inl v_now)), (h_comes, .inl (cy 1, 8, .inr (.inl w_comes))), (h_standing, .inl (cy 1, 8, .inr (.inl w_standing))), (h_habit, .inl (cy 0, 3, .inl v_habit)), (h_brought, .inl (cy 1, 24, .inr (.inl (vp_updL w_brought ((((3 * l2) + l7)).toNatClampNeg) ((w_brought ((((3 * l2) + l7)).toNatClampNeg)) + (l4 * ((r3).toInt64)))))))] := hD
                refine lv_iinc (v := (l7 + 1)) (lv' := [(7, .int (l7 + 1)), (0, .ref h_this), (1, .int l1), (2, .int l2), (3, .int l3), (4, .long l4)]) hx hb dX12_lays_214 hl (k := 5) rfl rfl (by decide) rfl (fun ls hl => ?_)
                refine lv_goto (tgt := 175) hx hb dX12_lays_217 (by decide) ?_
                exact ih_175 l1 l2 l3 l4 (l7 + 1) w_comes w_standing (vp_updL w_brought ((((3 * l2) + l7)).toNatClampNeg) ((w_brought ((((3 * l2) + l7)).toNatClampNeg)) + (l4 * ((r3).toInt64)))) _ _ ls  hP hD hS (lv_sub hl [1, 2, 3, 4, 5, 0] rfl) hF
          intro l1 l2 l3 w_comes w_standing w_brought H locs ls  hP hD hS hl hF
          unfold wlX12_lays_78 at hF
          refine lv_iload_n hx hb dX12_lays_78 rfl (lv_at hl 3 rfl) ?_
          refine lv_iconst (v := 1) hx hb dX12_lays_79 (by decide) ?_
          refine lv_iload_n hx hb dX12_lays_80 rfl (lv_at hl 1 rfl) ?_
          refine lv_ishl hx hb dX12_lays_81 ?_
          refine lv_icmp_ge (tgt := 226) hx hb dX12_lays_82 (by decide) (fun c_ => ?_) (fun c_ => ?_)
          · have hF := hF.1 c_
            exact J_226 l1 l2 w_comes w_standing w_brought _ _ ls  hP hD hS (lv_sub hl [0, 1, 2] rfl) hF
          · have hF := hF.2 c_
            refine lv_aload_n hx hb dX12_lays_85 rfl (lv_at hl 0 rfl) ?_
            refine va_get (D := D) (ci := 11) (v := .ref h_comes) (C := RX12) (T := TX12) (N := 27) hx hb hts inTX12 hown hK.1 hP 0 rfl rfl 22 (by decide) (hts _ t4_146) (fun _ h9 => h9) rfl dX12_lays_86 ?_
            refine lv_iload_n hx hb dX12_lays_89 rfl (lv_at hl 2 rfl) ?_
            obtain ⟨hi1, hF⟩ := hF
            refine s_lald (j := (l2).toNatClampNeg) hx hb hK.1 hP 2 1 rfl rfl hi1 rfl dX12_lays_90 ?_
            refine lv_lconst (v := 0) hx hb dX12_lays_91 (by decide) ?_
            refine W.lcmp hx hb dX12_lays_92 ?_
            refine lv_if_le (tgt := 226) hx hb dX12_lays_93 (by decide) (fun c_ => ?_) (fun c_ => ?_)
            · have hF := hF.1 ((lg_cmp_le _ _).mp c_)
              exact J_226 l1 l2 w_comes w_standing w_brought _ _ ls  hP hD hS (lv_sub hl [0, 1, 2] rfl) hF
            · have hF := hF.2 (fun z9 => c_ ((lg_cmp_le _ _).mpr z9))
              refine lv_aload_n hx hb dX12_lays_96 rfl (lv_at hl 0 rfl) ?_
              refine va_get (D := D) (ci := 11) (v := .ref h_comes) (C := RX12) (T := TX12) (N := 27) hx hb hts inTX12 hown hK.1 hP 0 rfl rfl 22 (by decide) (hts _ t4_146) (fun _ h9 => h9) rfl dX12_lays_97 ?_
              refine lv_iload_n hx hb dX12_lays_100 rfl (lv_at hl 2 rfl) ?_
              obtain ⟨hi2, hF⟩ := hF
              refine s_lald (j := (l2).toNatClampNeg) hx hb hK.1 hP 2 1 rfl rfl hi2 rfl dX12_lays_101 ?_
              refine lv_aload_n hx hb dX12_lays_102 rfl (lv_at hl 0 rfl) ?_
              refine lv_iload_n hx hb dX12_lays_103 rfl (lv_at hl 2 rfl) ?_
              refine lv_iload_n hx hb dX12_lays_104 rfl (lv_at hl 3 rfl) ?_
              refine cV_r (As := [.int l2, .int l3]) C mfX12_ways t5_139 ts_29 t5_137 (ccX12_ways l D cy h_this h_now x_lane x_many x_items x_spare x_tape x_draft x_tried x_past x_images x_kept x_trace (.ref h_comes) (.ref h_standing) (.ref h_brought) (.ref h_habit) v_status v_taped v_faultKind v_faultPlace v_at v_start v_token v_value v_acts v_traced v_livedMany v_now l2 l3 _ hF) rfl rfl (hP.sub [0, 1] rfl) PR.np hP 0 11 rfl rfl rfl rfl hl.1 rfl (Nat.le_of_ble_eq_true rfl) dX12_lays_105 ⟨Nat.le_of_ble_eq_true rfl, Nat.le_of_ble_eq_true rfl⟩ ⟨Nat.le_of_ble_eq_true rfl, Nat.le_of_ble_eq_true rfl⟩ ?_
              intro r3 hF
              refine W.eq (g2 := F0 m 108 ls [.long r3, .long (w_comes ((l2).toNatClampNeg))]) rfl ?_
              refine lv_lmul hx hb dX12_lays_108 ?_
              refine lv_lstore (lv' := [(4, .long ((w_comes ((l2).toNatClampNeg)) * r3)), (0, .ref h_this), (1, .int l1), (2, .int l2), (3, .int l3)]) hx hb dX12_lays_109 hl (by decide) rfl (fun ls hl => ?_)
              refine lv_aload_n hx hb dX12_lays_111 rfl (lv_at hl 1 rfl) ?_
              refine va_get (D := D) (ci := 11) (v := .ref h_now) (C := RX12) (T := TX12) (N := 27) hx hb hts inTX12 hown hK.1 hP 0 rfl rfl 13 (by decide) (hts _ t4_137) (fun _ h9 => h9) rfl dX12_lays_112 ?_
              refine lv_aload_n hx hb dX12_lays_115 rfl (lv_at hl 1 rfl) ?_
              refine va_get (D := D) (ci := 11) (v := .ref h_habit) (C := RX12) (T := TX12) (N := 27) hx hb hts inTX12 hown hK.1 hP 0 rfl rfl 25 (by decide) (hts _ t4_149) (fun _ h9 => h9) rfl dX12_lays_116 ?_
              refine lv_aload_n hx hb dX12_lays_119 rfl (lv_at hl 1 rfl) ?_
              refine va_get (D := D) (ci := 11) (v := .ref h_now) (C := RX12) (T := TX12) (N := 27) hx hb hts inTX12 hown hK.1 hP 0 rfl rfl 13 (by decide) (hts _ t4_137) (fun _ h9 => h9) rfl dX12_lays_120 ?_
              refine lv_iconst (v := 2) hx hb dX12_lays_123 (by decide) ?_
              refine s_iald (j := 2) hx hb hK.1 hP 1 0 rfl rfl (vi (by decide)) (by decide) dX12_lays_124 ?_
              refine lv_iload_n hx hb dX12_lays_125 rfl (lv_at hl 3 rfl) ?_
              refine lv_iconst (v := (-1)) hx hb dX12_lays_126 (by decide) ?_
              refine lv_ixor hx hb dX12_lays_127 ?_
              refine lv_iand hx hb dX12_lays_128 ?_
              refine lv_iload_n hx hb dX12_lays_129 rfl (lv_at hl 4 rfl) ?_
              refine cS_r (As := [.ref h_now, .ref h_habit, .int ((v_now 2) &&& (l2 ^^^ (-1))), .int l3]) C mfX12_goesAgain t5_142 t5_141 (ccX12_goesAgain l D cy h_now h_habit v_now v_habit ((v_now 2) &&& (l2 ^^^ (-1))) l3 _ hF) rfl rfl (hP.sub [1, 4] rfl) PR.np rfl hl.1 rfl (Nat.le_of_ble_eq_true rfl) dX12_lays_130 ⟨Nat.le_of_ble_eq_true rfl, Nat.le_of_ble_eq_true rfl⟩ ⟨Nat.le_of_ble_eq_true rfl, Nat.le_of_ble_eq_true rfl⟩ ?_
              intro r4 hF
              refine W.eq (g2 := F0 m 133 ls [.int r4]) rfl ?_
              refine lv_istore (lv' := [(6, .int r4), (4, .long ((w_comes ((l2).toNatClampNeg)) * r3)), (0, .ref h_this), (1, .int l1), (2, .int l2), (3, .int l3)]) hx hb dX12_lays_133 hl (by decide) rfl (fun ls hl => ?_)
              refine lv_iload hx hb dX12_lays_135 (lv_at hl 0 rfl) ?_
              refine lv_ldc hx hb hown (hts _ t4_123) dX12_lays_137 ?_
              refine lv_icmp_eq (tgt := 161) hx hb dX12_lays_139 (by decide) (fun c_ => ?_) (fun c_ => ?_)
              · have hF := hF.1 c_
                refine lv_aload_n hx hb dX12_lays_161 rfl (lv_at hl 2 rfl) ?_
                refine va_get (D := D) (ci := 11) (v := .ref h_standing) (C := RX12) (T := TX12) (N := 27) hx hb hts inTX12 hown hK.1 hP 0 rfl rfl 23 (by decide) (hts _ t4_147) (fun _ h9 => h9) rfl dX12_lays_162 ?_
                refine lv_iload_n hx hb dX12_lays_165 rfl (lv_at hl 4 rfl) ?_
                refine lv_dup2_11 hx hb dX12_lays_166 rfl rfl ?_
                obtain ⟨hi5, hF⟩ := hF
                refine s_lald (j := (l2).toNatClampNeg) hx hb hK.1 hP 3 1 rfl rfl hi5 rfl dX12_lays_167 ?_
                refine lv_lload hx hb dX12_lays_168 (lv_at hl 1 rfl) ?_
                refine lv_ladd hx hb dX12_lays_170 ?_
                obtain ⟨hi6, hF⟩ := hF
                refine s_last (j := (l2).toNatClampNeg) hx hb hK.1 hP hD hS 3 1 rfl rfl hi6 rfl dX12_lays_171 (fun H locs hP hD hS => ?_)
                have hP : va_P D CL [(h_this, .inr (11, [x_lane, x_many, x_items, x_spare, .int v_status, x_tape, .int v_taped, .int v_faultKind, .int v_faultPlace, .int v_at, .int v_start, .int v_token, .int v_value, .ref h_now, x_draft, x_tried, x_past, .int v_acts, x_images, x_kept, x_trace, .int v_traced, .ref h_comes, .ref h_standing, .ref h_brought, .ref h_habit, .int v_livedMany])), (h_now, .inl (cy 0, 124, .inl v_now)), (h_comes, .inl (cy 1, 8, .inr (.inl w_comes))), (h_standing, .inl (cy 1, 8, .inr (.inl (vp_updL w_standing ((l2).toNatClampNeg) ((w_standing ((l2).toNatClampNeg)) + ((w_comes ((l2).toNatClampNeg)) * r3)))))), (h_habit, .inl (cy 0, 3, .inl v_habit)), (h_brought, .inl (cy 1, 24, .inr (.inl w_brought)))] H := hP
                have hD : va_D A [(h_this, .inr (11, [x_lane, x_many, x_items, x_spare, .int v_status, x_tape, .int v_taped, .int v_faultKind, .int v_faultPlace, .int v_at, .int v_start, .int v_token, .int v_value, .ref h_now, x_draft, x_tried, x_past, .int v_acts, x_images, x_kept, x_trace, .int v_traced, .ref h_comes, .ref h_standing, .ref h_brought, .ref h_habit, .int v_livedMany])), (h_now, .inl (cy 0, 124, .inl v_now)), (h_comes, .inl (cy 1, 8, .inr (.inl w_comes))), (h_standing, .inl (cy 1, 8, .inr (.inl (vp_updL w_standing ((l2).toNatClampNeg) ((w_standing ((l2).toNatClampNeg)) + ((w_comes ((l2).toNatClampNeg)) * r3)))))), (h_habit, .inl (cy 0, 3, .inl v_habit)), (h_brought, .inl (cy 1, 24, .inr (.inl w_brought)))] := hD
                refine lv_iconst (v := 0) hx hb dX12_lays_172 (by decide) ?_
                refine lv_istore (lv' := [(7, .int 0), (6, .int r4), (4, .long ((w_comes ((l2).toNatClampNeg)) * r3)), (0, .ref h_this), (1, .int l1), (2, .int l2), (3, .int l3)]) hx hb dX12_lays_173 hl (by decide) rfl (fun ls hl => ?_)
                exact L_175 fu l1 l2 l3 ((w_comes ((l2).toNatClampNeg)) * r3) 0 w_comes (vp_updL w_standing ((l2).toNatClampNeg) ((w_standing ((l2).toNatClampNeg)) + ((w_comes ((l2).toNatClampNeg)) * r3))) w_brought _ _ ls  hP hD hS (lv_sub hl [3, 4, 5, 6, 2, 0] rfl) hF
              · have hF := hF.2 c_
                refine lv_aload_n hx hb dX12_lays_142 rfl (lv_at hl 2 rfl) ?_
                refine va_get (D := D) (ci := 11) (v := .ref h_comes) (C := RX12) (T := TX12) (N := 27) hx hb hts inTX12 hown hK.1 hP 0 rfl rfl 22 (by decide) (hts _ t4_146) (fun _ h9 => h9) rfl dX12_lays_143 ?_
                refine lv_iload_n hx hb dX12_lays_146 rfl (lv_at hl 4 rfl) ?_
                refine lv_iconst (v := 1) hx hb dX12_lays_147 (by decide) ?_
                refine lv_iload hx hb dX12_lays_148 (lv_at hl 0 rfl) ?_
                refine lv_ishl hx hb dX12_lays_150 ?_
                refine lv_ior hx hb dX12_lays_151 ?_
                refine lv_dup2_11 hx hb dX12_lays_152 rfl rfl ?_
                obtain ⟨hi7, hF⟩ := hF
                refine s_lald (j := ((l2 ||| ((1 : Int32) <<< (r4 &&& 31)))).toNatClampNeg) hx hb hK.1 hP 2 1 rfl rfl hi7 rfl dX12_lays_153 ?_
                refine lv_lload hx hb dX12_lays_154 (lv_at hl 1 rfl) ?_
                refine lv_ladd hx hb dX12_lays_156 ?_
                obtain ⟨hi8, hF⟩ := hF
                refine s_last (j := ((l2 ||| ((1 : Int32) <<< (r4 &&& 31)))).toNatClampNeg) hx hb hK.1 hP hD hS 2 1 rfl rfl hi8 rfl dX12_lays_157 (fun H locs hP hD hS => ?_)
                have hP : va_P D CL [(h_this, .inr (11, [x_lane, x_many, x_items, x_spare, .int v_status, x_tape, .int v_taped, .int v_faultKind, .int v_faultPlace, .int v_at, .int v_start, .int v_token, .int v_value, .ref h_now, x_draft, x_tried, x_past, .int v_acts, x_images, x_kept, x_trace, .int v_traced, .ref h_comes, .ref h_standing, .ref h_brought, .ref h_habit, .int v_livedMany])), (h_now, .inl (cy 0, 124, .inl v_now)), (h_comes, .inl (cy 1, 8, .inr (.inl (vp_updL w_comes (((l2 ||| ((1 : Int32) <<< (r4 &&& 31)))).toNatClampNeg) ((w_comes (((l2 ||| ((1 : Int32) <<< (r4 &&& 31)))).toNatClampNeg)) + ((w_comes ((l2).toNatClampNeg)) * r3)))))), (h_standing, .inl (cy 1, 8, .inr (.inl w_standing))), (h_habit, .inl (cy 0, 3, .inl v_habit)), (h_brought, .inl (cy 1, 24, .inr (.inl w_brought)))] H := hP
                have hD : va_D A [(h_this, .inr (11, [x_lane, x_many, x_items, x_spare, .int v_status, x_tape, .int v_taped, .int v_faultKind, .int v_faultPlace, .int v_at, .int v_start, .int v_token, .int v_value, .ref h_now, x_draft, x_tried, x_past, .int v_acts, x_images, x_kept, x_trace, .int v_traced, .ref h_comes, .ref h_standing, .ref h_brought, .ref h_habit, .int v_livedMany])), (h_now, .inl (cy 0, 124, .inl v_now)), (h_comes, .inl (cy 1, 8, .inr (.inl (vp_updL w_comes (((l2 ||| ((1 : Int32) <<< (r4 &&& 31)))).toNatClampNeg) ((w_comes (((l2 ||| ((1 : Int32) <<< (r4 &&& 31)))).toNatClampNeg)) + ((w_comes ((l2).toNatClampNeg)) * r3)))))), (h_standing, .inl (cy 1, 8, .inr (.inl w_standing))), (h_habit, .inl (cy 0, 3, .inl v_habit)), (h_brought, .inl (cy 1, 24, .inr (.inl w_brought)))] := hD
                refine lv_goto (tgt := 220) hx hb dX12_lays_158 (by decide) ?_
                exact J_220 l1 l2 l3 (vp_updL w_comes (((l2 ||| ((1 : Int32) <<< (r4 &&& 31)))).toNatClampNeg) ((w_comes (((l2 ||| ((1 : Int32) <<< (r4 &&& 31)))).toNatClampNeg)) + ((w_comes ((l2).toNatClampNeg)) * r3))) w_standing w_brought _ _ ls  hP hD hS (lv_sub hl [2, 3, 4, 5] rfl) hF
      intro l1 l2 w_comes w_standing w_brought H locs ls  hP hD hS hl hF
      unfold wlX12_lays_69 at hF
      refine lv_iload_n hx hb dX12_lays_69 rfl (lv_at hl 2 rfl) ?_
      refine lv_iconst (v := 1) hx hb dX12_lays_70 (by decide) ?_
      refine lv_iload_n hx hb dX12_lays_71 rfl (lv_at hl 1 rfl) ?_
      refine lv_ishl hx hb dX12_lays_72 ?_
      refine lv_icmp_ge (tgt := 232) hx hb dX12_lays_73 (by decide) (fun c_ => ?_) (fun c_ => ?_)
      · have hF := hF.1 c_
        exact rt_v C hQ rfl hP hD hS ⟨w_comes, w_standing, w_brought, rfl, hF⟩ dX12_lays_232
      · have hF := hF.2 c_
        refine lv_iconst (v := 0) hx hb dX12_lays_76 (by decide) ?_
        refine lv_istore_n (lv' := [(3, .int 0), (0, .ref h_this), (1, .int l1), (2, .int l2)]) hx hb dX12_lays_77 rfl hl (by decide) rfl (fun ls hl => ?_)
        exact L_78 fu l1 l2 0 w_comes w_standing w_brought _ _ ls  hP hD hS (lv_sub hl [1, 2, 3, 0] rfl) hF
  have L_9 : ∀ (n_9 : Nat) (l1 : Int32) (l2 : Int32) (w_comes : Nat → Int64) (w_standing : Nat → Int64) (w_brought : Nat → Int64) (H : Heap) (locs : List Loc) (ls : Array Slot), va_P D CL [(h_this, .inr (11, [x_lane, x_many, x_items, x_spare, .int v_status, x_tape, .int v_taped, .int v_faultKind, .int v_faultPlace, .int v_at, .int v_start, .int v_token, .int v_value, .ref h_now, x_draft, x_tried, x_past, .int v_acts, x_images, x_kept, x_trace, .int v_traced, .ref h_comes, .ref h_standing, .ref h_brought, .ref h_habit, .int v_livedMany])), (h_now, .inl (cy 0, 124, .inl v_now)), (h_comes, .inl (cy 1, 8, .inr (.inl w_comes))), (h_standing, .inl (cy 1, 8, .inr (.inl w_standing))), (h_habit, .inl (cy 0, 3, .inl v_habit)), (h_brought, .inl (cy 1, 24, .inr (.inl w_brought)))] H → va_D A [(h_this, .inr (11, [x_lane, x_many, x_items, x_spare, .int v_status, x_tape, .int v_taped, .int v_faultKind, .int v_faultPlace, .int v_at, .int v_start, .int v_token, .int v_value, .ref h_now, x_draft, x_tried, x_past, .int v_acts, x_images, x_kept, x_trace, .int v_traced, .ref h_comes, .ref h_standing, .ref h_brought, .ref h_habit, .int v_livedMany])), (h_now, .inl (cy 0, 124, .inl v_now)), (h_comes, .inl (cy 1, 8, .inr (.inl w_comes))), (h_standing, .inl (cy 1, 8, .inr (.inl w_standing))), (h_habit, .inl (cy 0, 3, .inl v_habit)), (h_brought, .inl (cy 1, 24, .inr (.inl w_brought)))] → va_S A s.heap H locs → lv_has ls 8 [(0, .ref h_this), (1, .int l1), (2, .int l2)] → wlX12_lays_9 v_now v_habit post n_9 l1 l2 w_comes w_standing w_brought → W p l e rmX12_lays s m args below meth c H locs 0 0 Q (F0 m 9 ls []) := by
    intro n_9
    induction n_9 with
    | zero =>
      intro l1 l2 w_comes w_standing w_brought H locs ls  hP hD hS hl hF
      simp only [wlX12_lays_9] at hF
    | succ n_9 ih_9 =>
      have L_39 : ∀ (n_39 : Nat) (l1 : Int32) (l2 : Int32) (l3 : Int32) (w_comes : Nat → Int64) (w_standing : Nat → Int64) (w_brought : Nat → Int64) (H : Heap) (locs : List Loc) (ls : Array Slot), va_P D CL [(h_this, .inr (11, [x_lane, x_many, x_items, x_spare, .int v_status, x_tape, .int v_taped, .int v_faultKind, .int v_faultPlace, .int v_at, .int v_start, .int v_token, .int v_value, .ref h_now, x_draft, x_tried, x_past, .int v_acts, x_images, x_kept, x_trace, .int v_traced, .ref h_comes, .ref h_standing, .ref h_brought, .ref h_habit, .int v_livedMany])), (h_now, .inl (cy 0, 124, .inl v_now)), (h_comes, .inl (cy 1, 8, .inr (.inl w_comes))), (h_standing, .inl (cy 1, 8, .inr (.inl w_standing))), (h_habit, .inl (cy 0, 3, .inl v_habit)), (h_brought, .inl (cy 1, 24, .inr (.inl w_brought)))] H → va_D A [(h_this, .inr (11, [x_lane, x_many, x_items, x_spare, .int v_status, x_tape, .int v_taped, .int v_faultKind, .int v_faultPlace, .int v_at, .int v_start, .int v_token, .int v_value, .ref h_now, x_draft, x_tried, x_past, .int v_acts, x_images, x_kept, x_trace, .int v_traced, .ref h_comes, .ref h_standing, .ref h_brought, .ref h_habit, .int v_livedMany])), (h_now, .inl (cy 0, 124, .inl v_now)), (h_comes, .inl (cy 1, 8, .inr (.inl w_comes))), (h_standing, .inl (cy 1, 8, .inr (.inl w_standing))), (h_habit, .inl (cy 0, 3, .inl v_habit)), (h_brought, .inl (cy 1, 24, .inr (.inl w_brought)))] → va_S A s.heap H locs → lv_has ls 8 [(0, .ref h_this), (1, .int l1), (2, .int l2), (3, .int l3)] → wlX12_lays_39 v_now v_habit post (wlX12_lays_9 v_now v_habit post n_9) n_39 l1 l2 l3 w_comes w_standing w_brought → W p l e rmX12_lays s m args below meth c H locs 0 0 Q (F0 m 39 ls []) := by
        intro n_39
        induction n_39 with
        | zero =>
          intro l1 l2 l3 w_comes w_standing w_brought H locs ls  hP hD hS hl hF
          simp only [wlX12_lays_39] at hF
        | succ n_39 ih_39 =>
          intro l1 l2 l3 w_comes w_standing w_brought H locs ls  hP hD hS hl hF
          unfold wlX12_lays_39 at hF
          refine lv_iload_n hx hb dX12_lays_39 rfl (lv_at hl 3 rfl) ?_
          refine lv_iconst (v := 3) hx hb dX12_lays_40 (by decide) ?_
          refine lv_icmp_ge (tgt := 61) hx hb dX12_lays_41 (by decide) (fun c_ => ?_) (fun c_ => ?_)
          · have hF := hF.1 c_
            refine lv_iinc (v := (l2 + 1)) (lv' := [(2, .int (l2 + 1)), (0, .ref h_this), (1, .int l1), (3, .int l3)]) hx hb dX12_lays_61 hl (k := 2) rfl rfl (by decide) rfl (fun ls hl => ?_)
            refine lv_goto (tgt := 9) hx hb dX12_lays_64 (by decide) ?_
            exact ih_9 l1 (l2 + 1) w_comes w_standing w_brought _ _ ls  hP hD hS (lv_sub hl [1, 2, 0] rfl) hF
          · have hF := hF.2 c_
            refine lv_aload_n hx hb dX12_lays_44 rfl (lv_at hl 0 rfl) ?_
            refine va_get (D := D) (ci := 11) (v := .ref h_brought) (C := RX12) (T := TX12) (N := 27) hx hb hts inTX12 hown hK.1 hP 0 rfl rfl 24 (by decide) (hts _ t4_148) (fun _ h9 => h9) rfl dX12_lays_45 ?_
            refine lv_iconst (v := 3) hx hb dX12_lays_48 (by decide) ?_
            refine lv_iload_n hx hb dX12_lays_49 rfl (lv_at hl 2 rfl) ?_
            refine lv_imul hx hb dX12_lays_50 ?_
            refine lv_iload_n hx hb dX12_lays_51 rfl (lv_at hl 3 rfl) ?_
            refine lv_iadd hx hb dX12_lays_52 ?_
            refine lv_lconst (v := 0) hx hb dX12_lays_53 (by decide) ?_
            obtain ⟨hi1, hF⟩ := hF
            refine s_last (j := (((3 * l2) + l3)).toNatClampNeg) hx hb hK.1 hP hD hS 5 1 rfl rfl hi1 rfl dX12_lays_54 (fun H locs hP hD hS => ?_)
            have hP : va_P D CL [(h_this, .inr (11, [x_lane, x_many, x_items, x_spare, .int v_status, x_tape, .int v_taped, .int v_faultKind, .int v_faultPlace, .int v_at, .int v_start, .int v_token, .int v_value, .ref h_now, x_draft, x_tried, x_past, .int v_acts, x_images, x_kept, x_trace, .int v_traced, .ref h_comes, .ref h_standing, .ref h_brought, .ref h_habit, .int v_livedMany])), (h_now, .inl (cy 0, 124, .inl v_now)), (h_comes, .inl (cy 1, 8, .inr (.inl w_comes))), (h_standing, .inl (cy 1, 8, .inr (.inl w_standing))), (h_habit, .inl (cy 0, 3, .inl v_habit)), (h_brought, .inl (cy 1, 24, .inr (.inl (vp_updL w_brought ((((3 * l2) + l3)).toNatClampNeg) 0))))] H := hP
            have hD : va_D A [(h_this, .inr (11, [x_lane, x_many, x_items, x_spare, .int v_status, x_tape, .int v_taped, .int v_faultKind, .int v_faultPlace, .int v_at, .int v_start, .int v_token, .int v_value, .ref h_now, x_draft, x_tried, x_past, .int v_acts, x_images, x_kept, x_trace, .int v_traced, .ref h_comes, .ref h_standing, .ref h_brought, .ref h_habit, .int v_livedMany])), (h_now, .inl (cy 0, 124, .inl v_now)), (h_comes, .inl (cy 1, 8, .inr (.inl w_comes))), (h_standing, .inl (cy 1, 8, .inr (.inl w_standing))), (h_habit, .inl (cy 0, 3, .inl v_habit)), (h_brought, .inl (cy 1, 24, .inr (.inl (vp_updL w_brought ((((3 * l2) + l3)).toNatClampNeg) 0))))] := hD
            refine lv_iinc (v := (l3 + 1)) (lv' := [(3, .int (l3 + 1)), (0, .ref h_this), (1, .int l1), (2, .int l2)]) hx hb dX12_lays_55 hl (k := 3) rfl rfl (by decide) rfl (fun ls hl => ?_)
            refine lv_goto (tgt := 39) hx hb dX12_lays_58 (by decide) ?_
            exact ih_39 l1 l2 (l3 + 1) w_comes w_standing (vp_updL w_brought ((((3 * l2) + l3)).toNatClampNeg) 0) _ _ ls  hP hD hS (lv_sub hl [1, 2, 3, 0] rfl) hF
      have J_29 : ∀ (l1 : Int32) (l2 : Int32) (k0 : Int64) (k1 : Int32) (w_comes : Nat → Int64) (w_standing : Nat → Int64) (w_brought : Nat → Int64) (H : Heap) (locs : List Loc) (ls : Array Slot), va_P D CL [(h_this, .inr (11, [x_lane, x_many, x_items, x_spare, .int v_status, x_tape, .int v_taped, .int v_faultKind, .int v_faultPlace, .int v_at, .int v_start, .int v_token, .int v_value, .ref h_now, x_draft, x_tried, x_past, .int v_acts, x_images, x_kept, x_trace, .int v_traced, .ref h_comes, .ref h_standing, .ref h_brought, .ref h_habit, .int v_livedMany])), (h_now, .inl (cy 0, 124, .inl v_now)), (h_comes, .inl (cy 1, 8, .inr (.inl w_comes))), (h_standing, .inl (cy 1, 8, .inr (.inl w_standing))), (h_habit, .inl (cy 0, 3, .inl v_habit)), (h_brought, .inl (cy 1, 24, .inr (.inl w_brought)))] H → va_D A [(h_this, .inr (11, [x_lane, x_many, x_items, x_spare, .int v_status, x_tape, .int v_taped, .int v_faultKind, .int v_faultPlace, .int v_at, .int v_start, .int v_token, .int v_value, .ref h_now, x_draft, x_tried, x_past, .int v_acts, x_images, x_kept, x_trace, .int v_traced, .ref h_comes, .ref h_standing, .ref h_brought, .ref h_habit, .int v_livedMany])), (h_now, .inl (cy 0, 124, .inl v_now)), (h_comes, .inl (cy 1, 8, .inr (.inl w_comes))), (h_standing, .inl (cy 1, 8, .inr (.inl w_standing))), (h_habit, .inl (cy 0, 3, .inl v_habit)), (h_brought, .inl (cy 1, 24, .inr (.inl w_brought)))] → va_S A s.heap H locs → lv_has ls 8 [(0, .ref h_this), (1, .int l1), (2, .int l2)] → wjX12_lays_29 v_now v_habit post (wlX12_lays_9 v_now v_habit post n_9) l1 l2 k0 k1 w_comes w_standing w_brought → W p l e rmX12_lays s m args below meth c H locs 0 0 Q (F0 m 29 ls [.long k0, .int k1, .ref h_comes]) := by
        intro l1 l2 k0 k1 w_comes w_standing w_brought H locs ls  hP hD hS hl hF
        unfold wjX12_lays_29 at hF
        obtain ⟨hi1, hF⟩ := hF
        refine s_last (j := (k1).toNatClampNeg) hx hb hK.1 hP hD hS 2 1 rfl rfl hi1 rfl dX12_lays_29 (fun H locs hP hD hS => ?_)
        have hP : va_P D CL [(h_this, .inr (11, [x_lane, x_many, x_items, x_spare, .int v_status, x_tape, .int v_taped, .int v_faultKind, .int v_faultPlace, .int v_at, .int v_start, .int v_token, .int v_value, .ref h_now, x_draft, x_tried, x_past, .int v_acts, x_images, x_kept, x_trace, .int v_traced, .ref h_comes, .ref h_standing, .ref h_brought, .ref h_habit, .int v_livedMany])), (h_now, .inl (cy 0, 124, .inl v_now)), (h_comes, .inl (cy 1, 8, .inr (.inl (vp_updL w_comes ((k1).toNatClampNeg) k0)))), (h_standing, .inl (cy 1, 8, .inr (.inl w_standing))), (h_habit, .inl (cy 0, 3, .inl v_habit)), (h_brought, .inl (cy 1, 24, .inr (.inl w_brought)))] H := hP
        have hD : va_D A [(h_this, .inr (11, [x_lane, x_many, x_items, x_spare, .int v_status, x_tape, .int v_taped, .int v_faultKind, .int v_faultPlace, .int v_at, .int v_start, .int v_token, .int v_value, .ref h_now, x_draft, x_tried, x_past, .int v_acts, x_images, x_kept, x_trace, .int v_traced, .ref h_comes, .ref h_standing, .ref h_brought, .ref h_habit, .int v_livedMany])), (h_now, .inl (cy 0, 124, .inl v_now)), (h_comes, .inl (cy 1, 8, .inr (.inl (vp_updL w_comes ((k1).toNatClampNeg) k0)))), (h_standing, .inl (cy 1, 8, .inr (.inl w_standing))), (h_habit, .inl (cy 0, 3, .inl v_habit)), (h_brought, .inl (cy 1, 24, .inr (.inl w_brought)))] := hD
        refine lv_aload_n hx hb dX12_lays_30 rfl (lv_at hl 0 rfl) ?_
        refine va_get (D := D) (ci := 11) (v := .ref h_standing) (C := RX12) (T := TX12) (N := 27) hx hb hts inTX12 hown hK.1 hP 0 rfl rfl 23 (by decide) (hts _ t4_147) (fun _ h9 => h9) rfl dX12_lays_31 ?_
        refine lv_iload_n hx hb dX12_lays_34 rfl (lv_at hl 2 rfl) ?_
        refine lv_lconst (v := 0) hx hb dX12_lays_35 (by decide) ?_
        obtain ⟨hi2, hF⟩ := hF
        refine s_last (j := (l2).toNatClampNeg) hx hb hK.1 hP hD hS 3 1 rfl rfl hi2 rfl dX12_lays_36 (fun H locs hP hD hS => ?_)
        have hP : va_P D CL [(h_this, .inr (11, [x_lane, x_many, x_items, x_spare, .int v_status, x_tape, .int v_taped, .int v_faultKind, .int v_faultPlace, .int v_at, .int v_start, .int v_token, .int v_value, .ref h_now, x_draft, x_tried, x_past, .int v_acts, x_images, x_kept, x_trace, .int v_traced, .ref h_comes, .ref h_standing, .ref h_brought, .ref h_habit, .int v_livedMany])), (h_now, .inl (cy 0, 124, .inl v_now)), (h_comes, .inl (cy 1, 8, .inr (.inl (vp_updL w_comes ((k1).toNatClampNeg) k0)))), (h_standing, .inl (cy 1, 8, .inr (.inl (vp_updL w_standing ((l2).toNatClampNeg) 0)))), (h_habit, .inl (cy 0, 3, .inl v_habit)), (h_brought, .inl (cy 1, 24, .inr (.inl w_brought)))] H := hP
        have hD : va_D A [(h_this, .inr (11, [x_lane, x_many, x_items, x_spare, .int v_status, x_tape, .int v_taped, .int v_faultKind, .int v_faultPlace, .int v_at, .int v_start, .int v_token, .int v_value, .ref h_now, x_draft, x_tried, x_past, .int v_acts, x_images, x_kept, x_trace, .int v_traced, .ref h_comes, .ref h_standing, .ref h_brought, .ref h_habit, .int v_livedMany])), (h_now, .inl (cy 0, 124, .inl v_now)), (h_comes, .inl (cy 1, 8, .inr (.inl (vp_updL w_comes ((k1).toNatClampNeg) k0)))), (h_standing, .inl (cy 1, 8, .inr (.inl (vp_updL w_standing ((l2).toNatClampNeg) 0)))), (h_habit, .inl (cy 0, 3, .inl v_habit)), (h_brought, .inl (cy 1, 24, .inr (.inl w_brought)))] := hD
        refine lv_iconst (v := 0) hx hb dX12_lays_37 (by decide) ?_
        refine lv_istore_n (lv' := [(3, .int 0), (0, .ref h_this), (1, .int l1), (2, .int l2)]) hx hb dX12_lays_38 rfl hl (by decide) rfl (fun ls hl => ?_)
        exact L_39 fu l1 l2 0 (vp_updL w_comes ((k1).toNatClampNeg) k0) (vp_updL w_standing ((l2).toNatClampNeg) 0) w_brought _ _ ls  hP hD hS (lv_sub hl [1, 2, 3, 0] rfl) hF
      intro l1 l2 w_comes w_standing w_brought H locs ls  hP hD hS hl hF
      unfold wlX12_lays_9 at hF
      refine lv_iload_n hx hb dX12_lays_9 rfl (lv_at hl 2 rfl) ?_
      refine lv_bipush (v := 8) hx hb dX12_lays_10 (by decide) ?_
      refine lv_icmp_ge (tgt := 67) hx hb dX12_lays_12 (by decide) (fun c_ => ?_) (fun c_ => ?_)
      · have hF := hF.1 c_
        refine lv_iconst (v := 0) hx hb dX12_lays_67 (by decide) ?_
        refine lv_istore_n (lv' := [(2, .int 0), (0, .ref h_this), (1, .int l1)]) hx hb dX12_lays_68 rfl hl (by decide) rfl (fun ls hl => ?_)
        exact L_69 fu l1 0 w_comes w_standing w_brought _ _ ls  hP hD hS (lv_sub hl [1, 2, 0] rfl) hF
      · have hF := hF.2 c_
        refine lv_aload_n hx hb dX12_lays_15 rfl (lv_at hl 0 rfl) ?_
        refine va_get (D := D) (ci := 11) (v := .ref h_comes) (C := RX12) (T := TX12) (N := 27) hx hb hts inTX12 hown hK.1 hP 0 rfl rfl 22 (by decide) (hts _ t4_146) (fun _ h9 => h9) rfl dX12_lays_16 ?_
        refine lv_iload_n hx hb dX12_lays_19 rfl (lv_at hl 2 rfl) ?_
        refine lv_iload_n hx hb dX12_lays_20 rfl (lv_at hl 2 rfl) ?_
        refine lv_if_ne (tgt := 28) hx hb dX12_lays_21 (by decide) (fun c_ => ?_) (fun c_ => ?_)
        · have hF := hF.1 c_
          refine lv_lconst (v := 0) hx hb dX12_lays_28 (by decide) ?_
          exact J_29 l1 l2 0 l2 w_comes w_standing w_brought _ _ ls  hP hD hS (lv_sub hl [0, 1, 2] rfl) hF
        · have hF := hF.2 c_
          refine lv_lconst (v := 1) hx hb dX12_lays_24 (by decide) ?_
          refine lv_goto (tgt := 29) hx hb dX12_lays_25 (by decide) ?_
          exact J_29 l1 l2 1 l2 w_comes w_standing w_brought _ _ ls  hP hD hS (lv_sub hl [0, 1, 2] rfl) hF
  unfold wpX12_lays at hF
  refine lv_aload_n hx hb dX12_lays_0 rfl (lv_at hl 0 rfl) ?_
  refine va_get (D := D) (ci := 11) (v := .ref h_now) (C := RX12) (T := TX12) (N := 27) hx hb hts inTX12 hown hK.1 hP 0 rfl rfl 13 (by decide) (hts _ t4_137) (fun _ h9 => h9) rfl dX12_lays_1 ?_
  refine lv_iconst (v := 1) hx hb dX12_lays_4 (by decide) ?_
  refine s_iald (j := 1) hx hb hK.1 hP 1 0 rfl rfl (vi (by decide)) (by decide) dX12_lays_5 ?_
  refine lv_istore_n (lv' := [(1, .int (v_now 1)), (0, .ref h_this)]) hx hb dX12_lays_6 rfl hl (by decide) rfl (fun ls hl => ?_)
  refine lv_iconst (v := 0) hx hb dX12_lays_7 (by decide) ?_
  refine lv_istore_n (lv' := [(2, .int 0), (1, .int (v_now 1)), (0, .ref h_this)]) hx hb dX12_lays_8 rfl hl (by decide) rfl (fun ls hl => ?_)
  exact L_9 fu (v_now 1) 0 v_comes v_standing v_brought _ _ ls  hP hD hS (lv_sub hl [2, 1, 0] rfl) hF

def wlX12_meanOf_12 (v_now : Nat → Int32) (v_brought : Nat → Int64) (post : Int64 → Prop) : Nat → Int32 → Int32 → Int64 → Int32 → Prop
  | 0, _, _, _, _ => False
  | n + 1, l1, l2, l3, l5 => (((1 : Int32) <<< (l2 &&& 31)) ≤ l5 → (post l3)) ∧ (¬ ((1 : Int32) <<< (l2 &&& 31)) ≤ l5 → (vp_in ((3 * l5) + l1) 24 ∧ (wpX12_ones l5 (fun r2 => wpX12_power (l2 * (3 - r2)) (fun r3 => (wlX12_meanOf_12 v_now v_brought post n) l1 l2 (l3 + ((v_brought ((((3 * l5) + l1)).toNatClampNeg)) * r3)) (l5 + 1))))))
def wpX12_meanOf (p0 : Int32) (v_now : Nat → Int32) (v_brought : Nat → Int64) (post : Int64 → Prop) : Prop := wlX12_meanOf_12 v_now v_brought post fu p0 (v_now 1) 0 0
abbrev miX12_meanOf : MI := (yX12_meanOf, cX12_meanOf, 6, (some .long))
theorem mfX12_meanOf : MF miX12_meanOf 1 := ⟨t5_157, t1_8, by decide +kernel⟩
abbrev rmX12_meanOf : Room := { frames := 1, cells := 0, slots := 0, locals := 23 }
set_option maxHeartbeats 4000000 in
set_option maxRecDepth 100000 in
theorem ccX12_meanOf (l : Launch) (D : va_G) (cy : Nat → ClassId) (h_this : Nat) (h_now : Nat) (h_brought : Nat) (x_lane : Value) (x_many : Value) (x_items : Value) (x_spare : Value) (x_tape : Value) (x_draft : Value) (x_tried : Value) (x_past : Value) (x_images : Value) (x_kept : Value) (x_trace : Value) (x_comes : Value) (x_standing : Value) (x_habit : Value) (v_status : Int32) (v_taped : Int32) (v_faultKind : Int32) (v_faultPlace : Int32) (v_at : Int32) (v_start : Int32) (v_token : Int32) (v_value : Int32) (v_acts : Int32) (v_traced : Int32) (v_livedMany : Int32) (v_now : Nat → Int32) (v_brought : Nat → Int64) (p0 : Int32) (post : Int64 → Prop) (hF : wpX12_meanOf p0 v_now v_brought post) : Cr l D cy miX12_meanOf rmX12_meanOf emL NP [.ref h_this, .int p0] [(h_this, .inr (11, [x_lane, x_many, x_items, x_spare, .int v_status, x_tape, .int v_taped, .int v_faultKind, .int v_faultPlace, .int v_at, .int v_start, .int v_token, .int v_value, .ref h_now, x_draft, x_tried, x_past, .int v_acts, x_images, x_kept, x_trace, .int v_traced, x_comes, x_standing, .ref h_brought, x_habit, .int v_livedMany])), (h_now, .inl (cy 0, 124, .inl v_now)), (h_brought, .inl (cy 1, 24, .inr (.inl v_brought)))] post := by
  refine Cr.of (by decide) (Nat.le_of_ble_eq_true rfl) ?_
  intro p e s m args below meth c ls Q C hQ hO hP hl
  obtain ⟨hx, hb, hr, hml, hown, hts, hK, hlk, hnm⟩ := id C
  have hb : c.code = cX12_meanOf := hb
  have hml : c.maxLocals = 6 := hml
  have hown : s.vm.findClass RX12 = some m.cls := hown
  have hl : lv_has ls 6 [(0, .ref h_this), (1, .int p0)] := hl
  have L_12 : ∀ (n_12 : Nat) (l1 : Int32) (l2 : Int32) (l3 : Int64) (l5 : Int32) (ls : Array Slot), lv_has ls 6 [(0, .ref h_this), (1, .int l1), (2, .int l2), (3, .long l3), (5, .int l5)] → wlX12_meanOf_12 v_now v_brought post n_12 l1 l2 l3 l5 → W p l e rmX12_meanOf s m args below meth c s.heap [] 0 0 Q (F0 m 12 ls []) := by
    intro n_12
    induction n_12 with
    | zero =>
      intro l1 l2 l3 l5 ls  hl hF
      simp only [wlX12_meanOf_12] at hF
    | succ n_12 ih_12 =>
      intro l1 l2 l3 l5 ls  hl hF
      unfold wlX12_meanOf_12 at hF
      refine lv_iload hx hb dX12_meanOf_12 (lv_at hl 4 rfl) ?_
      refine lv_iconst (v := 1) hx hb dX12_meanOf_14 (by decide) ?_
      refine lv_iload_n hx hb dX12_meanOf_15 rfl (lv_at hl 2 rfl) ?_
      refine lv_ishl hx hb dX12_meanOf_16 ?_
      refine lv_icmp_ge (tgt := 53) hx hb dX12_meanOf_17 (by decide) (fun c_ => ?_) (fun c_ => ?_)
      · have hF := hF.1 c_
        refine lv_lload_n hx hb dX12_meanOf_53 rfl (lv_at hl 3 rfl) ?_
        exact rr_l C hQ rfl hF dX12_meanOf_54
      · have hF := hF.2 c_
        refine lv_lload_n hx hb dX12_meanOf_20 rfl (lv_at hl 3 rfl) ?_
        refine lv_aload_n hx hb dX12_meanOf_21 rfl (lv_at hl 0 rfl) ?_
        refine va_get (D := D) (ci := 11) (v := .ref h_brought) (C := RX12) (T := TX12) (N := 27) hx hb hts inTX12 hown hK.1 hP 0 rfl rfl 24 (by decide) (hts _ t4_148) (fun _ h9 => h9) rfl dX12_meanOf_22 ?_
        refine lv_iconst (v := 3) hx hb dX12_meanOf_25 (by decide) ?_
        refine lv_iload hx hb dX12_meanOf_26 (lv_at hl 4 rfl) ?_
        refine lv_imul hx hb dX12_meanOf_28 ?_
        refine lv_iload_n hx hb dX12_meanOf_29 rfl (lv_at hl 1 rfl) ?_
        refine lv_iadd hx hb dX12_meanOf_30 ?_
        obtain ⟨hi1, hF⟩ := hF
        refine s_lald (j := (((3 * l5) + l1)).toNatClampNeg) hx hb hK.1 hP 2 1 rfl rfl hi1 rfl dX12_meanOf_31 ?_
        refine lv_iload_n hx hb dX12_meanOf_32 rfl (lv_at hl 2 rfl) ?_
        refine lv_iconst (v := 3) hx hb dX12_meanOf_33 (by decide) ?_
        refine lv_iload hx hb dX12_meanOf_34 (lv_at hl 4 rfl) ?_
        refine cS_r (As := [.int l5]) C mfX12_ones t5_113 t5_112 (ccX12_ones l D cy l5 _ hF) rfl rfl (hP.sub [] rfl) PR.np rfl hl.1 rfl (Nat.le_of_ble_eq_true rfl) dX12_meanOf_36 ⟨Nat.le_of_ble_eq_true rfl, Nat.le_of_ble_eq_true rfl⟩ ⟨Nat.le_of_ble_eq_true rfl, Nat.le_of_ble_eq_true rfl⟩ ?_
        intro r2 hF
        refine W.eq (g2 := F0 m 39 ls [.int r2, .int 3, .int l2, .long (v_brought ((((3 * l5) + l1)).toNatClampNeg)), .long l3]) rfl ?_
        refine lv_isub hx hb dX12_meanOf_39 ?_
        refine lv_imul hx hb dX12_meanOf_40 ?_
        refine cS_r (As := [.int (l2 * (3 - r2))]) C mfX12_power t5_145 t5_144 (ccX12_power l D cy (l2 * (3 - r2)) _ hF) rfl rfl (hP.sub [] rfl) PR.np rfl hl.1 rfl (Nat.le_of_ble_eq_true rfl) dX12_meanOf_41 ⟨Nat.le_of_ble_eq_true rfl, Nat.le_of_ble_eq_true rfl⟩ ⟨Nat.le_of_ble_eq_true rfl, Nat.le_of_ble_eq_true rfl⟩ ?_
        intro r3 hF
        refine W.eq (g2 := F0 m 44 ls [.long r3, .long (v_brought ((((3 * l5) + l1)).toNatClampNeg)), .long l3]) rfl ?_
        refine lv_lmul hx hb dX12_meanOf_44 ?_
        refine lv_ladd hx hb dX12_meanOf_45 ?_
        refine lv_lstore_n (lv' := [(3, .long (l3 + ((v_brought ((((3 * l5) + l1)).toNatClampNeg)) * r3))), (0, .ref h_this), (1, .int l1), (2, .int l2), (5, .int l5)]) hx hb dX12_meanOf_46 rfl hl (by decide) rfl (fun ls hl => ?_)
        refine lv_iinc (v := (l5 + 1)) (lv' := [(5, .int (l5 + 1)), (3, .long (l3 + ((v_brought ((((3 * l5) + l1)).toNatClampNeg)) * r3))), (0, .ref h_this), (1, .int l1), (2, .int l2)]) hx hb dX12_meanOf_47 hl (k := 4) rfl rfl (by decide) rfl (fun ls hl => ?_)
        refine lv_goto (tgt := 12) hx hb dX12_meanOf_50 (by decide) ?_
        exact ih_12 l1 l2 (l3 + ((v_brought ((((3 * l5) + l1)).toNatClampNeg)) * r3)) (l5 + 1) ls  (lv_sub hl [2, 3, 4, 1, 0] rfl) hF
  unfold wpX12_meanOf at hF
  refine lv_aload_n hx hb dX12_meanOf_0 rfl (lv_at hl 0 rfl) ?_
  refine va_get (D := D) (ci := 11) (v := .ref h_now) (C := RX12) (T := TX12) (N := 27) hx hb hts inTX12 hown hK.1 hP 0 rfl rfl 13 (by decide) (hts _ t4_137) (fun _ h9 => h9) rfl dX12_meanOf_1 ?_
  refine lv_iconst (v := 1) hx hb dX12_meanOf_4 (by decide) ?_
  refine s_iald (j := 1) hx hb hK.1 hP 1 0 rfl rfl (vi (by decide)) (by decide) dX12_meanOf_5 ?_
  refine lv_istore_n (lv' := [(2, .int (v_now 1)), (0, .ref h_this), (1, .int p0)]) hx hb dX12_meanOf_6 rfl hl (by decide) rfl (fun ls hl => ?_)
  refine lv_lconst (v := 0) hx hb dX12_meanOf_7 (by decide) ?_
  refine lv_lstore_n (lv' := [(3, .long 0), (2, .int (v_now 1)), (0, .ref h_this), (1, .int p0)]) hx hb dX12_meanOf_8 rfl hl (by decide) rfl (fun ls hl => ?_)
  refine lv_iconst (v := 0) hx hb dX12_meanOf_9 (by decide) ?_
  refine lv_istore (lv' := [(5, .int 0), (3, .long 0), (2, .int (v_now 1)), (0, .ref h_this), (1, .int p0)]) hx hb dX12_meanOf_10 hl (by decide) rfl (fun ls hl => ?_)
  exact L_12 fu p0 (v_now 1) 0 0 ls  (lv_sub hl [3, 4, 2, 1, 0] rfl) hF

def wlX12_notHabits_37 (v_lane : Nat → Int32) (v_many : Nat → Int32) (v_now : Nat → Int32) (v_items : Nat → Int32) (post : Int32 → Int32 → (Nat → Int32) → Prop) : Nat → Int32 → Int32 → Int32 → (Nat → Int32) → Prop
  | 0, _, _, _, _ => False
  | n + 1, l1, l2, w_status, w_habit => ((v_now 1) ≤ l2 → (post 0 w_status w_habit)) ∧ (¬ (v_now 1) ≤ l2 → (vp_in ((40 * l1) + l2) 320 ∧ (vp_in l2 3 ∧ (vp_in l2 3 ∧ (wpX12_in ((upd w_habit ((l2).toNatClampNeg) (v_items ((((40 * l1) + l2)).toNatClampNeg))) ((l2).toNatClampNeg)) 0 2 (fun r4 => (r4 = true → ((wlX12_notHabits_37 v_lane v_many v_now v_items post n) l1 (l2 + 1) w_status (upd w_habit ((l2).toNatClampNeg) (v_items ((((40 * l1) + l2)).toNatClampNeg))))) ∧ (r4 = false → (post (-1000001) w_status (upd w_habit ((l2).toNatClampNeg) (v_items ((((40 * l1) + l2)).toNatClampNeg)))))))))))
def wpX12_notHabits (p0 : Int32) (v_status : Int32) (v_lane : Nat → Int32) (v_many : Nat → Int32) (v_now : Nat → Int32) (v_habit : Nat → Int32) (v_items : Nat → Int32) (post : Int32 → Int32 → (Nat → Int32) → Prop) : Prop := wpX12_isMissing p0 v_lane (fun r1 => (r1 = false → (vp_in p0 8 ∧ (((v_now 1) ≤ (v_many ((p0).toNatClampNeg)) → (wlX12_notHabits_37 v_lane v_many v_now v_items post fu p0 0 v_status v_habit)) ∧ (¬ (v_now 1) ≤ (v_many ((p0).toNatClampNeg)) → (wpX12_found 2 v_status (fun r3 u4_status => post r3 u4_status v_habit)))))) ∧ (r1 = true → (wpX12_found 1 v_status (fun r5 u6_status => post r5 u6_status v_habit))))
abbrev miX12_notHabits : MI := (yX12_notHabits, cX12_notHabits, 3, (some .int))
theorem mfX12_notHabits : MF miX12_notHabits 1 := ⟨t5_132, t1_8, by decide +kernel⟩
abbrev rmX12_notHabits : Room := { frames := 1, cells := 0, slots := 0, locals := 22 }
set_option maxHeartbeats 4000000 in
set_option maxRecDepth 100000 in
theorem ccX12_notHabits (l : Launch) (D : va_G) (cy : Nat → ClassId) (h_this : Nat) (h_lane : Nat) (h_many : Nat) (h_now : Nat) (h_habit : Nat) (h_items : Nat) (x_spare : Value) (x_tape : Value) (x_draft : Value) (x_tried : Value) (x_past : Value) (x_images : Value) (x_kept : Value) (x_trace : Value) (x_comes : Value) (x_standing : Value) (x_brought : Value) (v_status : Int32) (v_taped : Int32) (v_faultKind : Int32) (v_faultPlace : Int32) (v_at : Int32) (v_start : Int32) (v_token : Int32) (v_value : Int32) (v_acts : Int32) (v_traced : Int32) (v_livedMany : Int32) (v_lane : Nat → Int32) (v_many : Nat → Int32) (v_now : Nat → Int32) (v_habit : Nat → Int32) (v_items : Nat → Int32) (p0 : Int32) (post : Int32 → Int32 → (Nat → Int32) → Prop) (hF : wpX12_notHabits p0 v_status v_lane v_many v_now v_habit v_items post) : Ct l D cy miX12_notHabits rmX12_notHabits emI NP [.ref h_this, .int p0] [(h_this, .inr (11, [.ref h_lane, .ref h_many, .ref h_items, x_spare, .int v_status, x_tape, .int v_taped, .int v_faultKind, .int v_faultPlace, .int v_at, .int v_start, .int v_token, .int v_value, .ref h_now, x_draft, x_tried, x_past, .int v_acts, x_images, x_kept, x_trace, .int v_traced, x_comes, x_standing, x_brought, .ref h_habit, .int v_livedMany])), (h_lane, .inl (cy 0, 8, .inl v_lane)), (h_many, .inl (cy 0, 8, .inl v_many)), (h_now, .inl (cy 0, 124, .inl v_now)), (h_habit, .inl (cy 0, 3, .inl v_habit)), (h_items, .inl (cy 0, 320, .inl v_items))] (fun r w1 => ∃ (w_status : Int32) (w_habit : Nat → Int32), w1 = [(h_this, .inr (11, [.ref h_lane, .ref h_many, .ref h_items, x_spare, .int w_status, x_tape, .int v_taped, .int v_faultKind, .int v_faultPlace, .int v_at, .int v_start, .int v_token, .int v_value, .ref h_now, x_draft, x_tried, x_past, .int v_acts, x_images, x_kept, x_trace, .int v_traced, x_comes, x_standing, x_brought, .ref h_habit, .int v_livedMany])), (h_lane, .inl (cy 0, 8, .inl v_lane)), (h_many, .inl (cy 0, 8, .inl v_many)), (h_now, .inl (cy 0, 124, .inl v_now)), (h_habit, .inl (cy 0, 3, .inl w_habit)), (h_items, .inl (cy 0, 320, .inl v_items))] ∧ post r w_status w_habit) := by
  refine Ct.of (by decide) (Nat.le_of_ble_eq_true rfl) ?_
  intro p e s m args below meth c A ls Q C hQ hA hI hP hD hS hl
  obtain ⟨hx, hb, hr, hml, hown, hts, hK, hlk, hnm⟩ := id C
  have hb : c.code = cX12_notHabits := hb
  have hml : c.maxLocals = 3 := hml
  have hown : s.vm.findClass RX12 = some m.cls := hown
  have hl : lv_has ls 3 [(0, .ref h_this), (1, .int p0)] := hl
  have L_37 : ∀ (n_37 : Nat) (l1 : Int32) (l2 : Int32) (w_status : Int32) (w_habit : Nat → Int32) (H : Heap) (locs : List Loc) (ls : Array Slot), va_P D CL [(h_this, .inr (11, [.ref h_lane, .ref h_many, .ref h_items, x_spare, .int w_status, x_tape, .int v_taped, .int v_faultKind, .int v_faultPlace, .int v_at, .int v_start, .int v_token, .int v_value, .ref h_now, x_draft, x_tried, x_past, .int v_acts, x_images, x_kept, x_trace, .int v_traced, x_comes, x_standing, x_brought, .ref h_habit, .int v_livedMany])), (h_lane, .inl (cy 0, 8, .inl v_lane)), (h_many, .inl (cy 0, 8, .inl v_many)), (h_now, .inl (cy 0, 124, .inl v_now)), (h_habit, .inl (cy 0, 3, .inl w_habit)), (h_items, .inl (cy 0, 320, .inl v_items))] H → va_D A [(h_this, .inr (11, [.ref h_lane, .ref h_many, .ref h_items, x_spare, .int w_status, x_tape, .int v_taped, .int v_faultKind, .int v_faultPlace, .int v_at, .int v_start, .int v_token, .int v_value, .ref h_now, x_draft, x_tried, x_past, .int v_acts, x_images, x_kept, x_trace, .int v_traced, x_comes, x_standing, x_brought, .ref h_habit, .int v_livedMany])), (h_lane, .inl (cy 0, 8, .inl v_lane)), (h_many, .inl (cy 0, 8, .inl v_many)), (h_now, .inl (cy 0, 124, .inl v_now)), (h_habit, .inl (cy 0, 3, .inl w_habit)), (h_items, .inl (cy 0, 320, .inl v_items))] → va_S A s.heap H locs → lv_has ls 3 [(0, .ref h_this), (1, .int l1), (2, .int l2)] → wlX12_notHabits_37 v_lane v_many v_now v_items post n_37 l1 l2 w_status w_habit → W p l e rmX12_notHabits s m args below meth c H locs 0 0 Q (F0 m 37 ls []) := by
    intro n_37
    induction n_37 with
    | zero =>
      intro l1 l2 w_status w_habit H locs ls  hP hD hS hl hF
      simp only [wlX12_notHabits_37] at hF
    | succ n_37 ih_37 =>
      intro l1 l2 w_status w_habit H locs ls  hP hD hS hl hF
      unfold wlX12_notHabits_37 at hF
      refine lv_iload_n hx hb dX12_notHabits_37 rfl (lv_at hl 2 rfl) ?_
      refine lv_aload_n hx hb dX12_notHabits_38 rfl (lv_at hl 0 rfl) ?_
      refine va_get (D := D) (ci := 11) (v := .ref h_now) (C := RX12) (T := TX12) (N := 27) hx hb hts inTX12 hown hK.1 hP 0 rfl rfl 13 (by decide) (hts _ t4_137) (fun _ h9 => h9) rfl dX12_notHabits_39 ?_
      refine lv_iconst (v := 1) hx hb dX12_notHabits_42 (by decide) ?_
      refine s_iald (j := 1) hx hb hK.1 hP 3 0 rfl rfl (vi (by decide)) (by decide) dX12_notHabits_43 ?_
      refine lv_icmp_ge (tgt := 87) hx hb dX12_notHabits_44 (by decide) (fun c_ => ?_) (fun c_ => ?_)
      · have hF := hF.1 c_
        refine lv_iconst (v := 0) hx hb dX12_notHabits_87 (by decide) ?_
        exact rt_i C hQ rfl hP hD hS ⟨w_status, w_habit, rfl, hF⟩ dX12_notHabits_88
      · have hF := hF.2 c_
        refine lv_aload_n hx hb dX12_notHabits_47 rfl (lv_at hl 0 rfl) ?_
        refine va_get (D := D) (ci := 11) (v := .ref h_habit) (C := RX12) (T := TX12) (N := 27) hx hb hts inTX12 hown hK.1 hP 0 rfl rfl 25 (by decide) (hts _ t4_149) (fun _ h9 => h9) rfl dX12_notHabits_48 ?_
        refine lv_iload_n hx hb dX12_notHabits_51 rfl (lv_at hl 2 rfl) ?_
        refine lv_aload_n hx hb dX12_notHabits_52 rfl (lv_at hl 0 rfl) ?_
        refine va_get (D := D) (ci := 11) (v := .ref h_items) (C := RX12) (T := TX12) (N := 27) hx hb hts inTX12 hown hK.1 hP 0 rfl rfl 2 (by decide) (hts _ t4_126) (fun _ h9 => h9) rfl dX12_notHabits_53 ?_
        refine lv_bipush (v := 40) hx hb dX12_notHabits_56 (by decide) ?_
        refine lv_iload_n hx hb dX12_notHabits_58 rfl (lv_at hl 1 rfl) ?_
        refine lv_imul hx hb dX12_notHabits_59 ?_
        refine lv_iload_n hx hb dX12_notHabits_60 rfl (lv_at hl 2 rfl) ?_
        refine lv_iadd hx hb dX12_notHabits_61 ?_
        obtain ⟨hi1, hF⟩ := hF
        refine s_iald (j := (((40 * l1) + l2)).toNatClampNeg) hx hb hK.1 hP 5 0 rfl rfl hi1 rfl dX12_notHabits_62 ?_
        obtain ⟨hi2, hF⟩ := hF
        refine s_iast (j := (l2).toNatClampNeg) hx hb hK.1 hP hD hS 4 0 rfl rfl hi2 rfl dX12_notHabits_63 (fun H locs hP hD hS => ?_)
        have hP : va_P D CL [(h_this, .inr (11, [.ref h_lane, .ref h_many, .ref h_items, x_spare, .int w_status, x_tape, .int v_taped, .int v_faultKind, .int v_faultPlace, .int v_at, .int v_start, .int v_token, .int v_value, .ref h_now, x_draft, x_tried, x_past, .int v_acts, x_images, x_kept, x_trace, .int v_traced, x_comes, x_standing, x_brought, .ref h_habit, .int v_livedMany])), (h_lane, .inl (cy 0, 8, .inl v_lane)), (h_many, .inl (cy 0, 8, .inl v_many)), (h_now, .inl (cy 0, 124, .inl v_now)), (h_habit, .inl (cy 0, 3, .inl (upd w_habit ((l2).toNatClampNeg) (v_items ((((40 * l1) + l2)).toNatClampNeg))))), (h_items, .inl (cy 0, 320, .inl v_items))] H := hP
        have hD : va_D A [(h_this, .inr (11, [.ref h_lane, .ref h_many, .ref h_items, x_spare, .int w_status, x_tape, .int v_taped, .int v_faultKind, .int v_faultPlace, .int v_at, .int v_start, .int v_token, .int v_value, .ref h_now, x_draft, x_tried, x_past, .int v_acts, x_images, x_kept, x_trace, .int v_traced, x_comes, x_standing, x_brought, .ref h_habit, .int v_livedMany])), (h_lane, .inl (cy 0, 8, .inl v_lane)), (h_many, .inl (cy 0, 8, .inl v_many)), (h_now, .inl (cy 0, 124, .inl v_now)), (h_habit, .inl (cy 0, 3, .inl (upd w_habit ((l2).toNatClampNeg) (v_items ((((40 * l1) + l2)).toNatClampNeg))))), (h_items, .inl (cy 0, 320, .inl v_items))] := hD
        refine lv_aload_n hx hb dX12_notHabits_64 rfl (lv_at hl 0 rfl) ?_
        refine va_get (D := D) (ci := 11) (v := .ref h_habit) (C := RX12) (T := TX12) (N := 27) hx hb hts inTX12 hown hK.1 hP 0 rfl rfl 25 (by decide) (hts _ t4_149) (fun _ h9 => h9) rfl dX12_notHabits_65 ?_
        refine lv_iload_n hx hb dX12_notHabits_68 rfl (lv_at hl 2 rfl) ?_
        obtain ⟨hi3, hF⟩ := hF
        refine s_iald (j := (l2).toNatClampNeg) hx hb hK.1 hP 4 0 rfl rfl hi3 rfl dX12_notHabits_69 ?_
        refine lv_iconst (v := 0) hx hb dX12_notHabits_70 (by decide) ?_
        refine lv_iconst (v := 2) hx hb dX12_notHabits_71 (by decide) ?_
        refine cS_r (As := [.int ((upd w_habit ((l2).toNatClampNeg) (v_items ((((40 * l1) + l2)).toNatClampNeg))) ((l2).toNatClampNeg)), .int 0, .int 2]) C mfX12_in t4_215 t4_214 (ccX12_in l D cy ((upd w_habit ((l2).toNatClampNeg) (v_items ((((40 * l1) + l2)).toNatClampNeg))) ((l2).toNatClampNeg)) 0 2 _ hF) rfl rfl (hP.sub [] rfl) PR.np rfl hl.1 rfl (Nat.le_of_ble_eq_true rfl) dX12_notHabits_72 ⟨Nat.le_of_ble_eq_true rfl, Nat.le_of_ble_eq_true rfl⟩ ⟨Nat.le_of_ble_eq_true rfl, Nat.le_of_ble_eq_true rfl⟩ ?_
        intro r4 hF
        refine W.eq (g2 := F0 m 75 ls [.int (bz r4)]) rfl ?_
        refine lv_if_ne (tgt := 81) hx hb dX12_notHabits_75 (by decide) (fun c_ => ?_) (fun c_ => ?_)
        · have hF := hF.1 ((bz_1 _).mp c_)
          refine lv_iinc (v := (l2 + 1)) (lv' := [(2, .int (l2 + 1)), (0, .ref h_this), (1, .int l1)]) hx hb dX12_notHabits_81 hl (k := 2) rfl rfl (by decide) rfl (fun ls hl => ?_)
          refine lv_goto (tgt := 37) hx hb dX12_notHabits_84 (by decide) ?_
          exact ih_37 l1 (l2 + 1) w_status (upd w_habit ((l2).toNatClampNeg) (v_items ((((40 * l1) + l2)).toNatClampNeg))) _ _ ls  hP hD hS (lv_sub hl [1, 2, 0] rfl) hF
        · have hF := hF.2 ((bz_0 _).mp c_)
          refine lv_ldc hx hb hown (hts _ t4_217) dX12_notHabits_78 ?_
          exact rt_i C hQ rfl hP hD hS ⟨w_status, (upd w_habit ((l2).toNatClampNeg) (v_items ((((40 * l1) + l2)).toNatClampNeg))), rfl, hF⟩ dX12_notHabits_80
  unfold wpX12_notHabits at hF
  refine lv_aload_n hx hb dX12_notHabits_0 rfl (lv_at hl 0 rfl) ?_
  refine lv_iload_n hx hb dX12_notHabits_1 rfl (lv_at hl 1 rfl) ?_
  refine cV_r (As := [.int p0]) C mfX12_isMissing t4_233 ts_16 t4_231 (ccX12_isMissing l D cy h_this h_lane (.ref h_many) (.ref h_items) x_spare x_tape (.ref h_now) x_draft x_tried x_past x_images x_kept x_trace x_comes x_standing x_brought (.ref h_habit) v_status v_taped v_faultKind v_faultPlace v_at v_start v_token v_value v_acts v_traced v_livedMany v_lane p0 _ hF) rfl rfl (hP.sub [0, 1] rfl) PR.np hP 0 11 rfl rfl rfl rfl hl.1 rfl (Nat.le_of_ble_eq_true rfl) dX12_notHabits_2 ⟨Nat.le_of_ble_eq_true rfl, Nat.le_of_ble_eq_true rfl⟩ ⟨Nat.le_of_ble_eq_true rfl, Nat.le_of_ble_eq_true rfl⟩ ?_
  intro r1 hF
  refine W.eq (g2 := F0 m 5 ls [.int (bz r1)]) rfl ?_
  refine lv_if_eq (tgt := 14) hx hb dX12_notHabits_5 (by decide) (fun c_ => ?_) (fun c_ => ?_)
  · have hF := hF.1 ((bz_0 _).mp c_)
    refine lv_aload_n hx hb dX12_notHabits_14 rfl (lv_at hl 0 rfl) ?_
    refine va_get (D := D) (ci := 11) (v := .ref h_many) (C := RX12) (T := TX12) (N := 27) hx hb hts inTX12 hown hK.1 hP 0 rfl rfl 1 (by decide) (hts _ t4_125) (fun _ h9 => h9) rfl dX12_notHabits_15 ?_
    refine lv_iload_n hx hb dX12_notHabits_18 rfl (lv_at hl 1 rfl) ?_
    obtain ⟨hi2, hF⟩ := hF
    refine s_iald (j := (p0).toNatClampNeg) hx hb hK.1 hP 2 0 rfl rfl hi2 rfl dX12_notHabits_19 ?_
    refine lv_aload_n hx hb dX12_notHabits_20 rfl (lv_at hl 0 rfl) ?_
    refine va_get (D := D) (ci := 11) (v := .ref h_now) (C := RX12) (T := TX12) (N := 27) hx hb hts inTX12 hown hK.1 hP 0 rfl rfl 13 (by decide) (hts _ t4_137) (fun _ h9 => h9) rfl dX12_notHabits_21 ?_
    refine lv_iconst (v := 1) hx hb dX12_notHabits_24 (by decide) ?_
    refine s_iald (j := 1) hx hb hK.1 hP 3 0 rfl rfl (vi (by decide)) (by decide) dX12_notHabits_25 ?_
    refine lv_icmp_ge (tgt := 35) hx hb dX12_notHabits_26 (by decide) (fun c_ => ?_) (fun c_ => ?_)
    · have hF := hF.1 c_
      refine lv_iconst (v := 0) hx hb dX12_notHabits_35 (by decide) ?_
      refine lv_istore_n (lv' := [(2, .int 0), (0, .ref h_this), (1, .int p0)]) hx hb dX12_notHabits_36 rfl hl (by decide) rfl (fun ls hl => ?_)
      exact L_37 fu p0 0 v_status v_habit _ _ ls  hP hD hS (lv_sub hl [1, 2, 0] rfl) hF
    · have hF := hF.2 c_
      refine lv_aload_n hx hb dX12_notHabits_29 rfl (lv_at hl 0 rfl) ?_
      refine lv_iconst (v := 2) hx hb dX12_notHabits_30 (by decide) ?_
      refine cV_t (As := [.int 2]) (wr := [(h_lane, .inl (cy 0, 8, .inl v_lane)), (h_many, .inl (cy 0, 8, .inl v_many)), (h_now, .inl (cy 0, 124, .inl v_now)), (h_habit, .inl (cy 0, 3, .inl v_habit)), (h_items, .inl (cy 0, 320, .inl v_items))]) C hA hP hD hS mfX12_found t4_220 ts_14 t4_218 (ccX12_found l D cy h_this (.ref h_lane) (.ref h_many) (.ref h_items) x_spare x_tape (.ref h_now) x_draft x_tried x_past x_images x_kept x_trace x_comes x_standing x_brought (.ref h_habit) v_status v_taped v_faultKind v_faultPlace v_at v_start v_token v_value v_acts v_traced v_livedMany 2 _ hF) [0] [1, 2, 3, 4, 5] rfl rfl (by decide) (by decide) (by decide) PO.np 0 11 rfl rfl rfl rfl hl.1 rfl (Nat.le_of_ble_eq_true rfl) dX12_notHabits_31 ⟨Nat.le_of_ble_eq_true rfl, Nat.le_of_ble_eq_true rfl⟩ ⟨Nat.le_of_ble_eq_true rfl, Nat.le_of_ble_eq_true rfl⟩ ?_
      rintro r3 w1 H locs ⟨u4_status, rfl, hF⟩ hP hD hS
      have hP : va_P D CL [(h_lane, .inl (cy 0, 8, .inl v_lane)), (h_many, .inl (cy 0, 8, .inl v_many)), (h_now, .inl (cy 0, 124, .inl v_now)), (h_habit, .inl (cy 0, 3, .inl v_habit)), (h_items, .inl (cy 0, 320, .inl v_items)), (h_this, .inr (11, [.ref h_lane, .ref h_many, .ref h_items, x_spare, .int u4_status, x_tape, .int v_taped, .int v_faultKind, .int v_faultPlace, .int v_at, .int v_start, .int v_token, .int v_value, .ref h_now, x_draft, x_tried, x_past, .int v_acts, x_images, x_kept, x_trace, .int v_traced, x_comes, x_standing, x_brought, .ref h_habit, .int v_livedMany]))] H := hP
      have hD : va_D A [(h_lane, .inl (cy 0, 8, .inl v_lane)), (h_many, .inl (cy 0, 8, .inl v_many)), (h_now, .inl (cy 0, 124, .inl v_now)), (h_habit, .inl (cy 0, 3, .inl v_habit)), (h_items, .inl (cy 0, 320, .inl v_items)), (h_this, .inr (11, [.ref h_lane, .ref h_many, .ref h_items, x_spare, .int u4_status, x_tape, .int v_taped, .int v_faultKind, .int v_faultPlace, .int v_at, .int v_start, .int v_token, .int v_value, .ref h_now, x_draft, x_tried, x_past, .int v_acts, x_images, x_kept, x_trace, .int v_traced, x_comes, x_standing, x_brought, .ref h_habit, .int v_livedMany]))] := hD
      refine W.eq (g2 := F0 m 34 ls [.int r3]) rfl ?_
      have hP : va_P D CL [(h_this, .inr (11, [.ref h_lane, .ref h_many, .ref h_items, x_spare, .int u4_status, x_tape, .int v_taped, .int v_faultKind, .int v_faultPlace, .int v_at, .int v_start, .int v_token, .int v_value, .ref h_now, x_draft, x_tried, x_past, .int v_acts, x_images, x_kept, x_trace, .int v_traced, x_comes, x_standing, x_brought, .ref h_habit, .int v_livedMany])), (h_lane, .inl (cy 0, 8, .inl v_lane)), (h_many, .inl (cy 0, 8, .inl v_many)), (h_now, .inl (cy 0, 124, .inl v_now)), (h_habit, .inl (cy 0, 3, .inl v_habit)), (h_items, .inl (cy 0, 320, .inl v_items))] H := (hP.sub [5, 0, 1, 2, 3, 4] rfl)
      have hD : va_D A [(h_this, .inr (11, [.ref h_lane, .ref h_many, .ref h_items, x_spare, .int u4_status, x_tape, .int v_taped, .int v_faultKind, .int v_faultPlace, .int v_at, .int v_start, .int v_token, .int v_value, .ref h_now, x_draft, x_tried, x_past, .int v_acts, x_images, x_kept, x_trace, .int v_traced, x_comes, x_standing, x_brought, .ref h_habit, .int v_livedMany])), (h_lane, .inl (cy 0, 8, .inl v_lane)), (h_many, .inl (cy 0, 8, .inl v_many)), (h_now, .inl (cy 0, 124, .inl v_now)), (h_habit, .inl (cy 0, 3, .inl v_habit)), (h_items, .inl (cy 0, 320, .inl v_items))] := (hD.sub [5, 0, 1, 2, 3, 4] (by decide) rfl)
      exact rt_i C hQ rfl hP hD hS ⟨u4_status, v_habit, rfl, hF⟩ dX12_notHabits_34
  · have hF := hF.2 ((bz_1 _).mp c_)
    refine lv_aload_n hx hb dX12_notHabits_8 rfl (lv_at hl 0 rfl) ?_
    refine lv_iconst (v := 1) hx hb dX12_notHabits_9 (by decide) ?_
    refine cV_t (As := [.int 1]) (wr := [(h_lane, .inl (cy 0, 8, .inl v_lane)), (h_many, .inl (cy 0, 8, .inl v_many)), (h_now, .inl (cy 0, 124, .inl v_now)), (h_habit, .inl (cy 0, 3, .inl v_habit)), (h_items, .inl (cy 0, 320, .inl v_items))]) C hA hP hD hS mfX12_found t4_220 ts_14 t4_218 (ccX12_found l D cy h_this (.ref h_lane) (.ref h_many) (.ref h_items) x_spare x_tape (.ref h_now) x_draft x_tried x_past x_images x_kept x_trace x_comes x_standing x_brought (.ref h_habit) v_status v_taped v_faultKind v_faultPlace v_at v_start v_token v_value v_acts v_traced v_livedMany 1 _ hF) [0] [1, 2, 3, 4, 5] rfl rfl (by decide) (by decide) (by decide) PO.np 0 11 rfl rfl rfl rfl hl.1 rfl (Nat.le_of_ble_eq_true rfl) dX12_notHabits_10 ⟨Nat.le_of_ble_eq_true rfl, Nat.le_of_ble_eq_true rfl⟩ ⟨Nat.le_of_ble_eq_true rfl, Nat.le_of_ble_eq_true rfl⟩ ?_
    rintro r5 w1 H locs ⟨u6_status, rfl, hF⟩ hP hD hS
    have hP : va_P D CL [(h_lane, .inl (cy 0, 8, .inl v_lane)), (h_many, .inl (cy 0, 8, .inl v_many)), (h_now, .inl (cy 0, 124, .inl v_now)), (h_habit, .inl (cy 0, 3, .inl v_habit)), (h_items, .inl (cy 0, 320, .inl v_items)), (h_this, .inr (11, [.ref h_lane, .ref h_many, .ref h_items, x_spare, .int u6_status, x_tape, .int v_taped, .int v_faultKind, .int v_faultPlace, .int v_at, .int v_start, .int v_token, .int v_value, .ref h_now, x_draft, x_tried, x_past, .int v_acts, x_images, x_kept, x_trace, .int v_traced, x_comes, x_standing, x_brought, .ref h_habit, .int v_livedMany]))] H := hP
    have hD : va_D A [(h_lane, .inl (cy 0, 8, .inl v_lane)), (h_many, .inl (cy 0, 8, .inl v_many)), (h_now, .inl (cy 0, 124, .inl v_now)), (h_habit, .inl (cy 0, 3, .inl v_habit)), (h_items, .inl (cy 0, 320, .inl v_items)), (h_this, .inr (11, [.ref h_lane, .ref h_many, .ref h_items, x_spare, .int u6_status, x_tape, .int v_taped, .int v_faultKind, .int v_faultPlace, .int v_at, .int v_start, .int v_token, .int v_value, .ref h_now, x_draft, x_tried, x_past, .int v_acts, x_images, x_kept, x_trace, .int v_traced, x_comes, x_standing, x_brought, .ref h_habit, .int v_livedMany]))] := hD
    refine W.eq (g2 := F0 m 13 ls [.int r5]) rfl ?_
    have hP : va_P D CL [(h_this, .inr (11, [.ref h_lane, .ref h_many, .ref h_items, x_spare, .int u6_status, x_tape, .int v_taped, .int v_faultKind, .int v_faultPlace, .int v_at, .int v_start, .int v_token, .int v_value, .ref h_now, x_draft, x_tried, x_past, .int v_acts, x_images, x_kept, x_trace, .int v_traced, x_comes, x_standing, x_brought, .ref h_habit, .int v_livedMany])), (h_lane, .inl (cy 0, 8, .inl v_lane)), (h_many, .inl (cy 0, 8, .inl v_many)), (h_now, .inl (cy 0, 124, .inl v_now)), (h_habit, .inl (cy 0, 3, .inl v_habit)), (h_items, .inl (cy 0, 320, .inl v_items))] H := (hP.sub [5, 0, 1, 2, 3, 4] rfl)
    have hD : va_D A [(h_this, .inr (11, [.ref h_lane, .ref h_many, .ref h_items, x_spare, .int u6_status, x_tape, .int v_taped, .int v_faultKind, .int v_faultPlace, .int v_at, .int v_start, .int v_token, .int v_value, .ref h_now, x_draft, x_tried, x_past, .int v_acts, x_images, x_kept, x_trace, .int v_traced, x_comes, x_standing, x_brought, .ref h_habit, .int v_livedMany])), (h_lane, .inl (cy 0, 8, .inl v_lane)), (h_many, .inl (cy 0, 8, .inl v_many)), (h_now, .inl (cy 0, 124, .inl v_now)), (h_habit, .inl (cy 0, 3, .inl v_habit)), (h_items, .inl (cy 0, 320, .inl v_items))] := (hD.sub [5, 0, 1, 2, 3, 4] (by decide) rfl)
    exact rt_i C hQ rfl hP hD hS ⟨u6_status, v_habit, rfl, hF⟩ dX12_notHabits_13

def wjX12_lived_93 (v_now : Nat → Int32) (v_lane : Nat → Int32) (v_many : Nat → Int32) (v_items : Nat → Int32) (post : Int64 → Int32 → (Nat → Int32) → (Nat → Int64) → (Nat → Int64) → (Nat → Int64) → Prop) (K_62 : Int32 → Bool → Int64 → Int32 → Int32 → (Nat → Int32) → (Nat → Int64) → (Nat → Int64) → (Nat → Int64) → Prop) (l2 : Int32) (l3 : Bool) (l7 : Int32) (k0 : Int64) (k1 : Int64) (w_status : Int32) (w_habit : Nat → Int32) (w_comes : Nat → Int64) (w_standing : Nat → Int64) (w_brought : Nat → Int64) : Prop := K_62 l2 l3 (k1 + k0) (l7 + 1) w_status w_habit w_comes w_standing w_brought
def wlX12_lived_62 (v_now : Nat → Int32) (v_lane : Nat → Int32) (v_many : Nat → Int32) (v_items : Nat → Int32) (post : Int64 → Int32 → (Nat → Int32) → (Nat → Int64) → (Nat → Int64) → (Nat → Int64) → Prop) : Nat → Int32 → Bool → Int64 → Int32 → Int32 → (Nat → Int32) → (Nat → Int64) → (Nat → Int64) → (Nat → Int64) → Prop
  | 0, _, _, _, _, _, _, _, _, _ => False
  | n + 1, l2, l3, l5, l7, w_status, w_habit, w_comes, w_standing, w_brought => (8 ≤ l7 → (wpX12_power ((v_now 1) * l2) (fun r1 => wpX12_tells l5 r1 l3 (fun r2 => post r2 w_status w_habit w_comes w_standing w_brought)))) ∧ (¬ 8 ≤ l7 → (wpX12_ones l7 (fun r3 => (¬ r3 = (l2 - 1) → (wjX12_lived_93 v_now v_lane v_many v_items post (wlX12_lived_62 v_now v_lane v_many v_items post n) l2 l3 l7 0 l5 w_status w_habit w_comes w_standing w_brought)) ∧ (r3 = (l2 - 1) → (vp_in l7 8 ∧ (wjX12_lived_93 v_now v_lane v_many v_items post (wlX12_lived_62 v_now v_lane v_many v_items post n) l2 l3 l7 (w_standing ((l7).toNatClampNeg)) l5 w_status w_habit w_comes w_standing w_brought))))))
def wpX12_lived (p0 : Int32) (p1 : Int32) (p2 : Bool) (v_status : Int32) (v_now : Nat → Int32) (v_lane : Nat → Int32) (v_many : Nat → Int32) (v_habit : Nat → Int32) (v_items : Nat → Int32) (v_comes : Nat → Int64) (v_standing : Nat → Int64) (v_brought : Nat → Int64) (post : Int64 → Int32 → (Nat → Int32) → (Nat → Int64) → (Nat → Int64) → (Nat → Int64) → Prop) : Prop := wpX12_isVillage v_now (fun r1 => (r1 = true → (wpX12_isRow p0 (fun r2 => (r2 = false → (post (-1000001) v_status v_habit v_comes v_standing v_brought)) ∧ (r2 = true → (wpX12_in p1 1 4 (fun r3 => (r3 = true → (wpX12_notHabits p0 v_status v_lane v_many v_now v_habit v_items (fun r4 u5_status u6_habit => (r4 = 0 → (wpX12_lays v_now v_comes v_standing u6_habit v_brought (fun _ u8_comes u9_standing u10_brought => wlX12_lived_62 v_now v_lane v_many v_items post fu p1 p2 0 0 0 u6_habit u8_comes u9_standing u10_brought))) ∧ (¬ r4 = 0 → (post ((r4).toInt64) u5_status u6_habit v_comes v_standing v_brought))))) ∧ (r3 = false → (post (-1000001) v_status v_habit v_comes v_standing v_brought)))))))) ∧ (r1 = false → (post (-1000002) v_status v_habit v_comes v_standing v_brought)))
abbrev miX12_lived : MI := (yX12_lived, cX12_lived, 8, (some .long))
theorem mfX12_lived : MF miX12_lived 3 := ⟨t5_126, t1_8, by decide +kernel⟩
abbrev rmX12_lived : Room := { frames := 4, cells := 0, slots := 0, locals := 98 }
set_option maxHeartbeats 4000000 in
set_option maxRecDepth 100000 in
theorem ccX12_lived (l : Launch) (D : va_G) (cy : Nat → ClassId) (h_this : Nat) (h_now : Nat) (h_lane : Nat) (h_many : Nat) (h_habit : Nat) (h_items : Nat) (h_comes : Nat) (h_standing : Nat) (h_brought : Nat) (x_spare : Value) (x_tape : Value) (x_draft : Value) (x_tried : Value) (x_past : Value) (x_images : Value) (x_kept : Value) (x_trace : Value) (v_status : Int32) (v_taped : Int32) (v_faultKind : Int32) (v_faultPlace : Int32) (v_at : Int32) (v_start : Int32) (v_token : Int32) (v_value : Int32) (v_acts : Int32) (v_traced : Int32) (v_livedMany : Int32) (v_now : Nat → Int32) (v_lane : Nat → Int32) (v_many : Nat → Int32) (v_habit : Nat → Int32) (v_items : Nat → Int32) (v_comes : Nat → Int64) (v_standing : Nat → Int64) (v_brought : Nat → Int64) (p0 : Int32) (p1 : Int32) (p2 : Bool) (post : Int64 → Int32 → (Nat → Int32) → (Nat → Int64) → (Nat → Int64) → (Nat → Int64) → Prop) (hF : wpX12_lived p0 p1 p2 v_status v_now v_lane v_many v_habit v_items v_comes v_standing v_brought post) : Ct l D cy miX12_lived rmX12_lived emL NP [.ref h_this, .int p0, .int p1, .int (bz p2)] [(h_this, .inr (11, [.ref h_lane, .ref h_many, .ref h_items, x_spare, .int v_status, x_tape, .int v_taped, .int v_faultKind, .int v_faultPlace, .int v_at, .int v_start, .int v_token, .int v_value, .ref h_now, x_draft, x_tried, x_past, .int v_acts, x_images, x_kept, x_trace, .int v_traced, .ref h_comes, .ref h_standing, .ref h_brought, .ref h_habit, .int v_livedMany])), (h_now, .inl (cy 0, 124, .inl v_now)), (h_lane, .inl (cy 0, 8, .inl v_lane)), (h_many, .inl (cy 0, 8, .inl v_many)), (h_habit, .inl (cy 0, 3, .inl v_habit)), (h_items, .inl (cy 0, 320, .inl v_items)), (h_comes, .inl (cy 1, 8, .inr (.inl v_comes))), (h_standing, .inl (cy 1, 8, .inr (.inl v_standing))), (h_brought, .inl (cy 1, 24, .inr (.inl v_brought)))] (fun r w1 => ∃ (w_status : Int32) (w_habit : Nat → Int32) (w_comes : Nat → Int64) (w_standing : Nat → Int64) (w_brought : Nat → Int64), w1 = [(h_this, .inr (11, [.ref h_lane, .ref h_many, .ref h_items, x_spare, .int w_status, x_tape, .int v_taped, .int v_faultKind, .int v_faultPlace, .int v_at, .int v_start, .int v_token, .int v_value, .ref h_now, x_draft, x_tried, x_past, .int v_acts, x_images, x_kept, x_trace, .int v_traced, .ref h_comes, .ref h_standing, .ref h_brought, .ref h_habit, .int v_livedMany])), (h_now, .inl (cy 0, 124, .inl v_now)), (h_lane, .inl (cy 0, 8, .inl v_lane)), (h_many, .inl (cy 0, 8, .inl v_many)), (h_habit, .inl (cy 0, 3, .inl w_habit)), (h_items, .inl (cy 0, 320, .inl v_items)), (h_comes, .inl (cy 1, 8, .inr (.inl w_comes))), (h_standing, .inl (cy 1, 8, .inr (.inl w_standing))), (h_brought, .inl (cy 1, 24, .inr (.inl w_brought)))] ∧ post r w_status w_habit w_comes w_standing w_brought) := by
  refine Ct.of (by decide) (Nat.le_of_ble_eq_true rfl) ?_
  intro p e s m args below meth c A ls Q C hQ hA hI hP hD hS hl
  obtain ⟨hx, hb, hr, hml, hown, hts, hK, hlk, hnm⟩ := id C
  have hb : c.code = cX12_lived := hb
  have hml : c.maxLocals = 8 := hml
  have hown : s.vm.findClass RX12 = some m.cls := hown
  have hl : lv_has ls 8 [(0, .ref h_this), (1, .int p0), (2, .int p1), (3, .int (bz p2))] := hl
  have L_62 : ∀ (n_62 : Nat) (l2 : Int32) (l3 : Bool) (l5 : Int64) (l7 : Int32) (w_status : Int32) (w_habit : Nat → Int32) (w_comes : Nat → Int64) (w_standing : Nat → Int64) (w_brought : Nat → Int64) (H : Heap) (locs : List Loc) (ls : Array Slot), va_P D CL [(h_this, .inr (11, [.ref h_lane, .ref h_many, .ref h_items, x_spare, .int w_status, x_tape, .int v_taped, .int v_faultKind, .int v_faultPlace, .int v_at, .int v_start, .int v_token, .int v_value, .ref h_now, x_draft, x_tried, x_past, .int v_acts, x_images, x_kept, x_trace, .int v_traced, .ref h_comes, .ref h_standing, .ref h_brought, .ref h_habit, .int v_livedMany])), (h_now, .inl (cy 0, 124, .inl v_now)), (h_lane, .inl (cy 0, 8, .inl v_lane)), (h_many, .inl (cy 0, 8, .inl v_many)), (h_habit, .inl (cy 0, 3, .inl w_habit)), (h_items, .inl (cy 0, 320, .inl v_items)), (h_comes, .inl (cy 1, 8, .inr (.inl w_comes))), (h_standing, .inl (cy 1, 8, .inr (.inl w_standing))), (h_brought, .inl (cy 1, 24, .inr (.inl w_brought)))] H → va_D A [(h_this, .inr (11, [.ref h_lane, .ref h_many, .ref h_items, x_spare, .int w_status, x_tape, .int v_taped, .int v_faultKind, .int v_faultPlace, .int v_at, .int v_start, .int v_token, .int v_value, .ref h_now, x_draft, x_tried, x_past, .int v_acts, x_images, x_kept, x_trace, .int v_traced, .ref h_comes, .ref h_standing, .ref h_brought, .ref h_habit, .int v_livedMany])), (h_now, .inl (cy 0, 124, .inl v_now)), (h_lane, .inl (cy 0, 8, .inl v_lane)), (h_many, .inl (cy 0, 8, .inl v_many)), (h_habit, .inl (cy 0, 3, .inl w_habit)), (h_items, .inl (cy 0, 320, .inl v_items)), (h_comes, .inl (cy 1, 8, .inr (.inl w_comes))), (h_standing, .inl (cy 1, 8, .inr (.inl w_standing))), (h_brought, .inl (cy 1, 24, .inr (.inl w_brought)))] → va_S A s.heap H locs → lv_has ls 8 [(0, .ref h_this), (2, .int l2), (3, .int (bz l3)), (5, .long l5), (7, .int l7)] → wlX12_lived_62 v_now v_lane v_many v_items post n_62 l2 l3 l5 l7 w_status w_habit w_comes w_standing w_brought → W p l e rmX12_lived s m args below meth c H locs 0 0 Q (F0 m 62 ls []) := by
    intro n_62
    induction n_62 with
    | zero =>
      intro l2 l3 l5 l7 w_status w_habit w_comes w_standing w_brought H locs ls  hP hD hS hl hF
      simp only [wlX12_lived_62] at hF
    | succ n_62 ih_62 =>
      have J_93 : ∀ (l2 : Int32) (l3 : Bool) (l7 : Int32) (k0 : Int64) (k1 : Int64) (w_status : Int32) (w_habit : Nat → Int32) (w_comes : Nat → Int64) (w_standing : Nat → Int64) (w_brought : Nat → Int64) (H : Heap) (locs : List Loc) (ls : Array Slot), va_P D CL [(h_this, .inr (11, [.ref h_lane, .ref h_many, .ref h_items, x_spare, .int w_status, x_tape, .int v_taped, .int v_faultKind, .int v_faultPlace, .int v_at, .int v_start, .int v_token, .int v_value, .ref h_now, x_draft, x_tried, x_past, .int v_acts, x_images, x_kept, x_trace, .int v_traced, .ref h_comes, .ref h_standing, .ref h_brought, .ref h_habit, .int v_livedMany])), (h_now, .inl (cy 0, 124, .inl v_now)), (h_lane, .inl (cy 0, 8, .inl v_lane)), (h_many, .inl (cy 0, 8, .inl v_many)), (h_habit, .inl (cy 0, 3, .inl w_habit)), (h_items, .inl (cy 0, 320, .inl v_items)), (h_comes, .inl (cy 1, 8, .inr (.inl w_comes))), (h_standing, .inl (cy 1, 8, .inr (.inl w_standing))), (h_brought, .inl (cy 1, 24, .inr (.inl w_brought)))] H → va_D A [(h_this, .inr (11, [.ref h_lane, .ref h_many, .ref h_items, x_spare, .int w_status, x_tape, .int v_taped, .int v_faultKind, .int v_faultPlace, .int v_at, .int v_start, .int v_token, .int v_value, .ref h_now, x_draft, x_tried, x_past, .int v_acts, x_images, x_kept, x_trace, .int v_traced, .ref h_comes, .ref h_standing, .ref h_brought, .ref h_habit, .int v_livedMany])), (h_now, .inl (cy 0, 124, .inl v_now)), (h_lane, .inl (cy 0, 8, .inl v_lane)), (h_many, .inl (cy 0, 8, .inl v_many)), (h_habit, .inl (cy 0, 3, .inl w_habit)), (h_items, .inl (cy 0, 320, .inl v_items)), (h_comes, .inl (cy 1, 8, .inr (.inl w_comes))), (h_standing, .inl (cy 1, 8, .inr (.inl w_standing))), (h_brought, .inl (cy 1, 24, .inr (.inl w_brought)))] → va_S A s.heap H locs → lv_has ls 8 [(0, .ref h_this), (2, .int l2), (3, .int (bz l3)), (7, .int l7)] → wjX12_lived_93 v_now v_lane v_many v_items post (wlX12_lived_62 v_now v_lane v_many v_items post n_62) l2 l3 l7 k0 k1 w_status w_habit w_comes w_standing w_brought → W p l e rmX12_lived s m args below meth c H locs 0 0 Q (F0 m 93 ls [.long k0, .long k1]) := by
        intro l2 l3 l7 k0 k1 w_status w_habit w_comes w_standing w_brought H locs ls  hP hD hS hl hF
        unfold wjX12_lived_93 at hF
        refine lv_ladd hx hb dX12_lived_93 ?_
        refine lv_lstore (lv' := [(5, .long (k1 + k0)), (0, .ref h_this), (2, .int l2), (3, .int (bz l3)), (7, .int l7)]) hx hb dX12_lived_94 hl (by decide) rfl (fun ls hl => ?_)
        refine lv_iinc (v := (l7 + 1)) (lv' := [(7, .int (l7 + 1)), (5, .long (k1 + k0)), (0, .ref h_this), (2, .int l2), (3, .int (bz l3))]) hx hb dX12_lived_96 hl (k := 4) rfl rfl (by decide) rfl (fun ls hl => ?_)
        refine lv_goto (tgt := 62) hx hb dX12_lived_99 (by decide) ?_
        exact ih_62 l2 l3 (k1 + k0) (l7 + 1) w_status w_habit w_comes w_standing w_brought _ _ ls  hP hD hS (lv_sub hl [2, 3, 4, 1, 0] rfl) hF
      intro l2 l3 l5 l7 w_status w_habit w_comes w_standing w_brought H locs ls  hP hD hS hl hF
      unfold wlX12_lived_62 at hF
      refine lv_iload hx hb dX12_lived_62 (lv_at hl 4 rfl) ?_
      refine lv_bipush (v := 8) hx hb dX12_lived_64 (by decide) ?_
      refine lv_icmp_ge (tgt := 102) hx hb dX12_lived_66 (by decide) (fun c_ => ?_) (fun c_ => ?_)
      · have hF := hF.1 c_
        refine lv_lload hx hb dX12_lived_102 (lv_at hl 3 rfl) ?_
        refine lv_aload_n hx hb dX12_lived_104 rfl (lv_at hl 0 rfl) ?_
        refine va_get (D := D) (ci := 11) (v := .ref h_now) (C := RX12) (T := TX12) (N := 27) hx hb hts inTX12 hown hK.1 hP 0 rfl rfl 13 (by decide) (hts _ t4_137) (fun _ h9 => h9) rfl dX12_lived_105 ?_
        refine lv_iconst (v := 1) hx hb dX12_lived_108 (by decide) ?_
        refine s_iald (j := 1) hx hb hK.1 hP 1 0 rfl rfl (vi (by decide)) (by decide) dX12_lived_109 ?_
        refine lv_iload_n hx hb dX12_lived_110 rfl (lv_at hl 1 rfl) ?_
        refine lv_imul hx hb dX12_lived_111 ?_
        refine cS_r (As := [.int ((v_now 1) * l2)]) C mfX12_power t5_145 t5_144 (ccX12_power l D cy ((v_now 1) * l2) _ hF) rfl rfl (hP.sub [] rfl) PR.np rfl hl.1 rfl (Nat.le_of_ble_eq_true rfl) dX12_lived_112 ⟨Nat.le_of_ble_eq_true rfl, Nat.le_of_ble_eq_true rfl⟩ ⟨Nat.le_of_ble_eq_true rfl, Nat.le_of_ble_eq_true rfl⟩ ?_
        intro r1 hF
        refine W.eq (g2 := F0 m 115 ls [.long r1, .long l5]) rfl ?_
        refine lv_iload_n hx hb dX12_lived_115 rfl (lv_at hl 2 rfl) ?_
        refine cS_r (As := [.long l5, .long r1, .int (bz l3)]) C mfX12_tells t5_148 t5_147 (ccX12_tells l D cy l5 r1 l3 _ hF) rfl rfl (hP.sub [] rfl) PR.np rfl hl.1 rfl (Nat.le_of_ble_eq_true rfl) dX12_lived_116 ⟨Nat.le_of_ble_eq_true rfl, Nat.le_of_ble_eq_true rfl⟩ ⟨Nat.le_of_ble_eq_true rfl, Nat.le_of_ble_eq_true rfl⟩ ?_
        intro r2 hF
        refine W.eq (g2 := F0 m 119 ls [.long r2]) rfl ?_
        exact rt_l C hQ rfl hP hD hS ⟨w_status, w_habit, w_comes, w_standing, w_brought, rfl, hF⟩ dX12_lived_119
      · have hF := hF.2 c_
        refine lv_lload hx hb dX12_lived_69 (lv_at hl 3 rfl) ?_
        refine lv_iload hx hb dX12_lived_71 (lv_at hl 4 rfl) ?_
        refine cS_r (As := [.int l7]) C mfX12_ones t5_113 t5_112 (ccX12_ones l D cy l7 _ hF) rfl rfl (hP.sub [] rfl) PR.np rfl hl.1 rfl (Nat.le_of_ble_eq_true rfl) dX12_lived_73 ⟨Nat.le_of_ble_eq_true rfl, Nat.le_of_ble_eq_true rfl⟩ ⟨Nat.le_of_ble_eq_true rfl, Nat.le_of_ble_eq_true rfl⟩ ?_
        intro r3 hF
        refine W.eq (g2 := F0 m 76 ls [.int r3, .long l5]) rfl ?_
        refine lv_iload_n hx hb dX12_lived_76 rfl (lv_at hl 1 rfl) ?_
        refine lv_iconst (v := 1) hx hb dX12_lived_77 (by decide) ?_
        refine lv_isub hx hb dX12_lived_78 ?_
        refine lv_icmp_ne (tgt := 92) hx hb dX12_lived_79 (by decide) (fun c_ => ?_) (fun c_ => ?_)
        · have hF := hF.1 c_
          refine lv_lconst (v := 0) hx hb dX12_lived_92 (by decide) ?_
          exact J_93 l2 l3 l7 0 l5 w_status w_habit w_comes w_standing w_brought _ _ ls  hP hD hS (lv_sub hl [0, 1, 2, 4] rfl) hF
        · have hF := hF.2 c_
          refine lv_aload_n hx hb dX12_lived_82 rfl (lv_at hl 0 rfl) ?_
          refine va_get (D := D) (ci := 11) (v := .ref h_standing) (C := RX12) (T := TX12) (N := 27) hx hb hts inTX12 hown hK.1 hP 0 rfl rfl 23 (by decide) (hts _ t4_147) (fun _ h9 => h9) rfl dX12_lived_83 ?_
          refine lv_iload hx hb dX12_lived_86 (lv_at hl 4 rfl) ?_
          obtain ⟨hi4, hF⟩ := hF
          refine s_lald (j := (l7).toNatClampNeg) hx hb hK.1 hP 7 1 rfl rfl hi4 rfl dX12_lived_88 ?_
          refine lv_goto (tgt := 93) hx hb dX12_lived_89 (by decide) ?_
          exact J_93 l2 l3 l7 (w_standing ((l7).toNatClampNeg)) l5 w_status w_habit w_comes w_standing w_brought _ _ ls  hP hD hS (lv_sub hl [0, 1, 2, 4] rfl) hF
  unfold wpX12_lived at hF
  refine lv_aload_n hx hb dX12_lived_0 rfl (lv_at hl 0 rfl) ?_
  refine cV_r (As := []) C mfX12_isVillage t5_62 ts_24 t5_60 (ccX12_isVillage l D cy h_this h_now (.ref h_lane) (.ref h_many) (.ref h_items) x_spare x_tape x_draft x_tried x_past x_images x_kept x_trace (.ref h_comes) (.ref h_standing) (.ref h_brought) (.ref h_habit) v_status v_taped v_faultKind v_faultPlace v_at v_start v_token v_value v_acts v_traced v_livedMany v_now _ hF) rfl rfl (hP.sub [0, 1] rfl) PR.np hP 0 11 rfl rfl rfl rfl hl.1 rfl (Nat.le_of_ble_eq_true rfl) dX12_lived_1 ⟨Nat.le_of_ble_eq_true rfl, Nat.le_of_ble_eq_true rfl⟩ ⟨Nat.le_of_ble_eq_true rfl, Nat.le_of_ble_eq_true rfl⟩ ?_
  intro r1 hF
  refine W.eq (g2 := F0 m 4 ls [.int (bz r1)]) rfl ?_
  refine lv_if_ne (tgt := 11) hx hb dX12_lived_4 (by decide) (fun c_ => ?_) (fun c_ => ?_)
  · have hF := hF.1 ((bz_1 _).mp c_)
    refine lv_iload_n hx hb dX12_lived_11 rfl (lv_at hl 1 rfl) ?_
    refine cS_r (As := [.int p0]) C mfX12_isRow t4_212 t4_211 (ccX12_isRow l D cy p0 _ hF) rfl rfl (hP.sub [] rfl) PR.np rfl hl.1 rfl (Nat.le_of_ble_eq_true rfl) dX12_lived_12 ⟨Nat.le_of_ble_eq_true rfl, Nat.le_of_ble_eq_true rfl⟩ ⟨Nat.le_of_ble_eq_true rfl, Nat.le_of_ble_eq_true rfl⟩ ?_
    intro r2 hF
    refine W.eq (g2 := F0 m 15 ls [.int (bz r2)]) rfl ?_
    refine lv_if_eq (tgt := 27) hx hb dX12_lived_15 (by decide) (fun c_ => ?_) (fun c_ => ?_)
    · have hF := hF.1 ((bz_0 _).mp c_)
      refine lv_ldc2 hx hb hown (hts _ t5_128) dX12_lived_27 ?_
      exact rt_l C hQ rfl hP hD hS ⟨v_status, v_habit, v_comes, v_standing, v_brought, rfl, hF⟩ dX12_lived_30
    · have hF := hF.2 ((bz_1 _).mp c_)
      refine lv_iload_n hx hb dX12_lived_18 rfl (lv_at hl 2 rfl) ?_
      refine lv_iconst (v := 1) hx hb dX12_lived_19 (by decide) ?_
      refine lv_iconst (v := 4) hx hb dX12_lived_20 (by decide) ?_
      refine cS_r (As := [.int p1, .int 1, .int 4]) C mfX12_in t4_215 t4_214 (ccX12_in l D cy p1 1 4 _ hF) rfl rfl (hP.sub [] rfl) PR.np rfl hl.1 rfl (Nat.le_of_ble_eq_true rfl) dX12_lived_21 ⟨Nat.le_of_ble_eq_true rfl, Nat.le_of_ble_eq_true rfl⟩ ⟨Nat.le_of_ble_eq_true rfl, Nat.le_of_ble_eq_true rfl⟩ ?_
      intro r3 hF
      refine W.eq (g2 := F0 m 24 ls [.int (bz r3)]) rfl ?_
      refine lv_if_ne (tgt := 31) hx hb dX12_lived_24 (by decide) (fun c_ => ?_) (fun c_ => ?_)
      · have hF := hF.1 ((bz_1 _).mp c_)
        refine lv_aload_n hx hb dX12_lived_31 rfl (lv_at hl 0 rfl) ?_
        refine lv_iload_n hx hb dX12_lived_32 rfl (lv_at hl 1 rfl) ?_
        refine cV_t (As := [.int p0]) (wr := [(h_comes, .inl (cy 1, 8, .inr (.inl v_comes))), (h_standing, .inl (cy 1, 8, .inr (.inl v_standing))), (h_brought, .inl (cy 1, 24, .inr (.inl v_brought)))]) C hA hP hD hS mfX12_notHabits t5_131 ts_27 t5_129 (ccX12_notHabits l D cy h_this h_lane h_many h_now h_habit h_items x_spare x_tape x_draft x_tried x_past x_images x_kept x_trace (.ref h_comes) (.ref h_standing) (.ref h_brought) v_status v_taped v_faultKind v_faultPlace v_at v_start v_token v_value v_acts v_traced v_livedMany v_lane v_many v_now v_habit v_items p0 _ hF) [0, 2, 3, 1, 4, 5] [6, 7, 8] rfl rfl (by decide) (by decide) (by decide) PO.np 0 11 rfl rfl rfl rfl hl.1 rfl (Nat.le_of_ble_eq_true rfl) dX12_lived_33 ⟨Nat.le_of_ble_eq_true rfl, Nat.le_of_ble_eq_true rfl⟩ ⟨Nat.le_of_ble_eq_true rfl, Nat.le_of_ble_eq_true rfl⟩ ?_
        rintro r4 w1 H locs ⟨u5_status, u6_habit, rfl, hF⟩ hP hD hS
        have hP : va_P D CL [(h_comes, .inl (cy 1, 8, .inr (.inl v_comes))), (h_standing, .inl (cy 1, 8, .inr (.inl v_standing))), (h_brought, .inl (cy 1, 24, .inr (.inl v_brought))), (h_this, .inr (11, [.ref h_lane, .ref h_many, .ref h_items, x_spare, .int u5_status, x_tape, .int v_taped, .int v_faultKind, .int v_faultPlace, .int v_at, .int v_start, .int v_token, .int v_value, .ref h_now, x_draft, x_tried, x_past, .int v_acts, x_images, x_kept, x_trace, .int v_traced, .ref h_comes, .ref h_standing, .ref h_brought, .ref h_habit, .int v_livedMany])), (h_lane, .inl (cy 0, 8, .inl v_lane)), (h_many, .inl (cy 0, 8, .inl v_many)), (h_now, .inl (cy 0, 124, .inl v_now)), (h_habit, .inl (cy 0, 3, .inl u6_habit)), (h_items, .inl (cy 0, 320, .inl v_items))] H := hP
        have hD : va_D A [(h_comes, .inl (cy 1, 8, .inr (.inl v_comes))), (h_standing, .inl (cy 1, 8, .inr (.inl v_standing))), (h_brought, .inl (cy 1, 24, .inr (.inl v_brought))), (h_this, .inr (11, [.ref h_lane, .ref h_many, .ref h_items, x_spare, .int u5_status, x_tape, .int v_taped, .int v_faultKind, .int v_faultPlace, .int v_at, .int v_start, .int v_token, .int v_value, .ref h_now, x_draft, x_tried, x_past, .int v_acts, x_images, x_kept, x_trace, .int v_traced, .ref h_comes, .ref h_standing, .ref h_brought, .ref h_habit, .int v_livedMany])), (h_lane, .inl (cy 0, 8, .inl v_lane)), (h_many, .inl (cy 0, 8, .inl v_many)), (h_now, .inl (cy 0, 124, .inl v_now)), (h_habit, .inl (cy 0, 3, .inl u6_habit)), (h_items, .inl (cy 0, 320, .inl v_items))] := hD
        refine W.eq (g2 := F0 m 36 ls [.int r4]) rfl ?_
        refine lv_istore (lv' := [(4, .int r4), (0, .ref h_this), (1, .int p0), (2, .int p1), (3, .int (bz p2))]) hx hb dX12_lived_36 hl (by decide) rfl (fun ls hl => ?_)
        refine lv_iload hx hb dX12_lived_38 (lv_at hl 0 rfl) ?_
        refine lv_if_eq (tgt := 47) hx hb dX12_lived_40 (by decide) (fun c_ => ?_) (fun c_ => ?_)
        · have hF := hF.1 c_
          refine lv_aload_n hx hb dX12_lived_47 rfl (lv_at hl 1 rfl) ?_
          refine lv_iconst (v := 0) hx hb dX12_lived_48 (by decide) ?_
          refine va_put (D := D) (ci := 11) (v := .int 0) (ty := .int) (C := RX12) (T := TX12) (N := 27) hx hb hts inTX12 tyX12 tyX12_ok nmX12 hown hK.1 hP hD hS 3 rfl rfl 4 (by decide) (hts _ t4_128) (fun _ h9 => h9) rfl (tyX12_ok 4 (by decide)) rfl rfl (Nat.le_of_ble_eq_true rfl) dX12_lived_49 (fun H locs hP hD hS => ?_)
          have hP : va_P D CL [(h_comes, .inl (cy 1, 8, .inr (.inl v_comes))), (h_standing, .inl (cy 1, 8, .inr (.inl v_standing))), (h_brought, .inl (cy 1, 24, .inr (.inl v_brought))), (h_this, .inr (11, [.ref h_lane, .ref h_many, .ref h_items, x_spare, .int 0, x_tape, .int v_taped, .int v_faultKind, .int v_faultPlace, .int v_at, .int v_start, .int v_token, .int v_value, .ref h_now, x_draft, x_tried, x_past, .int v_acts, x_images, x_kept, x_trace, .int v_traced, .ref h_comes, .ref h_standing, .ref h_brought, .ref h_habit, .int v_livedMany])), (h_lane, .inl (cy 0, 8, .inl v_lane)), (h_many, .inl (cy 0, 8, .inl v_many)), (h_now, .inl (cy 0, 124, .inl v_now)), (h_habit, .inl (cy 0, 3, .inl u6_habit)), (h_items, .inl (cy 0, 320, .inl v_items))] H := hP
          have hD : va_D A [(h_comes, .inl (cy 1, 8, .inr (.inl v_comes))), (h_standing, .inl (cy 1, 8, .inr (.inl v_standing))), (h_brought, .inl (cy 1, 24, .inr (.inl v_brought))), (h_this, .inr (11, [.ref h_lane, .ref h_many, .ref h_items, x_spare, .int 0, x_tape, .int v_taped, .int v_faultKind, .int v_faultPlace, .int v_at, .int v_start, .int v_token, .int v_value, .ref h_now, x_draft, x_tried, x_past, .int v_acts, x_images, x_kept, x_trace, .int v_traced, .ref h_comes, .ref h_standing, .ref h_brought, .ref h_habit, .int v_livedMany])), (h_lane, .inl (cy 0, 8, .inl v_lane)), (h_many, .inl (cy 0, 8, .inl v_many)), (h_now, .inl (cy 0, 124, .inl v_now)), (h_habit, .inl (cy 0, 3, .inl u6_habit)), (h_items, .inl (cy 0, 320, .inl v_items))] := hD
          refine lv_aload_n hx hb dX12_lived_52 rfl (lv_at hl 1 rfl) ?_
          refine cV_t (As := []) (wr := [(h_lane, .inl (cy 0, 8, .inl v_lane)), (h_many, .inl (cy 0, 8, .inl v_many)), (h_items, .inl (cy 0, 320, .inl v_items))]) C hA hP hD hS mfX12_lays t5_135 ts_28 t5_133 (ccX12_lays l D cy h_this h_now h_comes h_standing h_habit h_brought (.ref h_lane) (.ref h_many) (.ref h_items) x_spare x_tape x_draft x_tried x_past x_images x_kept x_trace 0 v_taped v_faultKind v_faultPlace v_at v_start v_token v_value v_acts v_traced v_livedMany v_now v_comes v_standing u6_habit v_brought _ hF) [3, 6, 0, 1, 7, 2] [4, 5, 8] rfl rfl (by decide) (by decide) (by decide) PO.np 3 11 rfl rfl rfl rfl hl.1 rfl (Nat.le_of_ble_eq_true rfl) dX12_lived_53 ⟨Nat.le_of_ble_eq_true rfl, Nat.le_of_ble_eq_true rfl⟩ ⟨Nat.le_of_ble_eq_true rfl, Nat.le_of_ble_eq_true rfl⟩ ?_
          rintro ⟨⟩ w1 H locs ⟨u8_comes, u9_standing, u10_brought, rfl, hF⟩ hP hD hS
          have hP : va_P D CL [(h_lane, .inl (cy 0, 8, .inl v_lane)), (h_many, .inl (cy 0, 8, .inl v_many)), (h_items, .inl (cy 0, 320, .inl v_items)), (h_this, .inr (11, [.ref h_lane, .ref h_many, .ref h_items, x_spare, .int 0, x_tape, .int v_taped, .int v_faultKind, .int v_faultPlace, .int v_at, .int v_start, .int v_token, .int v_value, .ref h_now, x_draft, x_tried, x_past, .int v_acts, x_images, x_kept, x_trace, .int v_traced, .ref h_comes, .ref h_standing, .ref h_brought, .ref h_habit, .int v_livedMany])), (h_now, .inl (cy 0, 124, .inl v_now)), (h_comes, .inl (cy 1, 8, .inr (.inl u8_comes))), (h_standing, .inl (cy 1, 8, .inr (.inl u9_standing))), (h_habit, .inl (cy 0, 3, .inl u6_habit)), (h_brought, .inl (cy 1, 24, .inr (.inl u10_brought)))] H := hP
          have hD : va_D A [(h_lane, .inl (cy 0, 8, .inl v_lane)), (h_many, .inl (cy 0, 8, .inl v_many)), (h_items, .inl (cy 0, 320, .inl v_items)), (h_this, .inr (11, [.ref h_lane, .ref h_many, .ref h_items, x_spare, .int 0, x_tape, .int v_taped, .int v_faultKind, .int v_faultPlace, .int v_at, .int v_start, .int v_token, .int v_value, .ref h_now, x_draft, x_tried, x_past, .int v_acts, x_images, x_kept, x_trace, .int v_traced, .ref h_comes, .ref h_standing, .ref h_brought, .ref h_habit, .int v_livedMany])), (h_now, .inl (cy 0, 124, .inl v_now)), (h_comes, .inl (cy 1, 8, .inr (.inl u8_comes))), (h_standing, .inl (cy 1, 8, .inr (.inl u9_standing))), (h_habit, .inl (cy 0, 3, .inl u6_habit)), (h_brought, .inl (cy 1, 24, .inr (.inl u10_brought)))] := hD
          refine W.eq (g2 := F0 m 56 ls []) rfl ?_
          refine lv_lconst (v := 0) hx hb dX12_lived_56 (by decide) ?_
          refine lv_lstore (lv' := [(5, .long 0), (4, .int r4), (0, .ref h_this), (1, .int p0), (2, .int p1), (3, .int (bz p2))]) hx hb dX12_lived_57 hl (by decide) rfl (fun ls hl => ?_)
          refine lv_iconst (v := 0) hx hb dX12_lived_59 (by decide) ?_
          refine lv_istore (lv' := [(7, .int 0), (5, .long 0), (4, .int r4), (0, .ref h_this), (1, .int p0), (2, .int p1), (3, .int (bz p2))]) hx hb dX12_lived_60 hl (by decide) rfl (fun ls hl => ?_)
          exact L_62 fu p1 p2 0 0 0 u6_habit u8_comes u9_standing u10_brought _ _ ls  (hP.sub [3, 4, 0, 1, 7, 2, 5, 6, 8] rfl) (hD.sub [3, 4, 0, 1, 7, 2, 5, 6, 8] (by decide) rfl) hS (lv_sub hl [3, 5, 6, 1, 0] rfl) hF
        · have hF := hF.2 c_
          refine lv_iload hx hb dX12_lived_43 (lv_at hl 0 rfl) ?_
          refine lv_i2l hx hb dX12_lived_45 rfl ?_
          have hP : va_P D CL [(h_this, .inr (11, [.ref h_lane, .ref h_many, .ref h_items, x_spare, .int u5_status, x_tape, .int v_taped, .int v_faultKind, .int v_faultPlace, .int v_at, .int v_start, .int v_token, .int v_value, .ref h_now, x_draft, x_tried, x_past, .int v_acts, x_images, x_kept, x_trace, .int v_traced, .ref h_comes, .ref h_standing, .ref h_brought, .ref h_habit, .int v_livedMany])), (h_now, .inl (cy 0, 124, .inl v_now)), (h_lane, .inl (cy 0, 8, .inl v_lane)), (h_many, .inl (cy 0, 8, .inl v_many)), (h_habit, .inl (cy 0, 3, .inl u6_habit)), (h_items, .inl (cy 0, 320, .inl v_items)), (h_comes, .inl (cy 1, 8, .inr (.inl v_comes))), (h_standing, .inl (cy 1, 8, .inr (.inl v_standing))), (h_brought, .inl (cy 1, 24, .inr (.inl v_brought)))] H := (hP.sub [3, 6, 4, 5, 7, 8, 0, 1, 2] rfl)
          have hD : va_D A [(h_this, .inr (11, [.ref h_lane, .ref h_many, .ref h_items, x_spare, .int u5_status, x_tape, .int v_taped, .int v_faultKind, .int v_faultPlace, .int v_at, .int v_start, .int v_token, .int v_value, .ref h_now, x_draft, x_tried, x_past, .int v_acts, x_images, x_kept, x_trace, .int v_traced, .ref h_comes, .ref h_standing, .ref h_brought, .ref h_habit, .int v_livedMany])), (h_now, .inl (cy 0, 124, .inl v_now)), (h_lane, .inl (cy 0, 8, .inl v_lane)), (h_many, .inl (cy 0, 8, .inl v_many)), (h_habit, .inl (cy 0, 3, .inl u6_habit)), (h_items, .inl (cy 0, 320, .inl v_items)), (h_comes, .inl (cy 1, 8, .inr (.inl v_comes))), (h_standing, .inl (cy 1, 8, .inr (.inl v_standing))), (h_brought, .inl (cy 1, 24, .inr (.inl v_brought)))] := (hD.sub [3, 6, 4, 5, 7, 8, 0, 1, 2] (by decide) rfl)
          exact rt_l C hQ rfl hP hD hS ⟨u5_status, u6_habit, v_comes, v_standing, v_brought, rfl, hF⟩ dX12_lived_46
      · have hF := hF.2 ((bz_0 _).mp c_)
        refine lv_ldc2 hx hb hown (hts _ t5_128) dX12_lived_27 ?_
        exact rt_l C hQ rfl hP hD hS ⟨v_status, v_habit, v_comes, v_standing, v_brought, rfl, hF⟩ dX12_lived_30
  · have hF := hF.2 ((bz_0 _).mp c_)
    refine lv_ldc2 hx hb hown (hts _ t5_127) dX12_lived_7 ?_
    exact rt_l C hQ rfl hP hD hS ⟨v_status, v_habit, v_comes, v_standing, v_brought, rfl, hF⟩ dX12_lived_10

def wpX12_mean (p0 : Int32) (p1 : Int32) (p2 : Bool) (v_status : Int32) (v_now : Nat → Int32) (v_lane : Nat → Int32) (v_many : Nat → Int32) (v_habit : Nat → Int32) (v_items : Nat → Int32) (v_comes : Nat → Int64) (v_standing : Nat → Int64) (v_brought : Nat → Int64) (post : Int64 → Int32 → (Nat → Int32) → (Nat → Int64) → (Nat → Int64) → (Nat → Int64) → Prop) : Prop := wpX12_isVillage v_now (fun r1 => (r1 = true → (wpX12_isRow p0 (fun r2 => (r2 = false → (post (-1000001) v_status v_habit v_comes v_standing v_brought)) ∧ (r2 = true → (wpX12_isPerson p1 v_now (fun r3 => (r3 = true → (wpX12_notHabits p0 v_status v_lane v_many v_now v_habit v_items (fun r4 u5_status u6_habit => (r4 = 0 → (wpX12_lays v_now v_comes v_standing u6_habit v_brought (fun _ u8_comes u9_standing u10_brought => wpX12_meanOf p1 v_now u10_brought (fun r11 => wpX12_power (4 * (v_now 1)) (fun r12 => wpX12_tells r11 r12 p2 (fun r13 => post r13 0 u6_habit u8_comes u9_standing u10_brought)))))) ∧ (¬ r4 = 0 → (post ((r4).toInt64) u5_status u6_habit v_comes v_standing v_brought))))) ∧ (r3 = false → (post (-1000001) v_status v_habit v_comes v_standing v_brought)))))))) ∧ (r1 = false → (post (-1000002) v_status v_habit v_comes v_standing v_brought)))
abbrev miX12_mean : MI := (yX12_mean, cX12_mean, 5, (some .long))
theorem mfX12_mean : MF miX12_mean 3 := ⟨t5_153, t1_8, by decide +kernel⟩
abbrev rmX12_mean : Room := { frames := 4, cells := 0, slots := 0, locals := 98 }
set_option maxHeartbeats 4000000 in
set_option maxRecDepth 100000 in
theorem ccX12_mean (l : Launch) (D : va_G) (cy : Nat → ClassId) (h_this : Nat) (h_now : Nat) (h_lane : Nat) (h_many : Nat) (h_habit : Nat) (h_items : Nat) (h_comes : Nat) (h_standing : Nat) (h_brought : Nat) (x_spare : Value) (x_tape : Value) (x_draft : Value) (x_tried : Value) (x_past : Value) (x_images : Value) (x_kept : Value) (x_trace : Value) (v_status : Int32) (v_taped : Int32) (v_faultKind : Int32) (v_faultPlace : Int32) (v_at : Int32) (v_start : Int32) (v_token : Int32) (v_value : Int32) (v_acts : Int32) (v_traced : Int32) (v_livedMany : Int32) (v_now : Nat → Int32) (v_lane : Nat → Int32) (v_many : Nat → Int32) (v_habit : Nat → Int32) (v_items : Nat → Int32) (v_comes : Nat → Int64) (v_standing : Nat → Int64) (v_brought : Nat → Int64) (p0 : Int32) (p1 : Int32) (p2 : Bool) (post : Int64 → Int32 → (Nat → Int32) → (Nat → Int64) → (Nat → Int64) → (Nat → Int64) → Prop) (hF : wpX12_mean p0 p1 p2 v_status v_now v_lane v_many v_habit v_items v_comes v_standing v_brought post) : Ct l D cy miX12_mean rmX12_mean emL NP [.ref h_this, .int p0, .int p1, .int (bz p2)] [(h_this, .inr (11, [.ref h_lane, .ref h_many, .ref h_items, x_spare, .int v_status, x_tape, .int v_taped, .int v_faultKind, .int v_faultPlace, .int v_at, .int v_start, .int v_token, .int v_value, .ref h_now, x_draft, x_tried, x_past, .int v_acts, x_images, x_kept, x_trace, .int v_traced, .ref h_comes, .ref h_standing, .ref h_brought, .ref h_habit, .int v_livedMany])), (h_now, .inl (cy 0, 124, .inl v_now)), (h_lane, .inl (cy 0, 8, .inl v_lane)), (h_many, .inl (cy 0, 8, .inl v_many)), (h_habit, .inl (cy 0, 3, .inl v_habit)), (h_items, .inl (cy 0, 320, .inl v_items)), (h_comes, .inl (cy 1, 8, .inr (.inl v_comes))), (h_standing, .inl (cy 1, 8, .inr (.inl v_standing))), (h_brought, .inl (cy 1, 24, .inr (.inl v_brought)))] (fun r w1 => ∃ (w_status : Int32) (w_habit : Nat → Int32) (w_comes : Nat → Int64) (w_standing : Nat → Int64) (w_brought : Nat → Int64), w1 = [(h_this, .inr (11, [.ref h_lane, .ref h_many, .ref h_items, x_spare, .int w_status, x_tape, .int v_taped, .int v_faultKind, .int v_faultPlace, .int v_at, .int v_start, .int v_token, .int v_value, .ref h_now, x_draft, x_tried, x_past, .int v_acts, x_images, x_kept, x_trace, .int v_traced, .ref h_comes, .ref h_standing, .ref h_brought, .ref h_habit, .int v_livedMany])), (h_now, .inl (cy 0, 124, .inl v_now)), (h_lane, .inl (cy 0, 8, .inl v_lane)), (h_many, .inl (cy 0, 8, .inl v_many)), (h_habit, .inl (cy 0, 3, .inl w_habit)), (h_items, .inl (cy 0, 320, .inl v_items)), (h_comes, .inl (cy 1, 8, .inr (.inl w_comes))), (h_standing, .inl (cy 1, 8, .inr (.inl w_standing))), (h_brought, .inl (cy 1, 24, .inr (.inl w_brought)))] ∧ post r w_status w_habit w_comes w_standing w_brought) := by
  refine Ct.of (by decide) (Nat.le_of_ble_eq_true rfl) ?_
  intro p e s m args below meth c A ls Q C hQ hA hI hP hD hS hl
  obtain ⟨hx, hb, hr, hml, hown, hts, hK, hlk, hnm⟩ := id C
  have hb : c.code = cX12_mean := hb
  have hml : c.maxLocals = 5 := hml
  have hown : s.vm.findClass RX12 = some m.cls := hown
  have hl : lv_has ls 5 [(0, .ref h_this), (1, .int p0), (2, .int p1), (3, .int (bz p2))] := hl
  unfold wpX12_mean at hF
  refine lv_aload_n hx hb dX12_mean_0 rfl (lv_at hl 0 rfl) ?_
  refine cV_r (As := []) C mfX12_isVillage t5_62 ts_24 t5_60 (ccX12_isVillage l D cy h_this h_now (.ref h_lane) (.ref h_many) (.ref h_items) x_spare x_tape x_draft x_tried x_past x_images x_kept x_trace (.ref h_comes) (.ref h_standing) (.ref h_brought) (.ref h_habit) v_status v_taped v_faultKind v_faultPlace v_at v_start v_token v_value v_acts v_traced v_livedMany v_now _ hF) rfl rfl (hP.sub [0, 1] rfl) PR.np hP 0 11 rfl rfl rfl rfl hl.1 rfl (Nat.le_of_ble_eq_true rfl) dX12_mean_1 ⟨Nat.le_of_ble_eq_true rfl, Nat.le_of_ble_eq_true rfl⟩ ⟨Nat.le_of_ble_eq_true rfl, Nat.le_of_ble_eq_true rfl⟩ ?_
  intro r1 hF
  refine W.eq (g2 := F0 m 4 ls [.int (bz r1)]) rfl ?_
  refine lv_if_ne (tgt := 11) hx hb dX12_mean_4 (by decide) (fun c_ => ?_) (fun c_ => ?_)
  · have hF := hF.1 ((bz_1 _).mp c_)
    refine lv_iload_n hx hb dX12_mean_11 rfl (lv_at hl 1 rfl) ?_
    refine cS_r (As := [.int p0]) C mfX12_isRow t4_212 t4_211 (ccX12_isRow l D cy p0 _ hF) rfl rfl (hP.sub [] rfl) PR.np rfl hl.1 rfl (Nat.le_of_ble_eq_true rfl) dX12_mean_12 ⟨Nat.le_of_ble_eq_true rfl, Nat.le_of_ble_eq_true rfl⟩ ⟨Nat.le_of_ble_eq_true rfl, Nat.le_of_ble_eq_true rfl⟩ ?_
    intro r2 hF
    refine W.eq (g2 := F0 m 15 ls [.int (bz r2)]) rfl ?_
    refine lv_if_eq (tgt := 26) hx hb dX12_mean_15 (by decide) (fun c_ => ?_) (fun c_ => ?_)
    · have hF := hF.1 ((bz_0 _).mp c_)
      refine lv_ldc2 hx hb hown (hts _ t5_128) dX12_mean_26 ?_
      exact rt_l C hQ rfl hP hD hS ⟨v_status, v_habit, v_comes, v_standing, v_brought, rfl, hF⟩ dX12_mean_29
    · have hF := hF.2 ((bz_1 _).mp c_)
      refine lv_aload_n hx hb dX12_mean_18 rfl (lv_at hl 0 rfl) ?_
      refine lv_iload_n hx hb dX12_mean_19 rfl (lv_at hl 2 rfl) ?_
      refine cV_r (As := [.int p1]) C mfX12_isPerson t5_90 ts_26 t5_88 (ccX12_isPerson l D cy h_this h_now (.ref h_lane) (.ref h_many) (.ref h_items) x_spare x_tape x_draft x_tried x_past x_images x_kept x_trace (.ref h_comes) (.ref h_standing) (.ref h_brought) (.ref h_habit) v_status v_taped v_faultKind v_faultPlace v_at v_start v_token v_value v_acts v_traced v_livedMany v_now p1 _ hF) rfl rfl (hP.sub [0, 1] rfl) PR.np hP 0 11 rfl rfl rfl rfl hl.1 rfl (Nat.le_of_ble_eq_true rfl) dX12_mean_20 ⟨Nat.le_of_ble_eq_true rfl, Nat.le_of_ble_eq_true rfl⟩ ⟨Nat.le_of_ble_eq_true rfl, Nat.le_of_ble_eq_true rfl⟩ ?_
      intro r3 hF
      refine W.eq (g2 := F0 m 23 ls [.int (bz r3)]) rfl ?_
      refine lv_if_ne (tgt := 30) hx hb dX12_mean_23 (by decide) (fun c_ => ?_) (fun c_ => ?_)
      · have hF := hF.1 ((bz_1 _).mp c_)
        refine lv_aload_n hx hb dX12_mean_30 rfl (lv_at hl 0 rfl) ?_
        refine lv_iload_n hx hb dX12_mean_31 rfl (lv_at hl 1 rfl) ?_
        refine cV_t (As := [.int p0]) (wr := [(h_comes, .inl (cy 1, 8, .inr (.inl v_comes))), (h_standing, .inl (cy 1, 8, .inr (.inl v_standing))), (h_brought, .inl (cy 1, 24, .inr (.inl v_brought)))]) C hA hP hD hS mfX12_notHabits t5_131 ts_27 t5_129 (ccX12_notHabits l D cy h_this h_lane h_many h_now h_habit h_items x_spare x_tape x_draft x_tried x_past x_images x_kept x_trace (.ref h_comes) (.ref h_standing) (.ref h_brought) v_status v_taped v_faultKind v_faultPlace v_at v_start v_token v_value v_acts v_traced v_livedMany v_lane v_many v_now v_habit v_items p0 _ hF) [0, 2, 3, 1, 4, 5] [6, 7, 8] rfl rfl (by decide) (by decide) (by decide) PO.np 0 11 rfl rfl rfl rfl hl.1 rfl (Nat.le_of_ble_eq_true rfl) dX12_mean_32 ⟨Nat.le_of_ble_eq_true rfl, Nat.le_of_ble_eq_true rfl⟩ ⟨Nat.le_of_ble_eq_true rfl, Nat.le_of_ble_eq_true rfl⟩ ?_
        rintro r4 w1 H locs ⟨u5_status, u6_habit, rfl, hF⟩ hP hD hS
        have hP : va_P D CL [(h_comes, .inl (cy 1, 8, .inr (.inl v_comes))), (h_standing, .inl (cy 1, 8, .inr (.inl v_standing))), (h_brought, .inl (cy 1, 24, .inr (.inl v_brought))), (h_this, .inr (11, [.ref h_lane, .ref h_many, .ref h_items, x_spare, .int u5_status, x_tape, .int v_taped, .int v_faultKind, .int v_faultPlace, .int v_at, .int v_start, .int v_token, .int v_value, .ref h_now, x_draft, x_tried, x_past, .int v_acts, x_images, x_kept, x_trace, .int v_traced, .ref h_comes, .ref h_standing, .ref h_brought, .ref h_habit, .int v_livedMany])), (h_lane, .inl (cy 0, 8, .inl v_lane)), (h_many, .inl (cy 0, 8, .inl v_many)), (h_now, .inl (cy 0, 124, .inl v_now)), (h_habit, .inl (cy 0, 3, .inl u6_habit)), (h_items, .inl (cy 0, 320, .inl v_items))] H := hP
        have hD : va_D A [(h_comes, .inl (cy 1, 8, .inr (.inl v_comes))), (h_standing, .inl (cy 1, 8, .inr (.inl v_standing))), (h_brought, .inl (cy 1, 24, .inr (.inl v_brought))), (h_this, .inr (11, [.ref h_lane, .ref h_many, .ref h_items, x_spare, .int u5_status, x_tape, .int v_taped, .int v_faultKind, .int v_faultPlace, .int v_at, .int v_start, .int v_token, .int v_value, .ref h_now, x_draft, x_tried, x_past, .int v_acts, x_images, x_kept, x_trace, .int v_traced, .ref h_comes, .ref h_standing, .ref h_brought, .ref h_habit, .int v_livedMany])), (h_lane, .inl (cy 0, 8, .inl v_lane)), (h_many, .inl (cy 0, 8, .inl v_many)), (h_now, .inl (cy 0, 124, .inl v_now)), (h_habit, .inl (cy 0, 3, .inl u6_habit)), (h_items, .inl (cy 0, 320, .inl v_items))] := hD
        refine W.eq (g2 := F0 m 35 ls [.int r4]) rfl ?_
        refine lv_istore (lv' := [(4, .int r4), (0, .ref h_this), (1, .int p0), (2, .int p1), (3, .int (bz p2))]) hx hb dX12_mean_35 hl (by decide) rfl (fun ls hl => ?_)
        refine lv_iload hx hb dX12_mean_37 (lv_at hl 0 rfl) ?_
        refine lv_if_eq (tgt := 46) hx hb dX12_mean_39 (by decide) (fun c_ => ?_) (fun c_ => ?_)
        · have hF := hF.1 c_
          refine lv_aload_n hx hb dX12_mean_46 rfl (lv_at hl 1 rfl) ?_
          refine lv_iconst (v := 0) hx hb dX12_mean_47 (by decide) ?_
          refine va_put (D := D) (ci := 11) (v := .int 0) (ty := .int) (C := RX12) (T := TX12) (N := 27) hx hb hts inTX12 tyX12 tyX12_ok nmX12 hown hK.1 hP hD hS 3 rfl rfl 4 (by decide) (hts _ t4_128) (fun _ h9 => h9) rfl (tyX12_ok 4 (by decide)) rfl rfl (Nat.le_of_ble_eq_true rfl) dX12_mean_48 (fun H locs hP hD hS => ?_)
          have hP : va_P D CL [(h_comes, .inl (cy 1, 8, .inr (.inl v_comes))), (h_standing, .inl (cy 1, 8, .inr (.inl v_standing))), (h_brought, .inl (cy 1, 24, .inr (.inl v_brought))), (h_this, .inr (11, [.ref h_lane, .ref h_many, .ref h_items, x_spare, .int 0, x_tape, .int v_taped, .int v_faultKind, .int v_faultPlace, .int v_at, .int v_start, .int v_token, .int v_value, .ref h_now, x_draft, x_tried, x_past, .int v_acts, x_images, x_kept, x_trace, .int v_traced, .ref h_comes, .ref h_standing, .ref h_brought, .ref h_habit, .int v_livedMany])), (h_lane, .inl (cy 0, 8, .inl v_lane)), (h_many, .inl (cy 0, 8, .inl v_many)), (h_now, .inl (cy 0, 124, .inl v_now)), (h_habit, .inl (cy 0, 3, .inl u6_habit)), (h_items, .inl (cy 0, 320, .inl v_items))] H := hP
          have hD : va_D A [(h_comes, .inl (cy 1, 8, .inr (.inl v_comes))), (h_standing, .inl (cy 1, 8, .inr (.inl v_standing))), (h_brought, .inl (cy 1, 24, .inr (.inl v_brought))), (h_this, .inr (11, [.ref h_lane, .ref h_many, .ref h_items, x_spare, .int 0, x_tape, .int v_taped, .int v_faultKind, .int v_faultPlace, .int v_at, .int v_start, .int v_token, .int v_value, .ref h_now, x_draft, x_tried, x_past, .int v_acts, x_images, x_kept, x_trace, .int v_traced, .ref h_comes, .ref h_standing, .ref h_brought, .ref h_habit, .int v_livedMany])), (h_lane, .inl (cy 0, 8, .inl v_lane)), (h_many, .inl (cy 0, 8, .inl v_many)), (h_now, .inl (cy 0, 124, .inl v_now)), (h_habit, .inl (cy 0, 3, .inl u6_habit)), (h_items, .inl (cy 0, 320, .inl v_items))] := hD
          refine lv_aload_n hx hb dX12_mean_51 rfl (lv_at hl 1 rfl) ?_
          refine cV_t (As := []) (wr := [(h_lane, .inl (cy 0, 8, .inl v_lane)), (h_many, .inl (cy 0, 8, .inl v_many)), (h_items, .inl (cy 0, 320, .inl v_items))]) C hA hP hD hS mfX12_lays t5_135 ts_28 t5_133 (ccX12_lays l D cy h_this h_now h_comes h_standing h_habit h_brought (.ref h_lane) (.ref h_many) (.ref h_items) x_spare x_tape x_draft x_tried x_past x_images x_kept x_trace 0 v_taped v_faultKind v_faultPlace v_at v_start v_token v_value v_acts v_traced v_livedMany v_now v_comes v_standing u6_habit v_brought _ hF) [3, 6, 0, 1, 7, 2] [4, 5, 8] rfl rfl (by decide) (by decide) (by decide) PO.np 3 11 rfl rfl rfl rfl hl.1 rfl (Nat.le_of_ble_eq_true rfl) dX12_mean_52 ⟨Nat.le_of_ble_eq_true rfl, Nat.le_of_ble_eq_true rfl⟩ ⟨Nat.le_of_ble_eq_true rfl, Nat.le_of_ble_eq_true rfl⟩ ?_
          rintro ⟨⟩ w1 H locs ⟨u8_comes, u9_standing, u10_brought, rfl, hF⟩ hP hD hS
          have hP : va_P D CL [(h_lane, .inl (cy 0, 8, .inl v_lane)), (h_many, .inl (cy 0, 8, .inl v_many)), (h_items, .inl (cy 0, 320, .inl v_items)), (h_this, .inr (11, [.ref h_lane, .ref h_many, .ref h_items, x_spare, .int 0, x_tape, .int v_taped, .int v_faultKind, .int v_faultPlace, .int v_at, .int v_start, .int v_token, .int v_value, .ref h_now, x_draft, x_tried, x_past, .int v_acts, x_images, x_kept, x_trace, .int v_traced, .ref h_comes, .ref h_standing, .ref h_brought, .ref h_habit, .int v_livedMany])), (h_now, .inl (cy 0, 124, .inl v_now)), (h_comes, .inl (cy 1, 8, .inr (.inl u8_comes))), (h_standing, .inl (cy 1, 8, .inr (.inl u9_standing))), (h_habit, .inl (cy 0, 3, .inl u6_habit)), (h_brought, .inl (cy 1, 24, .inr (.inl u10_brought)))] H := hP
          have hD : va_D A [(h_lane, .inl (cy 0, 8, .inl v_lane)), (h_many, .inl (cy 0, 8, .inl v_many)), (h_items, .inl (cy 0, 320, .inl v_items)), (h_this, .inr (11, [.ref h_lane, .ref h_many, .ref h_items, x_spare, .int 0, x_tape, .int v_taped, .int v_faultKind, .int v_faultPlace, .int v_at, .int v_start, .int v_token, .int v_value, .ref h_now, x_draft, x_tried, x_past, .int v_acts, x_images, x_kept, x_trace, .int v_traced, .ref h_comes, .ref h_standing, .ref h_brought, .ref h_habit, .int v_livedMany])), (h_now, .inl (cy 0, 124, .inl v_now)), (h_comes, .inl (cy 1, 8, .inr (.inl u8_comes))), (h_standing, .inl (cy 1, 8, .inr (.inl u9_standing))), (h_habit, .inl (cy 0, 3, .inl u6_habit)), (h_brought, .inl (cy 1, 24, .inr (.inl u10_brought)))] := hD
          refine W.eq (g2 := F0 m 55 ls []) rfl ?_
          refine lv_aload_n hx hb dX12_mean_55 rfl (lv_at hl 1 rfl) ?_
          refine lv_iload_n hx hb dX12_mean_56 rfl (lv_at hl 3 rfl) ?_
          refine cV_r (As := [.int p1]) C mfX12_meanOf t5_156 ts_30 t5_154 (ccX12_meanOf l D cy h_this h_now h_brought (.ref h_lane) (.ref h_many) (.ref h_items) x_spare x_tape x_draft x_tried x_past x_images x_kept x_trace (.ref h_comes) (.ref h_standing) (.ref h_habit) 0 v_taped v_faultKind v_faultPlace v_at v_start v_token v_value v_acts v_traced v_livedMany v_now u10_brought p1 _ hF) rfl rfl (hP.sub [3, 4, 8] rfl) PR.np hP 3 11 rfl rfl rfl rfl hl.1 rfl (Nat.le_of_ble_eq_true rfl) dX12_mean_57 ⟨Nat.le_of_ble_eq_true rfl, Nat.le_of_ble_eq_true rfl⟩ ⟨Nat.le_of_ble_eq_true rfl, Nat.le_of_ble_eq_true rfl⟩ ?_
          intro r11 hF
          refine W.eq (g2 := F0 m 60 ls [.long r11]) rfl ?_
          refine lv_iconst (v := 4) hx hb dX12_mean_60 (by decide) ?_
          refine lv_aload_n hx hb dX12_mean_61 rfl (lv_at hl 1 rfl) ?_
          refine va_get (D := D) (ci := 11) (v := .ref h_now) (C := RX12) (T := TX12) (N := 27) hx hb hts inTX12 hown hK.1 hP 3 rfl rfl 13 (by decide) (hts _ t4_137) (fun _ h9 => h9) rfl dX12_mean_62 ?_
          refine lv_iconst (v := 1) hx hb dX12_mean_65 (by decide) ?_
          refine s_iald (j := 1) hx hb hK.1 hP 4 0 rfl rfl (vi (by decide)) (by decide) dX12_mean_66 ?_
          refine lv_imul hx hb dX12_mean_67 ?_
          refine cS_r (As := [.int (4 * (v_now 1))]) C mfX12_power t5_145 t5_144 (ccX12_power l D cy (4 * (v_now 1)) _ hF) rfl rfl (hP.sub [] rfl) PR.np rfl hl.1 rfl (Nat.le_of_ble_eq_true rfl) dX12_mean_68 ⟨Nat.le_of_ble_eq_true rfl, Nat.le_of_ble_eq_true rfl⟩ ⟨Nat.le_of_ble_eq_true rfl, Nat.le_of_ble_eq_true rfl⟩ ?_
          intro r12 hF
          refine W.eq (g2 := F0 m 71 ls [.long r12, .long r11]) rfl ?_
          refine lv_iload_n hx hb dX12_mean_71 rfl (lv_at hl 4 rfl) ?_
          refine cS_r (As := [.long r11, .long r12, .int (bz p2)]) C mfX12_tells t5_148 t5_147 (ccX12_tells l D cy r11 r12 p2 _ hF) rfl rfl (hP.sub [] rfl) PR.np rfl hl.1 rfl (Nat.le_of_ble_eq_true rfl) dX12_mean_72 ⟨Nat.le_of_ble_eq_true rfl, Nat.le_of_ble_eq_true rfl⟩ ⟨Nat.le_of_ble_eq_true rfl, Nat.le_of_ble_eq_true rfl⟩ ?_
          intro r13 hF
          refine W.eq (g2 := F0 m 75 ls [.long r13]) rfl ?_
          have hP : va_P D CL [(h_this, .inr (11, [.ref h_lane, .ref h_many, .ref h_items, x_spare, .int 0, x_tape, .int v_taped, .int v_faultKind, .int v_faultPlace, .int v_at, .int v_start, .int v_token, .int v_value, .ref h_now, x_draft, x_tried, x_past, .int v_acts, x_images, x_kept, x_trace, .int v_traced, .ref h_comes, .ref h_standing, .ref h_brought, .ref h_habit, .int v_livedMany])), (h_now, .inl (cy 0, 124, .inl v_now)), (h_lane, .inl (cy 0, 8, .inl v_lane)), (h_many, .inl (cy 0, 8, .inl v_many)), (h_habit, .inl (cy 0, 3, .inl u6_habit)), (h_items, .inl (cy 0, 320, .inl v_items)), (h_comes, .inl (cy 1, 8, .inr (.inl u8_comes))), (h_standing, .inl (cy 1, 8, .inr (.inl u9_standing))), (h_brought, .inl (cy 1, 24, .inr (.inl u10_brought)))] H := (hP.sub [3, 4, 0, 1, 7, 2, 5, 6, 8] rfl)
          have hD : va_D A [(h_this, .inr (11, [.ref h_lane, .ref h_many, .ref h_items, x_spare, .int 0, x_tape, .int v_taped, .int v_faultKind, .int v_faultPlace, .int v_at, .int v_start, .int v_token, .int v_value, .ref h_now, x_draft, x_tried, x_past, .int v_acts, x_images, x_kept, x_trace, .int v_traced, .ref h_comes, .ref h_standing, .ref h_brought, .ref h_habit, .int v_livedMany])), (h_now, .inl (cy 0, 124, .inl v_now)), (h_lane, .inl (cy 0, 8, .inl v_lane)), (h_many, .inl (cy 0, 8, .inl v_many)), (h_habit, .inl (cy 0, 3, .inl u6_habit)), (h_items, .inl (cy 0, 320, .inl v_items)), (h_comes, .inl (cy 1, 8, .inr (.inl u8_comes))), (h_standing, .inl (cy 1, 8, .inr (.inl u9_standing))), (h_brought, .inl (cy 1, 24, .inr (.inl u10_brought)))] := (hD.sub [3, 4, 0, 1, 7, 2, 5, 6, 8] (by decide) rfl)
          exact rt_l C hQ rfl hP hD hS ⟨0, u6_habit, u8_comes, u9_standing, u10_brought, rfl, hF⟩ dX12_mean_75
        · have hF := hF.2 c_
          refine lv_iload hx hb dX12_mean_42 (lv_at hl 0 rfl) ?_
          refine lv_i2l hx hb dX12_mean_44 rfl ?_
          have hP : va_P D CL [(h_this, .inr (11, [.ref h_lane, .ref h_many, .ref h_items, x_spare, .int u5_status, x_tape, .int v_taped, .int v_faultKind, .int v_faultPlace, .int v_at, .int v_start, .int v_token, .int v_value, .ref h_now, x_draft, x_tried, x_past, .int v_acts, x_images, x_kept, x_trace, .int v_traced, .ref h_comes, .ref h_standing, .ref h_brought, .ref h_habit, .int v_livedMany])), (h_now, .inl (cy 0, 124, .inl v_now)), (h_lane, .inl (cy 0, 8, .inl v_lane)), (h_many, .inl (cy 0, 8, .inl v_many)), (h_habit, .inl (cy 0, 3, .inl u6_habit)), (h_items, .inl (cy 0, 320, .inl v_items)), (h_comes, .inl (cy 1, 8, .inr (.inl v_comes))), (h_standing, .inl (cy 1, 8, .inr (.inl v_standing))), (h_brought, .inl (cy 1, 24, .inr (.inl v_brought)))] H := (hP.sub [3, 6, 4, 5, 7, 8, 0, 1, 2] rfl)
          have hD : va_D A [(h_this, .inr (11, [.ref h_lane, .ref h_many, .ref h_items, x_spare, .int u5_status, x_tape, .int v_taped, .int v_faultKind, .int v_faultPlace, .int v_at, .int v_start, .int v_token, .int v_value, .ref h_now, x_draft, x_tried, x_past, .int v_acts, x_images, x_kept, x_trace, .int v_traced, .ref h_comes, .ref h_standing, .ref h_brought, .ref h_habit, .int v_livedMany])), (h_now, .inl (cy 0, 124, .inl v_now)), (h_lane, .inl (cy 0, 8, .inl v_lane)), (h_many, .inl (cy 0, 8, .inl v_many)), (h_habit, .inl (cy 0, 3, .inl u6_habit)), (h_items, .inl (cy 0, 320, .inl v_items)), (h_comes, .inl (cy 1, 8, .inr (.inl v_comes))), (h_standing, .inl (cy 1, 8, .inr (.inl v_standing))), (h_brought, .inl (cy 1, 24, .inr (.inl v_brought)))] := (hD.sub [3, 6, 4, 5, 7, 8, 0, 1, 2] (by decide) rfl)
          exact rt_l C hQ rfl hP hD hS ⟨u5_status, u6_habit, v_comes, v_standing, v_brought, rfl, hF⟩ dX12_mean_45
      · have hF := hF.2 ((bz_0 _).mp c_)
        refine lv_ldc2 hx hb hown (hts _ t5_128) dX12_mean_26 ?_
        exact rt_l C hQ rfl hP hD hS ⟨v_status, v_habit, v_comes, v_standing, v_brought, rfl, hF⟩ dX12_mean_29
  · have hF := hF.2 ((bz_0 _).mp c_)
    refine lv_ldc2 hx hb hown (hts _ t5_127) dX12_mean_7 ?_
    exact rt_l C hQ rfl hP hD hS ⟨v_status, v_habit, v_comes, v_standing, v_brought, rfl, hF⟩ dX12_mean_10

def wjX12_bestOf_80 (v_now : Nat → Int32) (post : Int32 → (Nat → Int32) → (Nat → Int64) → (Nat → Int64) → (Nat → Int64) → Prop) (K_15 : Int32 → Int32 → Int32 → Int64 → Int32 → (Nat → Int32) → (Nat → Int64) → (Nat → Int64) → (Nat → Int64) → Prop) (l1 : Int32) (l2 : Int32) (l3 : Int32) (l6 : Int32) (k0 : Int64) (w_habit : Nat → Int32) (w_comes : Nat → Int64) (w_standing : Nat → Int64) (w_brought : Nat → Int64) : Prop := K_15 l1 l2 l3 k0 (l6 + 1) w_habit w_comes w_standing w_brought
def wjX12_bestOf_73 (v_now : Nat → Int32) (post : Int32 → (Nat → Int32) → (Nat → Int64) → (Nat → Int64) → (Nat → Int64) → Prop) (K_15 : Int32 → Int32 → Int32 → Int64 → Int32 → (Nat → Int32) → (Nat → Int64) → (Nat → Int64) → (Nat → Int64) → Prop) (l1 : Int32) (l2 : Int32) (l3 : Int32) (l6 : Int32) (l7 : Int64) (w_habit : Nat → Int32) (w_comes : Nat → Int64) (w_standing : Nat → Int64) (w_brought : Nat → Int64) : Prop := wjX12_bestOf_80 v_now post K_15 l1 l2 l3 l6 l7 w_habit w_comes w_standing w_brought
def wjX12_bestOf_59 (v_now : Nat → Int32) (post : Int32 → (Nat → Int32) → (Nat → Int64) → (Nat → Int64) → (Nat → Int64) → Prop) (K_15 : Int32 → Int32 → Int32 → Int64 → Int32 → (Nat → Int32) → (Nat → Int64) → (Nat → Int64) → (Nat → Int64) → Prop) (l1 : Int32) (l2 : Int32) (l4 : Int64) (l6 : Int32) (l7 : Int64) (k0 : Int32) (w_habit : Nat → Int32) (w_comes : Nat → Int64) (w_standing : Nat → Int64) (w_brought : Nat → Int64) : Prop := (l6 = 0 → (wjX12_bestOf_73 v_now post K_15 l1 l2 k0 l6 l7 w_habit w_comes w_standing w_brought)) ∧ (¬ l6 = 0 → ((l7 ≤ l4 → (wjX12_bestOf_80 v_now post K_15 l1 l2 k0 l6 l4 w_habit w_comes w_standing w_brought)) ∧ (¬ l7 ≤ l4 → (wjX12_bestOf_73 v_now post K_15 l1 l2 k0 l6 l7 w_habit w_comes w_standing w_brought))))
def wjX12_bestOf_53 (v_now : Nat → Int32) (post : Int32 → (Nat → Int32) → (Nat → Int64) → (Nat → Int64) → (Nat → Int64) → Prop) (K_15 : Int32 → Int32 → Int32 → Int64 → Int32 → (Nat → Int32) → (Nat → Int64) → (Nat → Int64) → (Nat → Int64) → Prop) (l1 : Int32) (l2 : Int32) (l4 : Int64) (l6 : Int32) (l7 : Int64) (w_habit : Nat → Int32) (w_comes : Nat → Int64) (w_standing : Nat → Int64) (w_brought : Nat → Int64) : Prop := wjX12_bestOf_59 v_now post K_15 l1 l2 l4 l6 l7 l6 w_habit w_comes w_standing w_brought
def wlX12_bestOf_15 (v_now : Nat → Int32) (post : Int32 → (Nat → Int32) → (Nat → Int64) → (Nat → Int64) → (Nat → Int64) → Prop) : Nat → Int32 → Int32 → Int32 → Int64 → Int32 → (Nat → Int32) → (Nat → Int64) → (Nat → Int64) → (Nat → Int64) → Prop
  | 0, _, _, _, _, _, _, _, _, _ => False
  | n + 1, l1, l2, l3, l4, l6, w_habit, w_comes, w_standing, w_brought => (3 ≤ l6 → (vp_in l1 3 ∧ (post l3 (upd w_habit ((l1).toNatClampNeg) l2) w_comes w_standing w_brought))) ∧ (¬ 3 ≤ l6 → (vp_in l1 3 ∧ (wpX12_lays v_now w_comes w_standing (upd w_habit ((l1).toNatClampNeg) l6) w_brought (fun _ u4_comes u5_standing u6_brought => wpX12_meanOf l1 v_now u6_brought (fun r7 => (l6 = 0 → (wjX12_bestOf_53 v_now post (wlX12_bestOf_15 v_now post n) l1 l2 l4 l6 r7 (upd w_habit ((l1).toNatClampNeg) l6) u4_comes u5_standing u6_brought)) ∧ (¬ l6 = 0 → ((r7 ≤ l4 → (wjX12_bestOf_59 v_now post (wlX12_bestOf_15 v_now post n) l1 l2 l4 l6 r7 l3 (upd w_habit ((l1).toNatClampNeg) l6) u4_comes u5_standing u6_brought)) ∧ (¬ r7 ≤ l4 → (wjX12_bestOf_53 v_now post (wlX12_bestOf_15 v_now post n) l1 l2 l4 l6 r7 (upd w_habit ((l1).toNatClampNeg) l6) u4_comes u5_standing u6_brought)))))))))
def wpX12_bestOf (p0 : Int32) (v_habit : Nat → Int32) (v_now : Nat → Int32) (v_comes : Nat → Int64) (v_standing : Nat → Int64) (v_brought : Nat → Int64) (post : Int32 → (Nat → Int32) → (Nat → Int64) → (Nat → Int64) → (Nat → Int64) → Prop) : Prop := vp_in p0 3 ∧ (wlX12_bestOf_15 v_now post fu p0 (v_habit ((p0).toNatClampNeg)) 0 0 0 v_habit v_comes v_standing v_brought)
abbrev miX12_bestOf : MI := (yX12_bestOf, cX12_bestOf, 9, (some .int))
theorem mfX12_bestOf : MF miX12_bestOf 1 := ⟨t5_165, t1_8, by decide +kernel⟩
abbrev rmX12_bestOf : Room := { frames := 4, cells := 0, slots := 0, locals := 98 }
set_option maxHeartbeats 4000000 in
set_option maxRecDepth 100000 in
theorem ccX12_bestOf (l : Launch) (D : va_G) (cy : Nat → ClassId) (h_this : Nat) (h_habit : Nat) (h_now : Nat) (h_comes : Nat) (h_standing : Nat) (h_brought : Nat) (x_lane : Value) (x_many : Value) (x_items : Value) (x_spare : Value) (x_tape : Value) (x_draft : Value) (x_tried : Value) (x_past : Value) (x_images : Value) (x_kept : Value) (x_trace : Value) (v_status : Int32) (v_taped : Int32) (v_faultKind : Int32) (v_faultPlace : Int32) (v_at : Int32) (v_start : Int32) (v_token : Int32) (v_value : Int32) (v_acts : Int32) (v_traced : Int32) (v_livedMany : Int32) (v_habit : Nat → Int32) (v_now : Nat → Int32) (v_comes : Nat → Int64) (v_standing : Nat → Int64) (v_brought : Nat → Int64) (p0 : Int32) (post : Int32 → (Nat → Int32) → (Nat → Int64) → (Nat → Int64) → (Nat → Int64) → Prop) (hF : wpX12_bestOf p0 v_habit v_now v_comes v_standing v_brought post) : Ct l D cy miX12_bestOf rmX12_bestOf emI NP [.ref h_this, .int p0] [(h_this, .inr (11, [x_lane, x_many, x_items, x_spare, .int v_status, x_tape, .int v_taped, .int v_faultKind, .int v_faultPlace, .int v_at, .int v_start, .int v_token, .int v_value, .ref h_now, x_draft, x_tried, x_past, .int v_acts, x_images, x_kept, x_trace, .int v_traced, .ref h_comes, .ref h_standing, .ref h_brought, .ref h_habit, .int v_livedMany])), (h_habit, .inl (cy 0, 3, .inl v_habit)), (h_now, .inl (cy 0, 124, .inl v_now)), (h_comes, .inl (cy 1, 8, .inr (.inl v_comes))), (h_standing, .inl (cy 1, 8, .inr (.inl v_standing))), (h_brought, .inl (cy 1, 24, .inr (.inl v_brought)))] (fun r w1 => ∃ (w_habit : Nat → Int32) (w_comes : Nat → Int64) (w_standing : Nat → Int64) (w_brought : Nat → Int64), w1 = [(h_this, .inr (11, [x_lane, x_many, x_items, x_spare, .int v_status, x_tape, .int v_taped, .int v_faultKind, .int v_faultPlace, .int v_at, .int v_start, .int v_token, .int v_value, .ref h_now, x_draft, x_tried, x_past, .int v_acts, x_images, x_kept, x_trace, .int v_traced, .ref h_comes, .ref h_standing, .ref h_brought, .ref h_habit, .int v_livedMany])), (h_habit, .inl (cy 0, 3, .inl w_habit)), (h_now, .inl (cy 0, 124, .inl v_now)), (h_comes, .inl (cy 1, 8, .inr (.inl w_comes))), (h_standing, .inl (cy 1, 8, .inr (.inl w_standing))), (h_brought, .inl (cy 1, 24, .inr (.inl w_brought)))] ∧ post r w_habit w_comes w_standing w_brought) := by
  refine Ct.of (by decide) (Nat.le_of_ble_eq_true rfl) ?_
  intro p e s m args below meth c A ls Q C hQ hA hI hP hD hS hl
  obtain ⟨hx, hb, hr, hml, hown, hts, hK, hlk, hnm⟩ := id C
  have hb : c.code = cX12_bestOf := hb
  have hml : c.maxLocals = 9 := hml
  have hown : s.vm.findClass RX12 = some m.cls := hown
  have hl : lv_has ls 9 [(0, .ref h_this), (1, .int p0)] := hl
  have L_15 : ∀ (n_15 : Nat) (l1 : Int32) (l2 : Int32) (l3 : Int32) (l4 : Int64) (l6 : Int32) (w_habit : Nat → Int32) (w_comes : Nat → Int64) (w_standing : Nat → Int64) (w_brought : Nat → Int64) (H : Heap) (locs : List Loc) (ls : Array Slot), va_P D CL [(h_this, .inr (11, [x_lane, x_many, x_items, x_spare, .int v_status, x_tape, .int v_taped, .int v_faultKind, .int v_faultPlace, .int v_at, .int v_start, .int v_token, .int v_value, .ref h_now, x_draft, x_tried, x_past, .int v_acts, x_images, x_kept, x_trace, .int v_traced, .ref h_comes, .ref h_standing, .ref h_brought, .ref h_habit, .int v_livedMany])), (h_habit, .inl (cy 0, 3, .inl w_habit)), (h_now, .inl (cy 0, 124, .inl v_now)), (h_comes, .inl (cy 1, 8, .inr (.inl w_comes))), (h_standing, .inl (cy 1, 8, .inr (.inl w_standing))), (h_brought, .inl (cy 1, 24, .inr (.inl w_brought)))] H → va_D A [(h_this, .inr (11, [x_lane, x_many, x_items, x_spare, .int v_status, x_tape, .int v_taped, .int v_faultKind, .int v_faultPlace, .int v_at, .int v_start, .int v_token, .int v_value, .ref h_now, x_draft, x_tried, x_past, .int v_acts, x_images, x_kept, x_trace, .int v_traced, .ref h_comes, .ref h_standing, .ref h_brought, .ref h_habit, .int v_livedMany])), (h_habit, .inl (cy 0, 3, .inl w_habit)), (h_now, .inl (cy 0, 124, .inl v_now)), (h_comes, .inl (cy 1, 8, .inr (.inl w_comes))), (h_standing, .inl (cy 1, 8, .inr (.inl w_standing))), (h_brought, .inl (cy 1, 24, .inr (.inl w_brought)))] → va_S A s.heap H locs → lv_has ls 9 [(0, .ref h_this), (1, .int l1), (2, .int l2), (3, .int l3), (4, .long l4), (6, .int l6)] → wlX12_bestOf_15 v_now post n_15 l1 l2 l3 l4 l6 w_habit w_comes w_standing w_brought → W p l e rmX12_bestOf s m args below meth c H locs 0 0 Q (F0 m 15 ls []) := by
    intro n_15
    induction n_15 with
    | zero =>
      intro l1 l2 l3 l4 l6 w_habit w_comes w_standing w_brought H locs ls  hP hD hS hl hF
      simp only [wlX12_bestOf_15] at hF
    | succ n_15 ih_15 =>
      have J_80 : ∀ (l1 : Int32) (l2 : Int32) (l3 : Int32) (l6 : Int32) (k0 : Int64) (w_habit : Nat → Int32) (w_comes : Nat → Int64) (w_standing : Nat → Int64) (w_brought : Nat → Int64) (H : Heap) (locs : List Loc) (ls : Array Slot), va_P D CL [(h_this, .inr (11, [x_lane, x_many, x_items, x_spare, .int v_status, x_tape, .int v_taped, .int v_faultKind, .int v_faultPlace, .int v_at, .int v_start, .int v_token, .int v_value, .ref h_now, x_draft, x_tried, x_past, .int v_acts, x_images, x_kept, x_trace, .int v_traced, .ref h_comes, .ref h_standing, .ref h_brought, .ref h_habit, .int v_livedMany])), (h_habit, .inl (cy 0, 3, .inl w_habit)), (h_now, .inl (cy 0, 124, .inl v_now)), (h_comes, .inl (cy 1, 8, .inr (.inl w_comes))), (h_standing, .inl (cy 1, 8, .inr (.inl w_standing))), (h_brought, .inl (cy 1, 24, .inr (.inl w_brought)))] H → va_D A [(h_this, .inr (11, [x_lane, x_many, x_items, x_spare, .int v_status, x_tape, .int v_taped, .int v_faultKind, .int v_faultPlace, .int v_at, .int v_start, .int v_token, .int v_value, .ref h_now, x_draft, x_tried, x_past, .int v_acts, x_images, x_kept, x_trace, .int v_traced, .ref h_comes, .ref h_standing, .ref h_brought, .ref h_habit, .int v_livedMany])), (h_habit, .inl (cy 0, 3, .inl w_habit)), (h_now, .inl (cy 0, 124, .inl v_now)), (h_comes, .inl (cy 1, 8, .inr (.inl w_comes))), (h_standing, .inl (cy 1, 8, .inr (.inl w_standing))), (h_brought, .inl (cy 1, 24, .inr (.inl w_brought)))] → va_S A s.heap H locs → lv_has ls 9 [(0, .ref h_this), (1, .int l1), (2, .int l2), (3, .int l3), (6, .int l6)] → wjX12_bestOf_80 v_now post (wlX12_bestOf_15 v_now post n_15) l1 l2 l3 l6 k0 w_habit w_comes w_standing w_brought → W p l e rmX12_bestOf s m args below meth c H locs 0 0 Q (F0 m 80 ls [.long k0]) := by
        intro l1 l2 l3 l6 k0 w_habit w_comes w_standing w_brought H locs ls  hP hD hS hl hF
        unfold wjX12_bestOf_80 at hF
        refine lv_lstore (lv' := [(4, .long k0), (0, .ref h_this), (1, .int l1), (2, .int l2), (3, .int l3), (6, .int l6)]) hx hb dX12_bestOf_80 hl (by decide) rfl (fun ls hl => ?_)
        refine lv_iinc (v := (l6 + 1)) (lv' := [(6, .int (l6 + 1)), (4, .long k0), (0, .ref h_this), (1, .int l1), (2, .int l2), (3, .int l3)]) hx hb dX12_bestOf_82 hl (k := 5) rfl rfl (by decide) rfl (fun ls hl => ?_)
        refine lv_goto (tgt := 15) hx hb dX12_bestOf_85 (by decide) ?_
        exact ih_15 l1 l2 l3 k0 (l6 + 1) w_habit w_comes w_standing w_brought _ _ ls  hP hD hS (lv_sub hl [2, 3, 4, 5, 1, 0] rfl) hF
      have J_73 : ∀ (l1 : Int32) (l2 : Int32) (l3 : Int32) (l6 : Int32) (l7 : Int64) (w_habit : Nat → Int32) (w_comes : Nat → Int64) (w_standing : Nat → Int64) (w_brought : Nat → Int64) (H : Heap) (locs : List Loc) (ls : Array Slot), va_P D CL [(h_this, .inr (11, [x_lane, x_many, x_items, x_spare, .int v_status, x_tape, .int v_taped, .int v_faultKind, .int v_faultPlace, .int v_at, .int v_start, .int v_token, .int v_value, .ref h_now, x_draft, x_tried, x_past, .int v_acts, x_images, x_kept, x_trace, .int v_traced, .ref h_comes, .ref h_standing, .ref h_brought, .ref h_habit, .int v_livedMany])), (h_habit, .inl (cy 0, 3, .inl w_habit)), (h_now, .inl (cy 0, 124, .inl v_now)), (h_comes, .inl (cy 1, 8, .inr (.inl w_comes))), (h_standing, .inl (cy 1, 8, .inr (.inl w_standing))), (h_brought, .inl (cy 1, 24, .inr (.inl w_brought)))] H → va_D A [(h_this, .inr (11, [x_lane, x_many, x_items, x_spare, .int v_status, x_tape, .int v_taped, .int v_faultKind, .int v_faultPlace, .int v_at, .int v_start, .int v_token, .int v_value, .ref h_now, x_draft, x_tried, x_past, .int v_acts, x_images, x_kept, x_trace, .int v_traced, .ref h_comes, .ref h_standing, .ref h_brought, .ref h_habit, .int v_livedMany])), (h_habit, .inl (cy 0, 3, .inl w_habit)), (h_now, .inl (cy 0, 124, .inl v_now)), (h_comes, .inl (cy 1, 8, .inr (.inl w_comes))), (h_standing, .inl (cy 1, 8, .inr (.inl w_standing))), (h_brought, .inl (cy 1, 24, .inr (.inl w_brought)))] → va_S A s.heap H locs → lv_has ls 9 [(0, .ref h_this), (1, .int l1), (2, .int l2), (3, .int l3), (6, .int l6), (7, .long l7)] → wjX12_bestOf_73 v_now post (wlX12_bestOf_15 v_now post n_15) l1 l2 l3 l6 l7 w_habit w_comes w_standing w_brought → W p l e rmX12_bestOf s m args below meth c H locs 0 0 Q (F0 m 73 ls []) := by
        intro l1 l2 l3 l6 l7 w_habit w_comes w_standing w_brought H locs ls  hP hD hS hl hF
        unfold wjX12_bestOf_73 at hF
        refine lv_lload hx hb dX12_bestOf_73 (lv_at hl 5 rfl) ?_
        refine lv_goto (tgt := 80) hx hb dX12_bestOf_75 (by decide) ?_
        exact J_80 l1 l2 l3 l6 l7 w_habit w_comes w_standing w_brought _ _ ls  hP hD hS (lv_sub hl [0, 1, 2, 3, 4] rfl) hF
      have J_59 : ∀ (l1 : Int32) (l2 : Int32) (l4 : Int64) (l6 : Int32) (l7 : Int64) (k0 : Int32) (w_habit : Nat → Int32) (w_comes : Nat → Int64) (w_standing : Nat → Int64) (w_brought : Nat → Int64) (H : Heap) (locs : List Loc) (ls : Array Slot), va_P D CL [(h_this, .inr (11, [x_lane, x_many, x_items, x_spare, .int v_status, x_tape, .int v_taped, .int v_faultKind, .int v_faultPlace, .int v_at, .int v_start, .int v_token, .int v_value, .ref h_now, x_draft, x_tried, x_past, .int v_acts, x_images, x_kept, x_trace, .int v_traced, .ref h_comes, .ref h_standing, .ref h_brought, .ref h_habit, .int v_livedMany])), (h_habit, .inl (cy 0, 3, .inl w_habit)), (h_now, .inl (cy 0, 124, .inl v_now)), (h_comes, .inl (cy 1, 8, .inr (.inl w_comes))), (h_standing, .inl (cy 1, 8, .inr (.inl w_standing))), (h_brought, .inl (cy 1, 24, .inr (.inl w_brought)))] H → va_D A [(h_this, .inr (11, [x_lane, x_many, x_items, x_spare, .int v_status, x_tape, .int v_taped, .int v_faultKind, .int v_faultPlace, .int v_at, .int v_start, .int v_token, .int v_value, .ref h_now, x_draft, x_tried, x_past, .int v_acts, x_images, x_kept, x_trace, .int v_traced, .ref h_comes, .ref h_standing, .ref h_brought, .ref h_habit, .int v_livedMany])), (h_habit, .inl (cy 0, 3, .inl w_habit)), (h_now, .inl (cy 0, 124, .inl v_now)), (h_comes, .inl (cy 1, 8, .inr (.inl w_comes))), (h_standing, .inl (cy 1, 8, .inr (.inl w_standing))), (h_brought, .inl (cy 1, 24, .inr (.inl w_brought)))] → va_S A s.heap H locs → lv_has ls 9 [(0, .ref h_this), (1, .int l1), (2, .int l2), (4, .long l4), (6, .int l6), (7, .long l7)] → wjX12_bestOf_59 v_now post (wlX12_bestOf_15 v_now post n_15) l1 l2 l4 l6 l7 k0 w_habit w_comes w_standing w_brought → W p l e rmX12_bestOf s m args below meth c H locs 0 0 Q (F0 m 59 ls [.int k0]) := by
        intro l1 l2 l4 l6 l7 k0 w_habit w_comes w_standing w_brought H locs ls  hP hD hS hl hF
        unfold wjX12_bestOf_59 at hF
        refine lv_istore_n (lv' := [(3, .int k0), (0, .ref h_this), (1, .int l1), (2, .int l2), (4, .long l4), (6, .int l6), (7, .long l7)]) hx hb dX12_bestOf_59 rfl hl (by decide) rfl (fun ls hl => ?_)
        refine lv_iload hx hb dX12_bestOf_60 (lv_at hl 5 rfl) ?_
        refine lv_if_eq (tgt := 73) hx hb dX12_bestOf_62 (by decide) (fun c_ => ?_) (fun c_ => ?_)
        · have hF := hF.1 c_
          exact J_73 l1 l2 k0 l6 l7 w_habit w_comes w_standing w_brought _ _ ls  hP hD hS (lv_sub hl [1, 2, 3, 0, 5, 6] rfl) hF
        · have hF := hF.2 c_
          refine lv_lload hx hb dX12_bestOf_65 (lv_at hl 6 rfl) ?_
          refine lv_lload hx hb dX12_bestOf_67 (lv_at hl 4 rfl) ?_
          refine W.lcmp hx hb dX12_bestOf_69 ?_
          refine lv_if_le (tgt := 78) hx hb dX12_bestOf_70 (by decide) (fun c_ => ?_) (fun c_ => ?_)
          · have hF := hF.1 ((lg_cmp_le _ _).mp c_)
            refine lv_lload hx hb dX12_bestOf_78 (lv_at hl 4 rfl) ?_
            exact J_80 l1 l2 k0 l6 l4 w_habit w_comes w_standing w_brought _ _ ls  hP hD hS (lv_sub hl [1, 2, 3, 0, 5] rfl) hF
          · have hF := hF.2 (fun z9 => c_ ((lg_cmp_le _ _).mpr z9))
            exact J_73 l1 l2 k0 l6 l7 w_habit w_comes w_standing w_brought _ _ ls  hP hD hS (lv_sub hl [1, 2, 3, 0, 5, 6] rfl) hF
      have J_53 : ∀ (l1 : Int32) (l2 : Int32) (l4 : Int64) (l6 : Int32) (l7 : Int64) (w_habit : Nat → Int32) (w_comes : Nat → Int64) (w_standing : Nat → Int64) (w_brought : Nat → Int64) (H : Heap) (locs : List Loc) (ls : Array Slot), va_P D CL [(h_this, .inr (11, [x_lane, x_many, x_items, x_spare, .int v_status, x_tape, .int v_taped, .int v_faultKind, .int v_faultPlace, .int v_at, .int v_start, .int v_token, .int v_value, .ref h_now, x_draft, x_tried, x_past, .int v_acts, x_images, x_kept, x_trace, .int v_traced, .ref h_comes, .ref h_standing, .ref h_brought, .ref h_habit, .int v_livedMany])), (h_habit, .inl (cy 0, 3, .inl w_habit)), (h_now, .inl (cy 0, 124, .inl v_now)), (h_comes, .inl (cy 1, 8, .inr (.inl w_comes))), (h_standing, .inl (cy 1, 8, .inr (.inl w_standing))), (h_brought, .inl (cy 1, 24, .inr (.inl w_brought)))] H → va_D A [(h_this, .inr (11, [x_lane, x_many, x_items, x_spare, .int v_status, x_tape, .int v_taped, .int v_faultKind, .int v_faultPlace, .int v_at, .int v_start, .int v_token, .int v_value, .ref h_now, x_draft, x_tried, x_past, .int v_acts, x_images, x_kept, x_trace, .int v_traced, .ref h_comes, .ref h_standing, .ref h_brought, .ref h_habit, .int v_livedMany])), (h_habit, .inl (cy 0, 3, .inl w_habit)), (h_now, .inl (cy 0, 124, .inl v_now)), (h_comes, .inl (cy 1, 8, .inr (.inl w_comes))), (h_standing, .inl (cy 1, 8, .inr (.inl w_standing))), (h_brought, .inl (cy 1, 24, .inr (.inl w_brought)))] → va_S A s.heap H locs → lv_has ls 9 [(0, .ref h_this), (1, .int l1), (2, .int l2), (4, .long l4), (6, .int l6), (7, .long l7)] → wjX12_bestOf_53 v_now post (wlX12_bestOf_15 v_now post n_15) l1 l2 l4 l6 l7 w_habit w_comes w_standing w_brought → W p l e rmX12_bestOf s m args below meth c H locs 0 0 Q (F0 m 53 ls []) := by
        intro l1 l2 l4 l6 l7 w_habit w_comes w_standing w_brought H locs ls  hP hD hS hl hF
        unfold wjX12_bestOf_53 at hF
        refine lv_iload hx hb dX12_bestOf_53 (lv_at hl 4 rfl) ?_
        refine lv_goto (tgt := 59) hx hb dX12_bestOf_55 (by decide) ?_
        exact J_59 l1 l2 l4 l6 l7 l6 w_habit w_comes w_standing w_brought _ _ ls  hP hD hS (lv_sub hl [0, 1, 2, 3, 4, 5] rfl) hF
      intro l1 l2 l3 l4 l6 w_habit w_comes w_standing w_brought H locs ls  hP hD hS hl hF
      unfold wlX12_bestOf_15 at hF
      refine lv_iload hx hb dX12_bestOf_15 (lv_at hl 5 rfl) ?_
      refine lv_iconst (v := 3) hx hb dX12_bestOf_17 (by decide) ?_
      refine lv_icmp_ge (tgt := 88) hx hb dX12_bestOf_18 (by decide) (fun c_ => ?_) (fun c_ => ?_)
      · have hF := hF.1 c_
        refine lv_aload_n hx hb dX12_bestOf_88 rfl (lv_at hl 0 rfl) ?_
        refine va_get (D := D) (ci := 11) (v := .ref h_habit) (C := RX12) (T := TX12) (N := 27) hx hb hts inTX12 hown hK.1 hP 0 rfl rfl 25 (by decide) (hts _ t4_149) (fun _ h9 => h9) rfl dX12_bestOf_89 ?_
        refine lv_iload_n hx hb dX12_bestOf_92 rfl (lv_at hl 1 rfl) ?_
        refine lv_iload_n hx hb dX12_bestOf_93 rfl (lv_at hl 2 rfl) ?_
        obtain ⟨hi1, hF⟩ := hF
        refine s_iast (j := (l1).toNatClampNeg) hx hb hK.1 hP hD hS 1 0 rfl rfl hi1 rfl dX12_bestOf_94 (fun H locs hP hD hS => ?_)
        have hP : va_P D CL [(h_this, .inr (11, [x_lane, x_many, x_items, x_spare, .int v_status, x_tape, .int v_taped, .int v_faultKind, .int v_faultPlace, .int v_at, .int v_start, .int v_token, .int v_value, .ref h_now, x_draft, x_tried, x_past, .int v_acts, x_images, x_kept, x_trace, .int v_traced, .ref h_comes, .ref h_standing, .ref h_brought, .ref h_habit, .int v_livedMany])), (h_habit, .inl (cy 0, 3, .inl (upd w_habit ((l1).toNatClampNeg) l2))), (h_now, .inl (cy 0, 124, .inl v_now)), (h_comes, .inl (cy 1, 8, .inr (.inl w_comes))), (h_standing, .inl (cy 1, 8, .inr (.inl w_standing))), (h_brought, .inl (cy 1, 24, .inr (.inl w_brought)))] H := hP
        have hD : va_D A [(h_this, .inr (11, [x_lane, x_many, x_items, x_spare, .int v_status, x_tape, .int v_taped, .int v_faultKind, .int v_faultPlace, .int v_at, .int v_start, .int v_token, .int v_value, .ref h_now, x_draft, x_tried, x_past, .int v_acts, x_images, x_kept, x_trace, .int v_traced, .ref h_comes, .ref h_standing, .ref h_brought, .ref h_habit, .int v_livedMany])), (h_habit, .inl (cy 0, 3, .inl (upd w_habit ((l1).toNatClampNeg) l2))), (h_now, .inl (cy 0, 124, .inl v_now)), (h_comes, .inl (cy 1, 8, .inr (.inl w_comes))), (h_standing, .inl (cy 1, 8, .inr (.inl w_standing))), (h_brought, .inl (cy 1, 24, .inr (.inl w_brought)))] := hD
        refine lv_iload_n hx hb dX12_bestOf_95 rfl (lv_at hl 3 rfl) ?_
        exact rt_i C hQ rfl hP hD hS ⟨(upd w_habit ((l1).toNatClampNeg) l2), w_comes, w_standing, w_brought, rfl, hF⟩ dX12_bestOf_96
      · have hF := hF.2 c_
        refine lv_aload_n hx hb dX12_bestOf_21 rfl (lv_at hl 0 rfl) ?_
        refine va_get (D := D) (ci := 11) (v := .ref h_habit) (C := RX12) (T := TX12) (N := 27) hx hb hts inTX12 hown hK.1 hP 0 rfl rfl 25 (by decide) (hts _ t4_149) (fun _ h9 => h9) rfl dX12_bestOf_22 ?_
        refine lv_iload_n hx hb dX12_bestOf_25 rfl (lv_at hl 1 rfl) ?_
        refine lv_iload hx hb dX12_bestOf_26 (lv_at hl 5 rfl) ?_
        obtain ⟨hi2, hF⟩ := hF
        refine s_iast (j := (l1).toNatClampNeg) hx hb hK.1 hP hD hS 1 0 rfl rfl hi2 rfl dX12_bestOf_28 (fun H locs hP hD hS => ?_)
        have hP : va_P D CL [(h_this, .inr (11, [x_lane, x_many, x_items, x_spare, .int v_status, x_tape, .int v_taped, .int v_faultKind, .int v_faultPlace, .int v_at, .int v_start, .int v_token, .int v_value, .ref h_now, x_draft, x_tried, x_past, .int v_acts, x_images, x_kept, x_trace, .int v_traced, .ref h_comes, .ref h_standing, .ref h_brought, .ref h_habit, .int v_livedMany])), (h_habit, .inl (cy 0, 3, .inl (upd w_habit ((l1).toNatClampNeg) l6))), (h_now, .inl (cy 0, 124, .inl v_now)), (h_comes, .inl (cy 1, 8, .inr (.inl w_comes))), (h_standing, .inl (cy 1, 8, .inr (.inl w_standing))), (h_brought, .inl (cy 1, 24, .inr (.inl w_brought)))] H := hP
        have hD : va_D A [(h_this, .inr (11, [x_lane, x_many, x_items, x_spare, .int v_status, x_tape, .int v_taped, .int v_faultKind, .int v_faultPlace, .int v_at, .int v_start, .int v_token, .int v_value, .ref h_now, x_draft, x_tried, x_past, .int v_acts, x_images, x_kept, x_trace, .int v_traced, .ref h_comes, .ref h_standing, .ref h_brought, .ref h_habit, .int v_livedMany])), (h_habit, .inl (cy 0, 3, .inl (upd w_habit ((l1).toNatClampNeg) l6))), (h_now, .inl (cy 0, 124, .inl v_now)), (h_comes, .inl (cy 1, 8, .inr (.inl w_comes))), (h_standing, .inl (cy 1, 8, .inr (.inl w_standing))), (h_brought, .inl (cy 1, 24, .inr (.inl w_brought)))] := hD
        refine lv_aload_n hx hb dX12_bestOf_29 rfl (lv_at hl 0 rfl) ?_
        refine cV_t (As := []) (wr := []) C hA hP hD hS mfX12_lays t5_135 ts_28 t5_133 (ccX12_lays l D cy h_this h_now h_comes h_standing h_habit h_brought x_lane x_many x_items x_spare x_tape x_draft x_tried x_past x_images x_kept x_trace v_status v_taped v_faultKind v_faultPlace v_at v_start v_token v_value v_acts v_traced v_livedMany v_now w_comes w_standing (upd w_habit ((l1).toNatClampNeg) l6) w_brought _ hF) [0, 2, 3, 4, 1, 5] [] rfl rfl (by decide) (by decide) (by decide) PO.np 0 11 rfl rfl rfl rfl hl.1 rfl (Nat.le_of_ble_eq_true rfl) dX12_bestOf_30 ⟨Nat.le_of_ble_eq_true rfl, Nat.le_of_ble_eq_true rfl⟩ ⟨Nat.le_of_ble_eq_true rfl, Nat.le_of_ble_eq_true rfl⟩ ?_
        rintro ⟨⟩ w1 H locs ⟨u4_comes, u5_standing, u6_brought, rfl, hF⟩ hP hD hS
        have hP : va_P D CL [(h_this, .inr (11, [x_lane, x_many, x_items, x_spare, .int v_status, x_tape, .int v_taped, .int v_faultKind, .int v_faultPlace, .int v_at, .int v_start, .int v_token, .int v_value, .ref h_now, x_draft, x_tried, x_past, .int v_acts, x_images, x_kept, x_trace, .int v_traced, .ref h_comes, .ref h_standing, .ref h_brought, .ref h_habit, .int v_livedMany])), (h_now, .inl (cy 0, 124, .inl v_now)), (h_comes, .inl (cy 1, 8, .inr (.inl u4_comes))), (h_standing, .inl (cy 1, 8, .inr (.inl u5_standing))), (h_habit, .inl (cy 0, 3, .inl (upd w_habit ((l1).toNatClampNeg) l6))), (h_brought, .inl (cy 1, 24, .inr (.inl u6_brought)))] H := hP
        have hD : va_D A [(h_this, .inr (11, [x_lane, x_many, x_items, x_spare, .int v_status, x_tape, .int v_taped, .int v_faultKind, .int v_faultPlace, .int v_at, .int v_start, .int v_token, .int v_value, .ref h_now, x_draft, x_tried, x_past, .int v_acts, x_images, x_kept, x_trace, .int v_traced, .ref h_comes, .ref h_standing, .ref h_brought, .ref h_habit, .int v_livedMany])), (h_now, .inl (cy 0, 124, .inl v_now)), (h_comes, .inl (cy 1, 8, .inr (.inl u4_comes))), (h_standing, .inl (cy 1, 8, .inr (.inl u5_standing))), (h_habit, .inl (cy 0, 3, .inl (upd w_habit ((l1).toNatClampNeg) l6))), (h_brought, .inl (cy 1, 24, .inr (.inl u6_brought)))] := hD
        refine W.eq (g2 := F0 m 33 ls []) rfl ?_
        refine lv_aload_n hx hb dX12_bestOf_33 rfl (lv_at hl 0 rfl) ?_
        refine lv_iload_n hx hb dX12_bestOf_34 rfl (lv_at hl 1 rfl) ?_
        refine cV_r (As := [.int l1]) C mfX12_meanOf t5_156 ts_30 t5_154 (ccX12_meanOf l D cy h_this h_now h_brought x_lane x_many x_items x_spare x_tape x_draft x_tried x_past x_images x_kept x_trace (.ref h_comes) (.ref h_standing) (.ref h_habit) v_status v_taped v_faultKind v_faultPlace v_at v_start v_token v_value v_acts v_traced v_livedMany v_now u6_brought l1 _ hF) rfl rfl (hP.sub [0, 1, 5] rfl) PR.np hP 0 11 rfl rfl rfl rfl hl.1 rfl (Nat.le_of_ble_eq_true rfl) dX12_bestOf_35 ⟨Nat.le_of_ble_eq_true rfl, Nat.le_of_ble_eq_true rfl⟩ ⟨Nat.le_of_ble_eq_true rfl, Nat.le_of_ble_eq_true rfl⟩ ?_
        intro r7 hF
        refine W.eq (g2 := F0 m 38 ls [.long r7]) rfl ?_
        refine lv_lstore (lv' := [(7, .long r7), (0, .ref h_this), (1, .int l1), (2, .int l2), (3, .int l3), (4, .long l4), (6, .int l6)]) hx hb dX12_bestOf_38 hl (by decide) rfl (fun ls hl => ?_)
        refine lv_iload hx hb dX12_bestOf_40 (lv_at hl 6 rfl) ?_
        refine lv_if_eq (tgt := 53) hx hb dX12_bestOf_42 (by decide) (fun c_ => ?_) (fun c_ => ?_)
        · have hF := hF.1 c_
          exact J_53 l1 l2 l4 l6 r7 (upd w_habit ((l1).toNatClampNeg) l6) u4_comes u5_standing u6_brought _ _ ls  (hP.sub [0, 4, 1, 2, 3, 5] rfl) (hD.sub [0, 4, 1, 2, 3, 5] (by decide) rfl) hS (lv_sub hl [1, 2, 3, 5, 6, 0] rfl) hF
        · have hF := hF.2 c_
          refine lv_lload hx hb dX12_bestOf_45 (lv_at hl 0 rfl) ?_
          refine lv_lload hx hb dX12_bestOf_47 (lv_at hl 5 rfl) ?_
          refine W.lcmp hx hb dX12_bestOf_49 ?_
          refine lv_if_le (tgt := 58) hx hb dX12_bestOf_50 (by decide) (fun c_ => ?_) (fun c_ => ?_)
          · have hF := hF.1 ((lg_cmp_le _ _).mp c_)
            refine lv_iload_n hx hb dX12_bestOf_58 rfl (lv_at hl 4 rfl) ?_
            exact J_59 l1 l2 l4 l6 r7 l3 (upd w_habit ((l1).toNatClampNeg) l6) u4_comes u5_standing u6_brought _ _ ls  (hP.sub [0, 4, 1, 2, 3, 5] rfl) (hD.sub [0, 4, 1, 2, 3, 5] (by decide) rfl) hS (lv_sub hl [1, 2, 3, 5, 6, 0] rfl) hF
          · have hF := hF.2 (fun z9 => c_ ((lg_cmp_le _ _).mpr z9))
            exact J_53 l1 l2 l4 l6 r7 (upd w_habit ((l1).toNatClampNeg) l6) u4_comes u5_standing u6_brought _ _ ls  (hP.sub [0, 4, 1, 2, 3, 5] rfl) (hD.sub [0, 4, 1, 2, 3, 5] (by decide) rfl) hS (lv_sub hl [1, 2, 3, 5, 6, 0] rfl) hF
  unfold wpX12_bestOf at hF
  refine lv_aload_n hx hb dX12_bestOf_0 rfl (lv_at hl 0 rfl) ?_
  refine va_get (D := D) (ci := 11) (v := .ref h_habit) (C := RX12) (T := TX12) (N := 27) hx hb hts inTX12 hown hK.1 hP 0 rfl rfl 25 (by decide) (hts _ t4_149) (fun _ h9 => h9) rfl dX12_bestOf_1 ?_
  refine lv_iload_n hx hb dX12_bestOf_4 rfl (lv_at hl 1 rfl) ?_
  obtain ⟨hi1, hF⟩ := hF
  refine s_iald (j := (p0).toNatClampNeg) hx hb hK.1 hP 1 0 rfl rfl hi1 rfl dX12_bestOf_5 ?_
  refine lv_istore_n (lv' := [(2, .int (v_habit ((p0).toNatClampNeg))), (0, .ref h_this), (1, .int p0)]) hx hb dX12_bestOf_6 rfl hl (by decide) rfl (fun ls hl => ?_)
  refine lv_iconst (v := 0) hx hb dX12_bestOf_7 (by decide) ?_
  refine lv_istore_n (lv' := [(3, .int 0), (2, .int (v_habit ((p0).toNatClampNeg))), (0, .ref h_this), (1, .int p0)]) hx hb dX12_bestOf_8 rfl hl (by decide) rfl (fun ls hl => ?_)
  refine lv_lconst (v := 0) hx hb dX12_bestOf_9 (by decide) ?_
  refine lv_lstore (lv' := [(4, .long 0), (3, .int 0), (2, .int (v_habit ((p0).toNatClampNeg))), (0, .ref h_this), (1, .int p0)]) hx hb dX12_bestOf_10 hl (by decide) rfl (fun ls hl => ?_)
  refine lv_iconst (v := 0) hx hb dX12_bestOf_12 (by decide) ?_
  refine lv_istore (lv' := [(6, .int 0), (4, .long 0), (3, .int 0), (2, .int (v_habit ((p0).toNatClampNeg))), (0, .ref h_this), (1, .int p0)]) hx hb dX12_bestOf_13 hl (by decide) rfl (fun ls hl => ?_)
  exact L_15 fu p0 (v_habit ((p0).toNatClampNeg)) 0 0 0 v_habit v_comes v_standing v_brought _ _ ls  hP hD hS (lv_sub hl [4, 5, 3, 2, 1, 0] rfl) hF

def wpX12_best (p0 : Int32) (p1 : Int32) (v_status : Int32) (v_now : Nat → Int32) (v_lane : Nat → Int32) (v_many : Nat → Int32) (v_habit : Nat → Int32) (v_items : Nat → Int32) (v_comes : Nat → Int64) (v_standing : Nat → Int64) (v_brought : Nat → Int64) (post : Int32 → Int32 → (Nat → Int32) → (Nat → Int64) → (Nat → Int64) → (Nat → Int64) → Prop) : Prop := wpX12_isVillage v_now (fun r1 => (r1 = true → (wpX12_isRow p0 (fun r2 => (r2 = false → (post (-1000001) v_status v_habit v_comes v_standing v_brought)) ∧ (r2 = true → (wpX12_isPerson p1 v_now (fun r3 => (r3 = true → (wpX12_notHabits p0 v_status v_lane v_many v_now v_habit v_items (fun r4 u5_status u6_habit => (r4 = 0 → (wpX12_bestOf p1 u6_habit v_now v_comes v_standing v_brought (fun r7 u8_habit u9_comes u10_standing u11_brought => wpX12_well r7 u5_status (fun r12 u13_status => post r12 u13_status u8_habit u9_comes u10_standing u11_brought)))) ∧ (¬ r4 = 0 → (post r4 u5_status u6_habit v_comes v_standing v_brought))))) ∧ (r3 = false → (post (-1000001) v_status v_habit v_comes v_standing v_brought)))))))) ∧ (r1 = false → (post (-1000002) v_status v_habit v_comes v_standing v_brought)))
abbrev miX12_best : MI := (yX12_best, cX12_best, 4, (some .int))
theorem mfX12_best : MF miX12_best 2 := ⟨t5_161, t1_8, by decide +kernel⟩
abbrev rmX12_best : Room := { frames := 5, cells := 0, slots := 0, locals := 126 }
set_option maxHeartbeats 4000000 in
set_option maxRecDepth 100000 in
theorem ccX12_best (l : Launch) (D : va_G) (cy : Nat → ClassId) (h_this : Nat) (h_now : Nat) (h_lane : Nat) (h_many : Nat) (h_habit : Nat) (h_items : Nat) (h_comes : Nat) (h_standing : Nat) (h_brought : Nat) (x_spare : Value) (x_tape : Value) (x_draft : Value) (x_tried : Value) (x_past : Value) (x_images : Value) (x_kept : Value) (x_trace : Value) (v_status : Int32) (v_taped : Int32) (v_faultKind : Int32) (v_faultPlace : Int32) (v_at : Int32) (v_start : Int32) (v_token : Int32) (v_value : Int32) (v_acts : Int32) (v_traced : Int32) (v_livedMany : Int32) (v_now : Nat → Int32) (v_lane : Nat → Int32) (v_many : Nat → Int32) (v_habit : Nat → Int32) (v_items : Nat → Int32) (v_comes : Nat → Int64) (v_standing : Nat → Int64) (v_brought : Nat → Int64) (p0 : Int32) (p1 : Int32) (post : Int32 → Int32 → (Nat → Int32) → (Nat → Int64) → (Nat → Int64) → (Nat → Int64) → Prop) (hF : wpX12_best p0 p1 v_status v_now v_lane v_many v_habit v_items v_comes v_standing v_brought post) : Ct l D cy miX12_best rmX12_best emI NP [.ref h_this, .int p0, .int p1] [(h_this, .inr (11, [.ref h_lane, .ref h_many, .ref h_items, x_spare, .int v_status, x_tape, .int v_taped, .int v_faultKind, .int v_faultPlace, .int v_at, .int v_start, .int v_token, .int v_value, .ref h_now, x_draft, x_tried, x_past, .int v_acts, x_images, x_kept, x_trace, .int v_traced, .ref h_comes, .ref h_standing, .ref h_brought, .ref h_habit, .int v_livedMany])), (h_now, .inl (cy 0, 124, .inl v_now)), (h_lane, .inl (cy 0, 8, .inl v_lane)), (h_many, .inl (cy 0, 8, .inl v_many)), (h_habit, .inl (cy 0, 3, .inl v_habit)), (h_items, .inl (cy 0, 320, .inl v_items)), (h_comes, .inl (cy 1, 8, .inr (.inl v_comes))), (h_standing, .inl (cy 1, 8, .inr (.inl v_standing))), (h_brought, .inl (cy 1, 24, .inr (.inl v_brought)))] (fun r w1 => ∃ (w_status : Int32) (w_habit : Nat → Int32) (w_comes : Nat → Int64) (w_standing : Nat → Int64) (w_brought : Nat → Int64), w1 = [(h_this, .inr (11, [.ref h_lane, .ref h_many, .ref h_items, x_spare, .int w_status, x_tape, .int v_taped, .int v_faultKind, .int v_faultPlace, .int v_at, .int v_start, .int v_token, .int v_value, .ref h_now, x_draft, x_tried, x_past, .int v_acts, x_images, x_kept, x_trace, .int v_traced, .ref h_comes, .ref h_standing, .ref h_brought, .ref h_habit, .int v_livedMany])), (h_now, .inl (cy 0, 124, .inl v_now)), (h_lane, .inl (cy 0, 8, .inl v_lane)), (h_many, .inl (cy 0, 8, .inl v_many)), (h_habit, .inl (cy 0, 3, .inl w_habit)), (h_items, .inl (cy 0, 320, .inl v_items)), (h_comes, .inl (cy 1, 8, .inr (.inl w_comes))), (h_standing, .inl (cy 1, 8, .inr (.inl w_standing))), (h_brought, .inl (cy 1, 24, .inr (.inl w_brought)))] ∧ post r w_status w_habit w_comes w_standing w_brought) := by
  refine Ct.of (by decide) (Nat.le_of_ble_eq_true rfl) ?_
  intro p e s m args below meth c A ls Q C hQ hA hI hP hD hS hl
  obtain ⟨hx, hb, hr, hml, hown, hts, hK, hlk, hnm⟩ := id C
  have hb : c.code = cX12_best := hb
  have hml : c.maxLocals = 4 := hml
  have hown : s.vm.findClass RX12 = some m.cls := hown
  have hl : lv_has ls 4 [(0, .ref h_this), (1, .int p0), (2, .int p1)] := hl
  unfold wpX12_best at hF
  refine lv_aload_n hx hb dX12_best_0 rfl (lv_at hl 0 rfl) ?_
  refine cV_r (As := []) C mfX12_isVillage t5_62 ts_24 t5_60 (ccX12_isVillage l D cy h_this h_now (.ref h_lane) (.ref h_many) (.ref h_items) x_spare x_tape x_draft x_tried x_past x_images x_kept x_trace (.ref h_comes) (.ref h_standing) (.ref h_brought) (.ref h_habit) v_status v_taped v_faultKind v_faultPlace v_at v_start v_token v_value v_acts v_traced v_livedMany v_now _ hF) rfl rfl (hP.sub [0, 1] rfl) PR.np hP 0 11 rfl rfl rfl rfl hl.1 rfl (Nat.le_of_ble_eq_true rfl) dX12_best_1 ⟨Nat.le_of_ble_eq_true rfl, Nat.le_of_ble_eq_true rfl⟩ ⟨Nat.le_of_ble_eq_true rfl, Nat.le_of_ble_eq_true rfl⟩ ?_
  intro r1 hF
  refine W.eq (g2 := F0 m 4 ls [.int (bz r1)]) rfl ?_
  refine lv_if_ne (tgt := 10) hx hb dX12_best_4 (by decide) (fun c_ => ?_) (fun c_ => ?_)
  · have hF := hF.1 ((bz_1 _).mp c_)
    refine lv_iload_n hx hb dX12_best_10 rfl (lv_at hl 1 rfl) ?_
    refine cS_r (As := [.int p0]) C mfX12_isRow t4_212 t4_211 (ccX12_isRow l D cy p0 _ hF) rfl rfl (hP.sub [] rfl) PR.np rfl hl.1 rfl (Nat.le_of_ble_eq_true rfl) dX12_best_11 ⟨Nat.le_of_ble_eq_true rfl, Nat.le_of_ble_eq_true rfl⟩ ⟨Nat.le_of_ble_eq_true rfl, Nat.le_of_ble_eq_true rfl⟩ ?_
    intro r2 hF
    refine W.eq (g2 := F0 m 14 ls [.int (bz r2)]) rfl ?_
    refine lv_if_eq (tgt := 25) hx hb dX12_best_14 (by decide) (fun c_ => ?_) (fun c_ => ?_)
    · have hF := hF.1 ((bz_0 _).mp c_)
      refine lv_ldc hx hb hown (hts _ t4_217) dX12_best_25 ?_
      exact rt_i C hQ rfl hP hD hS ⟨v_status, v_habit, v_comes, v_standing, v_brought, rfl, hF⟩ dX12_best_27
    · have hF := hF.2 ((bz_1 _).mp c_)
      refine lv_aload_n hx hb dX12_best_17 rfl (lv_at hl 0 rfl) ?_
      refine lv_iload_n hx hb dX12_best_18 rfl (lv_at hl 2 rfl) ?_
      refine cV_r (As := [.int p1]) C mfX12_isPerson t5_90 ts_26 t5_88 (ccX12_isPerson l D cy h_this h_now (.ref h_lane) (.ref h_many) (.ref h_items) x_spare x_tape x_draft x_tried x_past x_images x_kept x_trace (.ref h_comes) (.ref h_standing) (.ref h_brought) (.ref h_habit) v_status v_taped v_faultKind v_faultPlace v_at v_start v_token v_value v_acts v_traced v_livedMany v_now p1 _ hF) rfl rfl (hP.sub [0, 1] rfl) PR.np hP 0 11 rfl rfl rfl rfl hl.1 rfl (Nat.le_of_ble_eq_true rfl) dX12_best_19 ⟨Nat.le_of_ble_eq_true rfl, Nat.le_of_ble_eq_true rfl⟩ ⟨Nat.le_of_ble_eq_true rfl, Nat.le_of_ble_eq_true rfl⟩ ?_
      intro r3 hF
      refine W.eq (g2 := F0 m 22 ls [.int (bz r3)]) rfl ?_
      refine lv_if_ne (tgt := 28) hx hb dX12_best_22 (by decide) (fun c_ => ?_) (fun c_ => ?_)
      · have hF := hF.1 ((bz_1 _).mp c_)
        refine lv_aload_n hx hb dX12_best_28 rfl (lv_at hl 0 rfl) ?_
        refine lv_iload_n hx hb dX12_best_29 rfl (lv_at hl 1 rfl) ?_
        refine cV_t (As := [.int p0]) (wr := [(h_comes, .inl (cy 1, 8, .inr (.inl v_comes))), (h_standing, .inl (cy 1, 8, .inr (.inl v_standing))), (h_brought, .inl (cy 1, 24, .inr (.inl v_brought)))]) C hA hP hD hS mfX12_notHabits t5_131 ts_27 t5_129 (ccX12_notHabits l D cy h_this h_lane h_many h_now h_habit h_items x_spare x_tape x_draft x_tried x_past x_images x_kept x_trace (.ref h_comes) (.ref h_standing) (.ref h_brought) v_status v_taped v_faultKind v_faultPlace v_at v_start v_token v_value v_acts v_traced v_livedMany v_lane v_many v_now v_habit v_items p0 _ hF) [0, 2, 3, 1, 4, 5] [6, 7, 8] rfl rfl (by decide) (by decide) (by decide) PO.np 0 11 rfl rfl rfl rfl hl.1 rfl (Nat.le_of_ble_eq_true rfl) dX12_best_30 ⟨Nat.le_of_ble_eq_true rfl, Nat.le_of_ble_eq_true rfl⟩ ⟨Nat.le_of_ble_eq_true rfl, Nat.le_of_ble_eq_true rfl⟩ ?_
        rintro r4 w1 H locs ⟨u5_status, u6_habit, rfl, hF⟩ hP hD hS
        have hP : va_P D CL [(h_comes, .inl (cy 1, 8, .inr (.inl v_comes))), (h_standing, .inl (cy 1, 8, .inr (.inl v_standing))), (h_brought, .inl (cy 1, 24, .inr (.inl v_brought))), (h_this, .inr (11, [.ref h_lane, .ref h_many, .ref h_items, x_spare, .int u5_status, x_tape, .int v_taped, .int v_faultKind, .int v_faultPlace, .int v_at, .int v_start, .int v_token, .int v_value, .ref h_now, x_draft, x_tried, x_past, .int v_acts, x_images, x_kept, x_trace, .int v_traced, .ref h_comes, .ref h_standing, .ref h_brought, .ref h_habit, .int v_livedMany])), (h_lane, .inl (cy 0, 8, .inl v_lane)), (h_many, .inl (cy 0, 8, .inl v_many)), (h_now, .inl (cy 0, 124, .inl v_now)), (h_habit, .inl (cy 0, 3, .inl u6_habit)), (h_items, .inl (cy 0, 320, .inl v_items))] H := hP
        have hD : va_D A [(h_comes, .inl (cy 1, 8, .inr (.inl v_comes))), (h_standing, .inl (cy 1, 8, .inr (.inl v_standing))), (h_brought, .inl (cy 1, 24, .inr (.inl v_brought))), (h_this, .inr (11, [.ref h_lane, .ref h_many, .ref h_items, x_spare, .int u5_status, x_tape, .int v_taped, .int v_faultKind, .int v_faultPlace, .int v_at, .int v_start, .int v_token, .int v_value, .ref h_now, x_draft, x_tried, x_past, .int v_acts, x_images, x_kept, x_trace, .int v_traced, .ref h_comes, .ref h_standing, .ref h_brought, .ref h_habit, .int v_livedMany])), (h_lane, .inl (cy 0, 8, .inl v_lane)), (h_many, .inl (cy 0, 8, .inl v_many)), (h_now, .inl (cy 0, 124, .inl v_now)), (h_habit, .inl (cy 0, 3, .inl u6_habit)), (h_items, .inl (cy 0, 320, .inl v_items))] := hD
        refine W.eq (g2 := F0 m 33 ls [.int r4]) rfl ?_
        refine lv_istore_n (lv' := [(3, .int r4), (0, .ref h_this), (1, .int p0), (2, .int p1)]) hx hb dX12_best_33 rfl hl (by decide) rfl (fun ls hl => ?_)
        refine lv_iload_n hx hb dX12_best_34 rfl (lv_at hl 0 rfl) ?_
        refine lv_if_eq (tgt := 42) hx hb dX12_best_35 (by decide) (fun c_ => ?_) (fun c_ => ?_)
        · have hF := hF.1 c_
          refine lv_aload_n hx hb dX12_best_42 rfl (lv_at hl 1 rfl) ?_
          refine lv_aload_n hx hb dX12_best_43 rfl (lv_at hl 1 rfl) ?_
          refine lv_iload_n hx hb dX12_best_44 rfl (lv_at hl 3 rfl) ?_
          refine cV_t (As := [.int p1]) (wr := [(h_lane, .inl (cy 0, 8, .inl v_lane)), (h_many, .inl (cy 0, 8, .inl v_many)), (h_items, .inl (cy 0, 320, .inl v_items))]) C hA hP hD hS mfX12_bestOf t5_164 ts_31 t5_162 (ccX12_bestOf l D cy h_this h_habit h_now h_comes h_standing h_brought (.ref h_lane) (.ref h_many) (.ref h_items) x_spare x_tape x_draft x_tried x_past x_images x_kept x_trace u5_status v_taped v_faultKind v_faultPlace v_at v_start v_token v_value v_acts v_traced v_livedMany u6_habit v_now v_comes v_standing v_brought p1 _ hF) [3, 7, 6, 0, 1, 2] [4, 5, 8] rfl rfl (by decide) (by decide) (by decide) PO.np 3 11 rfl rfl rfl rfl hl.1 rfl (Nat.le_of_ble_eq_true rfl) dX12_best_45 ⟨Nat.le_of_ble_eq_true rfl, Nat.le_of_ble_eq_true rfl⟩ ⟨Nat.le_of_ble_eq_true rfl, Nat.le_of_ble_eq_true rfl⟩ ?_
          rintro r7 w1 H locs ⟨u8_habit, u9_comes, u10_standing, u11_brought, rfl, hF⟩ hP hD hS
          have hP : va_P D CL [(h_lane, .inl (cy 0, 8, .inl v_lane)), (h_many, .inl (cy 0, 8, .inl v_many)), (h_items, .inl (cy 0, 320, .inl v_items)), (h_this, .inr (11, [.ref h_lane, .ref h_many, .ref h_items, x_spare, .int u5_status, x_tape, .int v_taped, .int v_faultKind, .int v_faultPlace, .int v_at, .int v_start, .int v_token, .int v_value, .ref h_now, x_draft, x_tried, x_past, .int v_acts, x_images, x_kept, x_trace, .int v_traced, .ref h_comes, .ref h_standing, .ref h_brought, .ref h_habit, .int v_livedMany])), (h_habit, .inl (cy 0, 3, .inl u8_habit)), (h_now, .inl (cy 0, 124, .inl v_now)), (h_comes, .inl (cy 1, 8, .inr (.inl u9_comes))), (h_standing, .inl (cy 1, 8, .inr (.inl u10_standing))), (h_brought, .inl (cy 1, 24, .inr (.inl u11_brought)))] H := hP
          have hD : va_D A [(h_lane, .inl (cy 0, 8, .inl v_lane)), (h_many, .inl (cy 0, 8, .inl v_many)), (h_items, .inl (cy 0, 320, .inl v_items)), (h_this, .inr (11, [.ref h_lane, .ref h_many, .ref h_items, x_spare, .int u5_status, x_tape, .int v_taped, .int v_faultKind, .int v_faultPlace, .int v_at, .int v_start, .int v_token, .int v_value, .ref h_now, x_draft, x_tried, x_past, .int v_acts, x_images, x_kept, x_trace, .int v_traced, .ref h_comes, .ref h_standing, .ref h_brought, .ref h_habit, .int v_livedMany])), (h_habit, .inl (cy 0, 3, .inl u8_habit)), (h_now, .inl (cy 0, 124, .inl v_now)), (h_comes, .inl (cy 1, 8, .inr (.inl u9_comes))), (h_standing, .inl (cy 1, 8, .inr (.inl u10_standing))), (h_brought, .inl (cy 1, 24, .inr (.inl u11_brought)))] := hD
          refine W.eq (g2 := F0 m 48 ls [.int r7, .ref h_this]) rfl ?_
          refine cV_t (As := [.int r7]) (wr := [(h_lane, .inl (cy 0, 8, .inl v_lane)), (h_many, .inl (cy 0, 8, .inl v_many)), (h_items, .inl (cy 0, 320, .inl v_items)), (h_habit, .inl (cy 0, 3, .inl u8_habit)), (h_now, .inl (cy 0, 124, .inl v_now)), (h_comes, .inl (cy 1, 8, .inr (.inl u9_comes))), (h_standing, .inl (cy 1, 8, .inr (.inl u10_standing))), (h_brought, .inl (cy 1, 24, .inr (.inl u11_brought)))]) C hA hP hD hS mfX12_well t4_225 ts_15 t4_223 (ccX12_well l D cy h_this (.ref h_lane) (.ref h_many) (.ref h_items) x_spare x_tape (.ref h_now) x_draft x_tried x_past x_images x_kept x_trace (.ref h_comes) (.ref h_standing) (.ref h_brought) (.ref h_habit) u5_status v_taped v_faultKind v_faultPlace v_at v_start v_token v_value v_acts v_traced v_livedMany r7 _ hF) [3] [0, 1, 2, 4, 5, 6, 7, 8] rfl rfl (by decide) (by decide) (by decide) PO.np 3 11 rfl rfl rfl rfl hl.1 rfl (Nat.le_of_ble_eq_true rfl) dX12_best_48 ⟨Nat.le_of_ble_eq_true rfl, Nat.le_of_ble_eq_true rfl⟩ ⟨Nat.le_of_ble_eq_true rfl, Nat.le_of_ble_eq_true rfl⟩ ?_
          rintro r12 w1 H locs ⟨u13_status, rfl, hF⟩ hP hD hS
          have hP : va_P D CL [(h_lane, .inl (cy 0, 8, .inl v_lane)), (h_many, .inl (cy 0, 8, .inl v_many)), (h_items, .inl (cy 0, 320, .inl v_items)), (h_habit, .inl (cy 0, 3, .inl u8_habit)), (h_now, .inl (cy 0, 124, .inl v_now)), (h_comes, .inl (cy 1, 8, .inr (.inl u9_comes))), (h_standing, .inl (cy 1, 8, .inr (.inl u10_standing))), (h_brought, .inl (cy 1, 24, .inr (.inl u11_brought))), (h_this, .inr (11, [.ref h_lane, .ref h_many, .ref h_items, x_spare, .int u13_status, x_tape, .int v_taped, .int v_faultKind, .int v_faultPlace, .int v_at, .int v_start, .int v_token, .int v_value, .ref h_now, x_draft, x_tried, x_past, .int v_acts, x_images, x_kept, x_trace, .int v_traced, .ref h_comes, .ref h_standing, .ref h_brought, .ref h_habit, .int v_livedMany]))] H := hP
          have hD : va_D A [(h_lane, .inl (cy 0, 8, .inl v_lane)), (h_many, .inl (cy 0, 8, .inl v_many)), (h_items, .inl (cy 0, 320, .inl v_items)), (h_habit, .inl (cy 0, 3, .inl u8_habit)), (h_now, .inl (cy 0, 124, .inl v_now)), (h_comes, .inl (cy 1, 8, .inr (.inl u9_comes))), (h_standing, .inl (cy 1, 8, .inr (.inl u10_standing))), (h_brought, .inl (cy 1, 24, .inr (.inl u11_brought))), (h_this, .inr (11, [.ref h_lane, .ref h_many, .ref h_items, x_spare, .int u13_status, x_tape, .int v_taped, .int v_faultKind, .int v_faultPlace, .int v_at, .int v_start, .int v_token, .int v_value, .ref h_now, x_draft, x_tried, x_past, .int v_acts, x_images, x_kept, x_trace, .int v_traced, .ref h_comes, .ref h_standing, .ref h_brought, .ref h_habit, .int v_livedMany]))] := hD
          refine W.eq (g2 := F0 m 51 ls [.int r12]) rfl ?_
          have hP : va_P D CL [(h_this, .inr (11, [.ref h_lane, .ref h_many, .ref h_items, x_spare, .int u13_status, x_tape, .int v_taped, .int v_faultKind, .int v_faultPlace, .int v_at, .int v_start, .int v_token, .int v_value, .ref h_now, x_draft, x_tried, x_past, .int v_acts, x_images, x_kept, x_trace, .int v_traced, .ref h_comes, .ref h_standing, .ref h_brought, .ref h_habit, .int v_livedMany])), (h_now, .inl (cy 0, 124, .inl v_now)), (h_lane, .inl (cy 0, 8, .inl v_lane)), (h_many, .inl (cy 0, 8, .inl v_many)), (h_habit, .inl (cy 0, 3, .inl u8_habit)), (h_items, .inl (cy 0, 320, .inl v_items)), (h_comes, .inl (cy 1, 8, .inr (.inl u9_comes))), (h_standing, .inl (cy 1, 8, .inr (.inl u10_standing))), (h_brought, .inl (cy 1, 24, .inr (.inl u11_brought)))] H := (hP.sub [8, 4, 0, 1, 3, 2, 5, 6, 7] rfl)
          have hD : va_D A [(h_this, .inr (11, [.ref h_lane, .ref h_many, .ref h_items, x_spare, .int u13_status, x_tape, .int v_taped, .int v_faultKind, .int v_faultPlace, .int v_at, .int v_start, .int v_token, .int v_value, .ref h_now, x_draft, x_tried, x_past, .int v_acts, x_images, x_kept, x_trace, .int v_traced, .ref h_comes, .ref h_standing, .ref h_brought, .ref h_habit, .int v_livedMany])), (h_now, .inl (cy 0, 124, .inl v_now)), (h_lane, .inl (cy 0, 8, .inl v_lane)), (h_many, .inl (cy 0, 8, .inl v_many)), (h_habit, .inl (cy 0, 3, .inl u8_habit)), (h_items, .inl (cy 0, 320, .inl v_items)), (h_comes, .inl (cy 1, 8, .inr (.inl u9_comes))), (h_standing, .inl (cy 1, 8, .inr (.inl u10_standing))), (h_brought, .inl (cy 1, 24, .inr (.inl u11_brought)))] := (hD.sub [8, 4, 0, 1, 3, 2, 5, 6, 7] (by decide) rfl)
          exact rt_i C hQ rfl hP hD hS ⟨u13_status, u8_habit, u9_comes, u10_standing, u11_brought, rfl, hF⟩ dX12_best_51
        · have hF := hF.2 c_
          refine lv_iload_n hx hb dX12_best_38 rfl (lv_at hl 0 rfl) ?_
          refine lv_goto (tgt := 51) hx hb dX12_best_39 (by decide) ?_
          have hP : va_P D CL [(h_this, .inr (11, [.ref h_lane, .ref h_many, .ref h_items, x_spare, .int u5_status, x_tape, .int v_taped, .int v_faultKind, .int v_faultPlace, .int v_at, .int v_start, .int v_token, .int v_value, .ref h_now, x_draft, x_tried, x_past, .int v_acts, x_images, x_kept, x_trace, .int v_traced, .ref h_comes, .ref h_standing, .ref h_brought, .ref h_habit, .int v_livedMany])), (h_now, .inl (cy 0, 124, .inl v_now)), (h_lane, .inl (cy 0, 8, .inl v_lane)), (h_many, .inl (cy 0, 8, .inl v_many)), (h_habit, .inl (cy 0, 3, .inl u6_habit)), (h_items, .inl (cy 0, 320, .inl v_items)), (h_comes, .inl (cy 1, 8, .inr (.inl v_comes))), (h_standing, .inl (cy 1, 8, .inr (.inl v_standing))), (h_brought, .inl (cy 1, 24, .inr (.inl v_brought)))] H := (hP.sub [3, 6, 4, 5, 7, 8, 0, 1, 2] rfl)
          have hD : va_D A [(h_this, .inr (11, [.ref h_lane, .ref h_many, .ref h_items, x_spare, .int u5_status, x_tape, .int v_taped, .int v_faultKind, .int v_faultPlace, .int v_at, .int v_start, .int v_token, .int v_value, .ref h_now, x_draft, x_tried, x_past, .int v_acts, x_images, x_kept, x_trace, .int v_traced, .ref h_comes, .ref h_standing, .ref h_brought, .ref h_habit, .int v_livedMany])), (h_now, .inl (cy 0, 124, .inl v_now)), (h_lane, .inl (cy 0, 8, .inl v_lane)), (h_many, .inl (cy 0, 8, .inl v_many)), (h_habit, .inl (cy 0, 3, .inl u6_habit)), (h_items, .inl (cy 0, 320, .inl v_items)), (h_comes, .inl (cy 1, 8, .inr (.inl v_comes))), (h_standing, .inl (cy 1, 8, .inr (.inl v_standing))), (h_brought, .inl (cy 1, 24, .inr (.inl v_brought)))] := (hD.sub [3, 6, 4, 5, 7, 8, 0, 1, 2] (by decide) rfl)
          exact rt_i C hQ rfl hP hD hS ⟨u5_status, u6_habit, v_comes, v_standing, v_brought, rfl, hF⟩ dX12_best_51
      · have hF := hF.2 ((bz_0 _).mp c_)
        refine lv_ldc hx hb hown (hts _ t4_217) dX12_best_25 ?_
        exact rt_i C hQ rfl hP hD hS ⟨v_status, v_habit, v_comes, v_standing, v_brought, rfl, hF⟩ dX12_best_27
  · have hF := hF.2 ((bz_0 _).mp c_)
    refine lv_ldc hx hb hown (hts _ t5_55) dX12_best_7 ?_
    exact rt_i C hQ rfl hP hD hS ⟨v_status, v_habit, v_comes, v_standing, v_brought, rfl, hF⟩ dX12_best_9

def wjX12_isContent_61 (v_now : Nat → Int32) (post : Bool → (Nat → Int32) → (Nat → Int64) → (Nat → Int64) → (Nat → Int64) → Prop) (K_23 : Int32 → Int32 → Int64 → Bool → Int32 → (Nat → Int32) → (Nat → Int64) → (Nat → Int64) → (Nat → Int64) → Prop) (l1 : Int32) (l2 : Int32) (l3 : Int64) (l6 : Int32) (k0 : Bool) (w_habit : Nat → Int32) (w_comes : Nat → Int64) (w_standing : Nat → Int64) (w_brought : Nat → Int64) : Prop := K_23 l1 l2 l3 k0 (l6 + 1) w_habit w_comes w_standing w_brought
def wjX12_isContent_60 (v_now : Nat → Int32) (post : Bool → (Nat → Int32) → (Nat → Int64) → (Nat → Int64) → (Nat → Int64) → Prop) (K_23 : Int32 → Int32 → Int64 → Bool → Int32 → (Nat → Int32) → (Nat → Int64) → (Nat → Int64) → (Nat → Int64) → Prop) (l1 : Int32) (l2 : Int32) (l3 : Int64) (l6 : Int32) (w_habit : Nat → Int32) (w_comes : Nat → Int64) (w_standing : Nat → Int64) (w_brought : Nat → Int64) : Prop := wjX12_isContent_61 v_now post K_23 l1 l2 l3 l6 false w_habit w_comes w_standing w_brought
def wlX12_isContent_23 (v_now : Nat → Int32) (post : Bool → (Nat → Int32) → (Nat → Int64) → (Nat → Int64) → (Nat → Int64) → Prop) : Nat → Int32 → Int32 → Int64 → Bool → Int32 → (Nat → Int32) → (Nat → Int64) → (Nat → Int64) → (Nat → Int64) → Prop
  | 0, _, _, _, _, _, _, _, _, _ => False
  | n + 1, l1, l2, l3, l5, l6, w_habit, w_comes, w_standing, w_brought => (3 ≤ l6 → (vp_in l1 3 ∧ (post l5 (upd w_habit ((l1).toNatClampNeg) l2) w_comes w_standing w_brought))) ∧ (¬ 3 ≤ l6 → (vp_in l1 3 ∧ (wpX12_lays v_now w_comes w_standing (upd w_habit ((l1).toNatClampNeg) l6) w_brought (fun _ u4_comes u5_standing u6_brought => (l5 = false → (wjX12_isContent_60 v_now post (wlX12_isContent_23 v_now post n) l1 l2 l3 l6 (upd w_habit ((l1).toNatClampNeg) l6) u4_comes u5_standing u6_brought)) ∧ (l5 = true → (wpX12_meanOf l1 v_now u6_brought (fun r7 => (l3 < r7 → (wjX12_isContent_60 v_now post (wlX12_isContent_23 v_now post n) l1 l2 l3 l6 (upd w_habit ((l1).toNatClampNeg) l6) u4_comes u5_standing u6_brought)) ∧ (¬ l3 < r7 → (wjX12_isContent_61 v_now post (wlX12_isContent_23 v_now post n) l1 l2 l3 l6 true (upd w_habit ((l1).toNatClampNeg) l6) u4_comes u5_standing u6_brought)))))))))
def wpX12_isContent (p0 : Int32) (v_habit : Nat → Int32) (v_now : Nat → Int32) (v_comes : Nat → Int64) (v_standing : Nat → Int64) (v_brought : Nat → Int64) (post : Bool → (Nat → Int32) → (Nat → Int64) → (Nat → Int64) → (Nat → Int64) → Prop) : Prop := vp_in p0 3 ∧ (wpX12_lays v_now v_comes v_standing v_habit v_brought (fun _ u3_comes u4_standing u5_brought => wpX12_meanOf p0 v_now u5_brought (fun r6 => wlX12_isContent_23 v_now post fu p0 (v_habit ((p0).toNatClampNeg)) r6 true 0 v_habit u3_comes u4_standing u5_brought)))
abbrev miX12_isContent : MI := (yX12_isContent, cX12_isContent, 7, (some .boolean))
theorem mfX12_isContent : MF miX12_isContent 1 := ⟨t5_177, t1_8, by decide +kernel⟩
abbrev rmX12_isContent : Room := { frames := 4, cells := 0, slots := 0, locals := 98 }
set_option maxHeartbeats 4000000 in
set_option maxRecDepth 100000 in
theorem ccX12_isContent (l : Launch) (D : va_G) (cy : Nat → ClassId) (h_this : Nat) (h_habit : Nat) (h_now : Nat) (h_comes : Nat) (h_standing : Nat) (h_brought : Nat) (x_lane : Value) (x_many : Value) (x_items : Value) (x_spare : Value) (x_tape : Value) (x_draft : Value) (x_tried : Value) (x_past : Value) (x_images : Value) (x_kept : Value) (x_trace : Value) (v_status : Int32) (v_taped : Int32) (v_faultKind : Int32) (v_faultPlace : Int32) (v_at : Int32) (v_start : Int32) (v_token : Int32) (v_value : Int32) (v_acts : Int32) (v_traced : Int32) (v_livedMany : Int32) (v_habit : Nat → Int32) (v_now : Nat → Int32) (v_comes : Nat → Int64) (v_standing : Nat → Int64) (v_brought : Nat → Int64) (p0 : Int32) (post : Bool → (Nat → Int32) → (Nat → Int64) → (Nat → Int64) → (Nat → Int64) → Prop) (hF : wpX12_isContent p0 v_habit v_now v_comes v_standing v_brought post) : Ct l D cy miX12_isContent rmX12_isContent emB NP [.ref h_this, .int p0] [(h_this, .inr (11, [x_lane, x_many, x_items, x_spare, .int v_status, x_tape, .int v_taped, .int v_faultKind, .int v_faultPlace, .int v_at, .int v_start, .int v_token, .int v_value, .ref h_now, x_draft, x_tried, x_past, .int v_acts, x_images, x_kept, x_trace, .int v_traced, .ref h_comes, .ref h_standing, .ref h_brought, .ref h_habit, .int v_livedMany])), (h_habit, .inl (cy 0, 3, .inl v_habit)), (h_now, .inl (cy 0, 124, .inl v_now)), (h_comes, .inl (cy 1, 8, .inr (.inl v_comes))), (h_standing, .inl (cy 1, 8, .inr (.inl v_standing))), (h_brought, .inl (cy 1, 24, .inr (.inl v_brought)))] (fun r w1 => ∃ (w_habit : Nat → Int32) (w_comes : Nat → Int64) (w_standing : Nat → Int64) (w_brought : Nat → Int64), w1 = [(h_this, .inr (11, [x_lane, x_many, x_items, x_spare, .int v_status, x_tape, .int v_taped, .int v_faultKind, .int v_faultPlace, .int v_at, .int v_start, .int v_token, .int v_value, .ref h_now, x_draft, x_tried, x_past, .int v_acts, x_images, x_kept, x_trace, .int v_traced, .ref h_comes, .ref h_standing, .ref h_brought, .ref h_habit, .int v_livedMany])), (h_habit, .inl (cy 0, 3, .inl w_habit)), (h_now, .inl (cy 0, 124, .inl v_now)), (h_comes, .inl (cy 1, 8, .inr (.inl w_comes))), (h_standing, .inl (cy 1, 8, .inr (.inl w_standing))), (h_brought, .inl (cy 1, 24, .inr (.inl w_brought)))] ∧ post r w_habit w_comes w_standing w_brought) := by
  refine Ct.of (by decide) (Nat.le_of_ble_eq_true rfl) ?_
  intro p e s m args below meth c A ls Q C hQ hA hI hP hD hS hl
  obtain ⟨hx, hb, hr, hml, hown, hts, hK, hlk, hnm⟩ := id C
  have hb : c.code = cX12_isContent := hb
  have hml : c.maxLocals = 7 := hml
  have hown : s.vm.findClass RX12 = some m.cls := hown
  have hl : lv_has ls 7 [(0, .ref h_this), (1, .int p0)] := hl
  have L_23 : ∀ (n_23 : Nat) (l1 : Int32) (l2 : Int32) (l3 : Int64) (l5 : Bool) (l6 : Int32) (w_habit : Nat → Int32) (w_comes : Nat → Int64) (w_standing : Nat → Int64) (w_brought : Nat → Int64) (H : Heap) (locs : List Loc) (ls : Array Slot), va_P D CL [(h_this, .inr (11, [x_lane, x_many, x_items, x_spare, .int v_status, x_tape, .int v_taped, .int v_faultKind, .int v_faultPlace, .int v_at, .int v_start, .int v_token, .int v_value, .ref h_now, x_draft, x_tried, x_past, .int v_acts, x_images, x_kept, x_trace, .int v_traced, .ref h_comes, .ref h_standing, .ref h_brought, .ref h_habit, .int v_livedMany])), (h_habit, .inl (cy 0, 3, .inl w_habit)), (h_now, .inl (cy 0, 124, .inl v_now)), (h_comes, .inl (cy 1, 8, .inr (.inl w_comes))), (h_standing, .inl (cy 1, 8, .inr (.inl w_standing))), (h_brought, .inl (cy 1, 24, .inr (.inl w_brought)))] H → va_D A [(h_this, .inr (11, [x_lane, x_many, x_items, x_spare, .int v_status, x_tape, .int v_taped, .int v_faultKind, .int v_faultPlace, .int v_at, .int v_start, .int v_token, .int v_value, .ref h_now, x_draft, x_tried, x_past, .int v_acts, x_images, x_kept, x_trace, .int v_traced, .ref h_comes, .ref h_standing, .ref h_brought, .ref h_habit, .int v_livedMany])), (h_habit, .inl (cy 0, 3, .inl w_habit)), (h_now, .inl (cy 0, 124, .inl v_now)), (h_comes, .inl (cy 1, 8, .inr (.inl w_comes))), (h_standing, .inl (cy 1, 8, .inr (.inl w_standing))), (h_brought, .inl (cy 1, 24, .inr (.inl w_brought)))] → va_S A s.heap H locs → lv_has ls 7 [(0, .ref h_this), (1, .int l1), (2, .int l2), (3, .long l3), (5, .int (bz l5)), (6, .int l6)] → wlX12_isContent_23 v_now post n_23 l1 l2 l3 l5 l6 w_habit w_comes w_standing w_brought → W p l e rmX12_isContent s m args below meth c H locs 0 0 Q (F0 m 23 ls []) := by
    intro n_23
    induction n_23 with
    | zero =>
      intro l1 l2 l3 l5 l6 w_habit w_comes w_standing w_brought H locs ls  hP hD hS hl hF
      simp only [wlX12_isContent_23] at hF
    | succ n_23 ih_23 =>
      have J_61 : ∀ (l1 : Int32) (l2 : Int32) (l3 : Int64) (l6 : Int32) (k0 : Bool) (w_habit : Nat → Int32) (w_comes : Nat → Int64) (w_standing : Nat → Int64) (w_brought : Nat → Int64) (H : Heap) (locs : List Loc) (ls : Array Slot), va_P D CL [(h_this, .inr (11, [x_lane, x_many, x_items, x_spare, .int v_status, x_tape, .int v_taped, .int v_faultKind, .int v_faultPlace, .int v_at, .int v_start, .int v_token, .int v_value, .ref h_now, x_draft, x_tried, x_past, .int v_acts, x_images, x_kept, x_trace, .int v_traced, .ref h_comes, .ref h_standing, .ref h_brought, .ref h_habit, .int v_livedMany])), (h_habit, .inl (cy 0, 3, .inl w_habit)), (h_now, .inl (cy 0, 124, .inl v_now)), (h_comes, .inl (cy 1, 8, .inr (.inl w_comes))), (h_standing, .inl (cy 1, 8, .inr (.inl w_standing))), (h_brought, .inl (cy 1, 24, .inr (.inl w_brought)))] H → va_D A [(h_this, .inr (11, [x_lane, x_many, x_items, x_spare, .int v_status, x_tape, .int v_taped, .int v_faultKind, .int v_faultPlace, .int v_at, .int v_start, .int v_token, .int v_value, .ref h_now, x_draft, x_tried, x_past, .int v_acts, x_images, x_kept, x_trace, .int v_traced, .ref h_comes, .ref h_standing, .ref h_brought, .ref h_habit, .int v_livedMany])), (h_habit, .inl (cy 0, 3, .inl w_habit)), (h_now, .inl (cy 0, 124, .inl v_now)), (h_comes, .inl (cy 1, 8, .inr (.inl w_comes))), (h_standing, .inl (cy 1, 8, .inr (.inl w_standing))), (h_brought, .inl (cy 1, 24, .inr (.inl w_brought)))] → va_S A s.heap H locs → lv_has ls 7 [(0, .ref h_this), (1, .int l1), (2, .int l2), (3, .long l3), (6, .int l6)] → wjX12_isContent_61 v_now post (wlX12_isContent_23 v_now post n_23) l1 l2 l3 l6 k0 w_habit w_comes w_standing w_brought → W p l e rmX12_isContent s m args below meth c H locs 0 0 Q (F0 m 61 ls [.int (bz k0)]) := by
        intro l1 l2 l3 l6 k0 w_habit w_comes w_standing w_brought H locs ls  hP hD hS hl hF
        unfold wjX12_isContent_61 at hF
        refine lv_istore (lv' := [(5, .int (bz k0)), (0, .ref h_this), (1, .int l1), (2, .int l2), (3, .long l3), (6, .int l6)]) hx hb dX12_isContent_61 hl (by decide) rfl (fun ls hl => ?_)
        refine lv_iinc (v := (l6 + 1)) (lv' := [(6, .int (l6 + 1)), (5, .int (bz k0)), (0, .ref h_this), (1, .int l1), (2, .int l2), (3, .long l3)]) hx hb dX12_isContent_63 hl (k := 5) rfl rfl (by decide) rfl (fun ls hl => ?_)
        refine lv_goto (tgt := 23) hx hb dX12_isContent_66 (by decide) ?_
        exact ih_23 l1 l2 l3 k0 (l6 + 1) w_habit w_comes w_standing w_brought _ _ ls  hP hD hS (lv_sub hl [2, 3, 4, 5, 1, 0] rfl) hF
      have J_60 : ∀ (l1 : Int32) (l2 : Int32) (l3 : Int64) (l6 : Int32) (w_habit : Nat → Int32) (w_comes : Nat → Int64) (w_standing : Nat → Int64) (w_brought : Nat → Int64) (H : Heap) (locs : List Loc) (ls : Array Slot), va_P D CL [(h_this, .inr (11, [x_lane, x_many, x_items, x_spare, .int v_status, x_tape, .int v_taped, .int v_faultKind, .int v_faultPlace, .int v_at, .int v_start, .int v_token, .int v_value, .ref h_now, x_draft, x_tried, x_past, .int v_acts, x_images, x_kept, x_trace, .int v_traced, .ref h_comes, .ref h_standing, .ref h_brought, .ref h_habit, .int v_livedMany])), (h_habit, .inl (cy 0, 3, .inl w_habit)), (h_now, .inl (cy 0, 124, .inl v_now)), (h_comes, .inl (cy 1, 8, .inr (.inl w_comes))), (h_standing, .inl (cy 1, 8, .inr (.inl w_standing))), (h_brought, .inl (cy 1, 24, .inr (.inl w_brought)))] H → va_D A [(h_this, .inr (11, [x_lane, x_many, x_items, x_spare, .int v_status, x_tape, .int v_taped, .int v_faultKind, .int v_faultPlace, .int v_at, .int v_start, .int v_token, .int v_value, .ref h_now, x_draft, x_tried, x_past, .int v_acts, x_images, x_kept, x_trace, .int v_traced, .ref h_comes, .ref h_standing, .ref h_brought, .ref h_habit, .int v_livedMany])), (h_habit, .inl (cy 0, 3, .inl w_habit)), (h_now, .inl (cy 0, 124, .inl v_now)), (h_comes, .inl (cy 1, 8, .inr (.inl w_comes))), (h_standing, .inl (cy 1, 8, .inr (.inl w_standing))), (h_brought, .inl (cy 1, 24, .inr (.inl w_brought)))] → va_S A s.heap H locs → lv_has ls 7 [(0, .ref h_this), (1, .int l1), (2, .int l2), (3, .long l3), (6, .int l6)] → wjX12_isContent_60 v_now post (wlX12_isContent_23 v_now post n_23) l1 l2 l3 l6 w_habit w_comes w_standing w_brought → W p l e rmX12_isContent s m args below meth c H locs 0 0 Q (F0 m 60 ls []) := by
        intro l1 l2 l3 l6 w_habit w_comes w_standing w_brought H locs ls  hP hD hS hl hF
        unfold wjX12_isContent_60 at hF
        refine lv_iconst (v := 0) hx hb dX12_isContent_60 (by decide) ?_
        exact J_61 l1 l2 l3 l6 false w_habit w_comes w_standing w_brought _ _ ls  hP hD hS (lv_sub hl [0, 1, 2, 3, 4] rfl) hF
      intro l1 l2 l3 l5 l6 w_habit w_comes w_standing w_brought H locs ls  hP hD hS hl hF
      unfold wlX12_isContent_23 at hF
      refine lv_iload hx hb dX12_isContent_23 (lv_at hl 5 rfl) ?_
      refine lv_iconst (v := 3) hx hb dX12_isContent_25 (by decide) ?_
      refine lv_icmp_ge (tgt := 69) hx hb dX12_isContent_26 (by decide) (fun c_ => ?_) (fun c_ => ?_)
      · have hF := hF.1 c_
        refine lv_aload_n hx hb dX12_isContent_69 rfl (lv_at hl 0 rfl) ?_
        refine va_get (D := D) (ci := 11) (v := .ref h_habit) (C := RX12) (T := TX12) (N := 27) hx hb hts inTX12 hown hK.1 hP 0 rfl rfl 25 (by decide) (hts _ t4_149) (fun _ h9 => h9) rfl dX12_isContent_70 ?_
        refine lv_iload_n hx hb dX12_isContent_73 rfl (lv_at hl 1 rfl) ?_
        refine lv_iload_n hx hb dX12_isContent_74 rfl (lv_at hl 2 rfl) ?_
        obtain ⟨hi1, hF⟩ := hF
        refine s_iast (j := (l1).toNatClampNeg) hx hb hK.1 hP hD hS 1 0 rfl rfl hi1 rfl dX12_isContent_75 (fun H locs hP hD hS => ?_)
        have hP : va_P D CL [(h_this, .inr (11, [x_lane, x_many, x_items, x_spare, .int v_status, x_tape, .int v_taped, .int v_faultKind, .int v_faultPlace, .int v_at, .int v_start, .int v_token, .int v_value, .ref h_now, x_draft, x_tried, x_past, .int v_acts, x_images, x_kept, x_trace, .int v_traced, .ref h_comes, .ref h_standing, .ref h_brought, .ref h_habit, .int v_livedMany])), (h_habit, .inl (cy 0, 3, .inl (upd w_habit ((l1).toNatClampNeg) l2))), (h_now, .inl (cy 0, 124, .inl v_now)), (h_comes, .inl (cy 1, 8, .inr (.inl w_comes))), (h_standing, .inl (cy 1, 8, .inr (.inl w_standing))), (h_brought, .inl (cy 1, 24, .inr (.inl w_brought)))] H := hP
        have hD : va_D A [(h_this, .inr (11, [x_lane, x_many, x_items, x_spare, .int v_status, x_tape, .int v_taped, .int v_faultKind, .int v_faultPlace, .int v_at, .int v_start, .int v_token, .int v_value, .ref h_now, x_draft, x_tried, x_past, .int v_acts, x_images, x_kept, x_trace, .int v_traced, .ref h_comes, .ref h_standing, .ref h_brought, .ref h_habit, .int v_livedMany])), (h_habit, .inl (cy 0, 3, .inl (upd w_habit ((l1).toNatClampNeg) l2))), (h_now, .inl (cy 0, 124, .inl v_now)), (h_comes, .inl (cy 1, 8, .inr (.inl w_comes))), (h_standing, .inl (cy 1, 8, .inr (.inl w_standing))), (h_brought, .inl (cy 1, 24, .inr (.inl w_brought)))] := hD
        refine lv_iload hx hb dX12_isContent_76 (lv_at hl 4 rfl) ?_
        exact rt_b C hQ rfl hP hD hS ⟨(upd w_habit ((l1).toNatClampNeg) l2), w_comes, w_standing, w_brought, rfl, hF⟩ dX12_isContent_78
      · have hF := hF.2 c_
        refine lv_aload_n hx hb dX12_isContent_29 rfl (lv_at hl 0 rfl) ?_
        refine va_get (D := D) (ci := 11) (v := .ref h_habit) (C := RX12) (T := TX12) (N := 27) hx hb hts inTX12 hown hK.1 hP 0 rfl rfl 25 (by decide) (hts _ t4_149) (fun _ h9 => h9) rfl dX12_isContent_30 ?_
        refine lv_iload_n hx hb dX12_isContent_33 rfl (lv_at hl 1 rfl) ?_
        refine lv_iload hx hb dX12_isContent_34 (lv_at hl 5 rfl) ?_
        obtain ⟨hi2, hF⟩ := hF
        refine s_iast (j := (l1).toNatClampNeg) hx hb hK.1 hP hD hS 1 0 rfl rfl hi2 rfl dX12_isContent_36 (fun H locs hP hD hS => ?_)
        have hP : va_P D CL [(h_this, .inr (11, [x_lane, x_many, x_items, x_spare, .int v_status, x_tape, .int v_taped, .int v_faultKind, .int v_faultPlace, .int v_at, .int v_start, .int v_token, .int v_value, .ref h_now, x_draft, x_tried, x_past, .int v_acts, x_images, x_kept, x_trace, .int v_traced, .ref h_comes, .ref h_standing, .ref h_brought, .ref h_habit, .int v_livedMany])), (h_habit, .inl (cy 0, 3, .inl (upd w_habit ((l1).toNatClampNeg) l6))), (h_now, .inl (cy 0, 124, .inl v_now)), (h_comes, .inl (cy 1, 8, .inr (.inl w_comes))), (h_standing, .inl (cy 1, 8, .inr (.inl w_standing))), (h_brought, .inl (cy 1, 24, .inr (.inl w_brought)))] H := hP
        have hD : va_D A [(h_this, .inr (11, [x_lane, x_many, x_items, x_spare, .int v_status, x_tape, .int v_taped, .int v_faultKind, .int v_faultPlace, .int v_at, .int v_start, .int v_token, .int v_value, .ref h_now, x_draft, x_tried, x_past, .int v_acts, x_images, x_kept, x_trace, .int v_traced, .ref h_comes, .ref h_standing, .ref h_brought, .ref h_habit, .int v_livedMany])), (h_habit, .inl (cy 0, 3, .inl (upd w_habit ((l1).toNatClampNeg) l6))), (h_now, .inl (cy 0, 124, .inl v_now)), (h_comes, .inl (cy 1, 8, .inr (.inl w_comes))), (h_standing, .inl (cy 1, 8, .inr (.inl w_standing))), (h_brought, .inl (cy 1, 24, .inr (.inl w_brought)))] := hD
        refine lv_aload_n hx hb dX12_isContent_37 rfl (lv_at hl 0 rfl) ?_
        refine cV_t (As := []) (wr := []) C hA hP hD hS mfX12_lays t5_135 ts_28 t5_133 (ccX12_lays l D cy h_this h_now h_comes h_standing h_habit h_brought x_lane x_many x_items x_spare x_tape x_draft x_tried x_past x_images x_kept x_trace v_status v_taped v_faultKind v_faultPlace v_at v_start v_token v_value v_acts v_traced v_livedMany v_now w_comes w_standing (upd w_habit ((l1).toNatClampNeg) l6) w_brought _ hF) [0, 2, 3, 4, 1, 5] [] rfl rfl (by decide) (by decide) (by decide) PO.np 0 11 rfl rfl rfl rfl hl.1 rfl (Nat.le_of_ble_eq_true rfl) dX12_isContent_38 ⟨Nat.le_of_ble_eq_true rfl, Nat.le_of_ble_eq_true rfl⟩ ⟨Nat.le_of_ble_eq_true rfl, Nat.le_of_ble_eq_true rfl⟩ ?_
        rintro ⟨⟩ w1 H locs ⟨u4_comes, u5_standing, u6_brought, rfl, hF⟩ hP hD hS
        have hP : va_P D CL [(h_this, .inr (11, [x_lane, x_many, x_items, x_spare, .int v_status, x_tape, .int v_taped, .int v_faultKind, .int v_faultPlace, .int v_at, .int v_start, .int v_token, .int v_value, .ref h_now, x_draft, x_tried, x_past, .int v_acts, x_images, x_kept, x_trace, .int v_traced, .ref h_comes, .ref h_standing, .ref h_brought, .ref h_habit, .int v_livedMany])), (h_now, .inl (cy 0, 124, .inl v_now)), (h_comes, .inl (cy 1, 8, .inr (.inl u4_comes))), (h_standing, .inl (cy 1, 8, .inr (.inl u5_standing))), (h_habit, .inl (cy 0, 3, .inl (upd w_habit ((l1).toNatClampNeg) l6))), (h_brought, .inl (cy 1, 24, .inr (.inl u6_brought)))] H := hP
        have hD : va_D A [(h_this, .inr (11, [x_lane, x_many, x_items, x_spare, .int v_status, x_tape, .int v_taped, .int v_faultKind, .int v_faultPlace, .int v_at, .int v_start, .int v_token, .int v_value, .ref h_now, x_draft, x_tried, x_past, .int v_acts, x_images, x_kept, x_trace, .int v_traced, .ref h_comes, .ref h_standing, .ref h_brought, .ref h_habit, .int v_livedMany])), (h_now, .inl (cy 0, 124, .inl v_now)), (h_comes, .inl (cy 1, 8, .inr (.inl u4_comes))), (h_standing, .inl (cy 1, 8, .inr (.inl u5_standing))), (h_habit, .inl (cy 0, 3, .inl (upd w_habit ((l1).toNatClampNeg) l6))), (h_brought, .inl (cy 1, 24, .inr (.inl u6_brought)))] := hD
        refine W.eq (g2 := F0 m 41 ls []) rfl ?_
        refine lv_iload hx hb dX12_isContent_41 (lv_at hl 4 rfl) ?_
        refine lv_if_eq (tgt := 60) hx hb dX12_isContent_43 (by decide) (fun c_ => ?_) (fun c_ => ?_)
        · have hF := hF.1 ((bz_0 _).mp c_)
          exact J_60 l1 l2 l3 l6 (upd w_habit ((l1).toNatClampNeg) l6) u4_comes u5_standing u6_brought _ _ ls  (hP.sub [0, 4, 1, 2, 3, 5] rfl) (hD.sub [0, 4, 1, 2, 3, 5] (by decide) rfl) hS (lv_sub hl [0, 1, 2, 3, 5] rfl) hF
        · have hF := hF.2 ((bz_1 _).mp c_)
          refine lv_aload_n hx hb dX12_isContent_46 rfl (lv_at hl 0 rfl) ?_
          refine lv_iload_n hx hb dX12_isContent_47 rfl (lv_at hl 1 rfl) ?_
          refine cV_r (As := [.int l1]) C mfX12_meanOf t5_156 ts_30 t5_154 (ccX12_meanOf l D cy h_this h_now h_brought x_lane x_many x_items x_spare x_tape x_draft x_tried x_past x_images x_kept x_trace (.ref h_comes) (.ref h_standing) (.ref h_habit) v_status v_taped v_faultKind v_faultPlace v_at v_start v_token v_value v_acts v_traced v_livedMany v_now u6_brought l1 _ hF) rfl rfl (hP.sub [0, 1, 5] rfl) PR.np hP 0 11 rfl rfl rfl rfl hl.1 rfl (Nat.le_of_ble_eq_true rfl) dX12_isContent_48 ⟨Nat.le_of_ble_eq_true rfl, Nat.le_of_ble_eq_true rfl⟩ ⟨Nat.le_of_ble_eq_true rfl, Nat.le_of_ble_eq_true rfl⟩ ?_
          intro r7 hF
          refine W.eq (g2 := F0 m 51 ls [.long r7]) rfl ?_
          refine lv_lload_n hx hb dX12_isContent_51 rfl (lv_at hl 3 rfl) ?_
          refine W.lcmp hx hb dX12_isContent_52 ?_
          refine lv_if_gt (tgt := 60) hx hb dX12_isContent_53 (by decide) (fun c_ => ?_) (fun c_ => ?_)
          · have hF := hF.1 ((lg_cmp_gt _ _).mp c_)
            exact J_60 l1 l2 l3 l6 (upd w_habit ((l1).toNatClampNeg) l6) u4_comes u5_standing u6_brought _ _ ls  (hP.sub [0, 4, 1, 2, 3, 5] rfl) (hD.sub [0, 4, 1, 2, 3, 5] (by decide) rfl) hS (lv_sub hl [0, 1, 2, 3, 5] rfl) hF
          · have hF := hF.2 (fun z9 => c_ ((lg_cmp_gt _ _).mpr z9))
            refine lv_iconst (v := 1) hx hb dX12_isContent_56 (by decide) ?_
            refine lv_goto (tgt := 61) hx hb dX12_isContent_57 (by decide) ?_
            exact J_61 l1 l2 l3 l6 true (upd w_habit ((l1).toNatClampNeg) l6) u4_comes u5_standing u6_brought _ _ ls  (hP.sub [0, 4, 1, 2, 3, 5] rfl) (hD.sub [0, 4, 1, 2, 3, 5] (by decide) rfl) hS (lv_sub hl [0, 1, 2, 3, 5] rfl) hF
  unfold wpX12_isContent at hF
  refine lv_aload_n hx hb dX12_isContent_0 rfl (lv_at hl 0 rfl) ?_
  refine va_get (D := D) (ci := 11) (v := .ref h_habit) (C := RX12) (T := TX12) (N := 27) hx hb hts inTX12 hown hK.1 hP 0 rfl rfl 25 (by decide) (hts _ t4_149) (fun _ h9 => h9) rfl dX12_isContent_1 ?_
  refine lv_iload_n hx hb dX12_isContent_4 rfl (lv_at hl 1 rfl) ?_
  obtain ⟨hi1, hF⟩ := hF
  refine s_iald (j := (p0).toNatClampNeg) hx hb hK.1 hP 1 0 rfl rfl hi1 rfl dX12_isContent_5 ?_
  refine lv_istore_n (lv' := [(2, .int (v_habit ((p0).toNatClampNeg))), (0, .ref h_this), (1, .int p0)]) hx hb dX12_isContent_6 rfl hl (by decide) rfl (fun ls hl => ?_)
  refine lv_aload_n hx hb dX12_isContent_7 rfl (lv_at hl 1 rfl) ?_
  refine cV_t (As := []) (wr := []) C hA hP hD hS mfX12_lays t5_135 ts_28 t5_133 (ccX12_lays l D cy h_this h_now h_comes h_standing h_habit h_brought x_lane x_many x_items x_spare x_tape x_draft x_tried x_past x_images x_kept x_trace v_status v_taped v_faultKind v_faultPlace v_at v_start v_token v_value v_acts v_traced v_livedMany v_now v_comes v_standing v_habit v_brought _ hF) [0, 2, 3, 4, 1, 5] [] rfl rfl (by decide) (by decide) (by decide) PO.np 0 11 rfl rfl rfl rfl hl.1 rfl (Nat.le_of_ble_eq_true rfl) dX12_isContent_8 ⟨Nat.le_of_ble_eq_true rfl, Nat.le_of_ble_eq_true rfl⟩ ⟨Nat.le_of_ble_eq_true rfl, Nat.le_of_ble_eq_true rfl⟩ ?_
  rintro ⟨⟩ w1 H locs ⟨u3_comes, u4_standing, u5_brought, rfl, hF⟩ hP hD hS
  have hP : va_P D CL [(h_this, .inr (11, [x_lane, x_many, x_items, x_spare, .int v_status, x_tape, .int v_taped, .int v_faultKind, .int v_faultPlace, .int v_at, .int v_start, .int v_token, .int v_value, .ref h_now, x_draft, x_tried, x_past, .int v_acts, x_images, x_kept, x_trace, .int v_traced, .ref h_comes, .ref h_standing, .ref h_brought, .ref h_habit, .int v_livedMany])), (h_now, .inl (cy 0, 124, .inl v_now)), (h_comes, .inl (cy 1, 8, .inr (.inl u3_comes))), (h_standing, .inl (cy 1, 8, .inr (.inl u4_standing))), (h_habit, .inl (cy 0, 3, .inl v_habit)), (h_brought, .inl (cy 1, 24, .inr (.inl u5_brought)))] H := hP
  have hD : va_D A [(h_this, .inr (11, [x_lane, x_many, x_items, x_spare, .int v_status, x_tape, .int v_taped, .int v_faultKind, .int v_faultPlace, .int v_at, .int v_start, .int v_token, .int v_value, .ref h_now, x_draft, x_tried, x_past, .int v_acts, x_images, x_kept, x_trace, .int v_traced, .ref h_comes, .ref h_standing, .ref h_brought, .ref h_habit, .int v_livedMany])), (h_now, .inl (cy 0, 124, .inl v_now)), (h_comes, .inl (cy 1, 8, .inr (.inl u3_comes))), (h_standing, .inl (cy 1, 8, .inr (.inl u4_standing))), (h_habit, .inl (cy 0, 3, .inl v_habit)), (h_brought, .inl (cy 1, 24, .inr (.inl u5_brought)))] := hD
  refine W.eq (g2 := F0 m 11 ls []) rfl ?_
  refine lv_aload_n hx hb dX12_isContent_11 rfl (lv_at hl 1 rfl) ?_
  refine lv_iload_n hx hb dX12_isContent_12 rfl (lv_at hl 2 rfl) ?_
  refine cV_r (As := [.int p0]) C mfX12_meanOf t5_156 ts_30 t5_154 (ccX12_meanOf l D cy h_this h_now h_brought x_lane x_many x_items x_spare x_tape x_draft x_tried x_past x_images x_kept x_trace (.ref h_comes) (.ref h_standing) (.ref h_habit) v_status v_taped v_faultKind v_faultPlace v_at v_start v_token v_value v_acts v_traced v_livedMany v_now u5_brought p0 _ hF) rfl rfl (hP.sub [0, 1, 5] rfl) PR.np hP 0 11 rfl rfl rfl rfl hl.1 rfl (Nat.le_of_ble_eq_true rfl) dX12_isContent_13 ⟨Nat.le_of_ble_eq_true rfl, Nat.le_of_ble_eq_true rfl⟩ ⟨Nat.le_of_ble_eq_true rfl, Nat.le_of_ble_eq_true rfl⟩ ?_
  intro r6 hF
  refine W.eq (g2 := F0 m 16 ls [.long r6]) rfl ?_
  refine lv_lstore_n (lv' := [(3, .long r6), (2, .int (v_habit ((p0).toNatClampNeg))), (0, .ref h_this), (1, .int p0)]) hx hb dX12_isContent_16 rfl hl (by decide) rfl (fun ls hl => ?_)
  refine lv_iconst (v := 1) hx hb dX12_isContent_17 (by decide) ?_
  refine lv_istore (lv' := [(5, .int 1), (3, .long r6), (2, .int (v_habit ((p0).toNatClampNeg))), (0, .ref h_this), (1, .int p0)]) hx hb dX12_isContent_18 hl (by decide) rfl (fun ls hl => ?_)
  refine lv_iconst (v := 0) hx hb dX12_isContent_20 (by decide) ?_
  refine lv_istore (lv' := [(6, .int 0), (5, .int 1), (3, .long r6), (2, .int (v_habit ((p0).toNatClampNeg))), (0, .ref h_this), (1, .int p0)]) hx hb dX12_isContent_21 hl (by decide) rfl (fun ls hl => ?_)
  exact L_23 fu p0 (v_habit ((p0).toNatClampNeg)) r6 true 0 v_habit u3_comes u4_standing u5_brought _ _ ls  (hP.sub [0, 4, 1, 2, 3, 5] rfl) (hD.sub [0, 4, 1, 2, 3, 5] (by decide) rfl) hS (lv_sub hl [4, 5, 3, 2, 1, 0] rfl) hF

def wlX12_takesHabits_11 (v_now : Nat → Int32) (post : Unit → (Nat → Int32) → Prop) : Nat → Int32 → Int32 → (Nat → Int32) → Prop
  | 0, _, _, _ => False
  | n + 1, l2, l3, w_habit => (l3 < 0 → (post () w_habit)) ∧ (¬ l3 < 0 → (vp_in l3 3 ∧ ((wlX12_takesHabits_11 v_now post n) (l2 / 3) (l3 + (-1)) (upd w_habit ((l3).toNatClampNeg) (l2 - l2 / 3 * 3)))))
def wpX12_takesHabits (p0 : Int32) (v_now : Nat → Int32) (v_habit : Nat → Int32) (post : Unit → (Nat → Int32) → Prop) : Prop := wlX12_takesHabits_11 v_now post fu p0 ((v_now 1) - 1) v_habit
abbrev miX12_takesHabits : MI := (yX12_takesHabits, cX12_takesHabits, 4, none)
theorem mfX12_takesHabits : MF miX12_takesHabits 1 := ⟨t5_173, t1_8, by decide +kernel⟩
abbrev rmX12_takesHabits : Room := { frames := 0, cells := 0, slots := 0, locals := 0 }
set_option maxHeartbeats 4000000 in
set_option maxRecDepth 100000 in
theorem ccX12_takesHabits (l : Launch) (D : va_G) (cy : Nat → ClassId) (h_this : Nat) (h_now : Nat) (h_habit : Nat) (x_lane : Value) (x_many : Value) (x_items : Value) (x_spare : Value) (x_tape : Value) (x_draft : Value) (x_tried : Value) (x_past : Value) (x_images : Value) (x_kept : Value) (x_trace : Value) (x_comes : Value) (x_standing : Value) (x_brought : Value) (v_status : Int32) (v_taped : Int32) (v_faultKind : Int32) (v_faultPlace : Int32) (v_at : Int32) (v_start : Int32) (v_token : Int32) (v_value : Int32) (v_acts : Int32) (v_traced : Int32) (v_livedMany : Int32) (v_now : Nat → Int32) (v_habit : Nat → Int32) (p0 : Int32) (post : Unit → (Nat → Int32) → Prop) (hF : wpX12_takesHabits p0 v_now v_habit post) : Ct l D cy miX12_takesHabits rmX12_takesHabits emV NP [.ref h_this, .int p0] [(h_this, .inr (11, [x_lane, x_many, x_items, x_spare, .int v_status, x_tape, .int v_taped, .int v_faultKind, .int v_faultPlace, .int v_at, .int v_start, .int v_token, .int v_value, .ref h_now, x_draft, x_tried, x_past, .int v_acts, x_images, x_kept, x_trace, .int v_traced, x_comes, x_standing, x_brought, .ref h_habit, .int v_livedMany])), (h_now, .inl (cy 0, 124, .inl v_now)), (h_habit, .inl (cy 0, 3, .inl v_habit))] (fun r w1 => ∃ (w_habit : Nat → Int32), w1 = [(h_this, .inr (11, [x_lane, x_many, x_items, x_spare, .int v_status, x_tape, .int v_taped, .int v_faultKind, .int v_faultPlace, .int v_at, .int v_start, .int v_token, .int v_value, .ref h_now, x_draft, x_tried, x_past, .int v_acts, x_images, x_kept, x_trace, .int v_traced, x_comes, x_standing, x_brought, .ref h_habit, .int v_livedMany])), (h_now, .inl (cy 0, 124, .inl v_now)), (h_habit, .inl (cy 0, 3, .inl w_habit))] ∧ post r w_habit) := by
  refine Ct.of (by decide) (Nat.le_of_ble_eq_true rfl) ?_
  intro p e s m args below meth c A ls Q C hQ hA hI hP hD hS hl
  obtain ⟨hx, hb, hr, hml, hown, hts, hK, hlk, hnm⟩ := id C
  have hb : c.code = cX12_takesHabits := hb
  have hml : c.maxLocals = 4 := hml
  have hown : s.vm.findClass RX12 = some m.cls := hown
  have hl : lv_has ls 4 [(0, .ref h_this), (1, .int p0)] := hl
  have L_11 : ∀ (n_11 : Nat) (l2 : Int32) (l3 : Int32) (w_habit : Nat → Int32) (H : Heap) (locs : List Loc) (ls : Array Slot), va_P D CL [(h_this, .inr (11, [x_lane, x_many, x_items, x_spare, .int v_status, x_tape, .int v_taped, .int v_faultKind, .int v_faultPlace, .int v_at, .int v_start, .int v_token, .int v_value, .ref h_now, x_draft, x_tried, x_past, .int v_acts, x_images, x_kept, x_trace, .int v_traced, x_comes, x_standing, x_brought, .ref h_habit, .int v_livedMany])), (h_now, .inl (cy 0, 124, .inl v_now)), (h_habit, .inl (cy 0, 3, .inl w_habit))] H → va_D A [(h_this, .inr (11, [x_lane, x_many, x_items, x_spare, .int v_status, x_tape, .int v_taped, .int v_faultKind, .int v_faultPlace, .int v_at, .int v_start, .int v_token, .int v_value, .ref h_now, x_draft, x_tried, x_past, .int v_acts, x_images, x_kept, x_trace, .int v_traced, x_comes, x_standing, x_brought, .ref h_habit, .int v_livedMany])), (h_now, .inl (cy 0, 124, .inl v_now)), (h_habit, .inl (cy 0, 3, .inl w_habit))] → va_S A s.heap H locs → lv_has ls 4 [(0, .ref h_this), (2, .int l2), (3, .int l3)] → wlX12_takesHabits_11 v_now post n_11 l2 l3 w_habit → W p l e rmX12_takesHabits s m args below meth c H locs 0 0 Q (F0 m 11 ls []) := by
    intro n_11
    induction n_11 with
    | zero =>
      intro l2 l3 w_habit H locs ls  hP hD hS hl hF
      simp only [wlX12_takesHabits_11] at hF
    | succ n_11 ih_11 =>
      intro l2 l3 w_habit H locs ls  hP hD hS hl hF
      unfold wlX12_takesHabits_11 at hF
      refine lv_iload_n hx hb dX12_takesHabits_11 rfl (lv_at hl 2 rfl) ?_
      refine lv_if_lt (tgt := 34) hx hb dX12_takesHabits_12 (by decide) (fun c_ => ?_) (fun c_ => ?_)
      · have hF := hF.1 c_
        exact rt_v C hQ rfl hP hD hS ⟨w_habit, rfl, hF⟩ dX12_takesHabits_34
      · have hF := hF.2 c_
        refine lv_aload_n hx hb dX12_takesHabits_15 rfl (lv_at hl 0 rfl) ?_
        refine va_get (D := D) (ci := 11) (v := .ref h_habit) (C := RX12) (T := TX12) (N := 27) hx hb hts inTX12 hown hK.1 hP 0 rfl rfl 25 (by decide) (hts _ t4_149) (fun _ h9 => h9) rfl dX12_takesHabits_16 ?_
        refine lv_iload_n hx hb dX12_takesHabits_19 rfl (lv_at hl 2 rfl) ?_
        refine lv_iload_n hx hb dX12_takesHabits_20 rfl (lv_at hl 1 rfl) ?_
        refine lv_iconst (v := 3) hx hb dX12_takesHabits_21 (by decide) ?_
        refine lv_irem hx hb dX12_takesHabits_22 (by decide) ?_
        obtain ⟨hi1, hF⟩ := hF
        refine s_iast (j := (l3).toNatClampNeg) hx hb hK.1 hP hD hS 2 0 rfl rfl hi1 rfl dX12_takesHabits_23 (fun H locs hP hD hS => ?_)
        have hP : va_P D CL [(h_this, .inr (11, [x_lane, x_many, x_items, x_spare, .int v_status, x_tape, .int v_taped, .int v_faultKind, .int v_faultPlace, .int v_at, .int v_start, .int v_token, .int v_value, .ref h_now, x_draft, x_tried, x_past, .int v_acts, x_images, x_kept, x_trace, .int v_traced, x_comes, x_standing, x_brought, .ref h_habit, .int v_livedMany])), (h_now, .inl (cy 0, 124, .inl v_now)), (h_habit, .inl (cy 0, 3, .inl (upd w_habit ((l3).toNatClampNeg) (l2 - l2 / 3 * 3))))] H := hP
        have hD : va_D A [(h_this, .inr (11, [x_lane, x_many, x_items, x_spare, .int v_status, x_tape, .int v_taped, .int v_faultKind, .int v_faultPlace, .int v_at, .int v_start, .int v_token, .int v_value, .ref h_now, x_draft, x_tried, x_past, .int v_acts, x_images, x_kept, x_trace, .int v_traced, x_comes, x_standing, x_brought, .ref h_habit, .int v_livedMany])), (h_now, .inl (cy 0, 124, .inl v_now)), (h_habit, .inl (cy 0, 3, .inl (upd w_habit ((l3).toNatClampNeg) (l2 - l2 / 3 * 3))))] := hD
        refine lv_iload_n hx hb dX12_takesHabits_24 rfl (lv_at hl 1 rfl) ?_
        refine lv_iconst (v := 3) hx hb dX12_takesHabits_25 (by decide) ?_
        refine lv_idiv hx hb dX12_takesHabits_26 (by decide) ?_
        refine lv_istore_n (lv' := [(2, .int (l2 / 3)), (0, .ref h_this), (3, .int l3)]) hx hb dX12_takesHabits_27 rfl hl (by decide) rfl (fun ls hl => ?_)
        refine lv_iinc (v := (l3 + (-1))) (lv' := [(3, .int (l3 + (-1))), (2, .int (l2 / 3)), (0, .ref h_this)]) hx hb dX12_takesHabits_28 hl (k := 2) rfl rfl (by decide) rfl (fun ls hl => ?_)
        refine lv_goto (tgt := 11) hx hb dX12_takesHabits_31 (by decide) ?_
        exact ih_11 (l2 / 3) (l3 + (-1)) (upd w_habit ((l3).toNatClampNeg) (l2 - l2 / 3 * 3)) _ _ ls  hP hD hS (lv_sub hl [2, 1, 0] rfl) hF
  unfold wpX12_takesHabits at hF
  refine lv_iload_n hx hb dX12_takesHabits_0 rfl (lv_at hl 1 rfl) ?_
  refine lv_istore_n (lv' := [(2, .int p0), (0, .ref h_this), (1, .int p0)]) hx hb dX12_takesHabits_1 rfl hl (by decide) rfl (fun ls hl => ?_)
  refine lv_aload_n hx hb dX12_takesHabits_2 rfl (lv_at hl 1 rfl) ?_
  refine va_get (D := D) (ci := 11) (v := .ref h_now) (C := RX12) (T := TX12) (N := 27) hx hb hts inTX12 hown hK.1 hP 0 rfl rfl 13 (by decide) (hts _ t4_137) (fun _ h9 => h9) rfl dX12_takesHabits_3 ?_
  refine lv_iconst (v := 1) hx hb dX12_takesHabits_6 (by decide) ?_
  refine s_iald (j := 1) hx hb hK.1 hP 1 0 rfl rfl (vi (by decide)) (by decide) dX12_takesHabits_7 ?_
  refine lv_iconst (v := 1) hx hb dX12_takesHabits_8 (by decide) ?_
  refine lv_isub hx hb dX12_takesHabits_9 ?_
  refine lv_istore_n (lv' := [(3, .int ((v_now 1) - 1)), (2, .int p0), (0, .ref h_this), (1, .int p0)]) hx hb dX12_takesHabits_10 rfl hl (by decide) rfl (fun ls hl => ?_)
  exact L_11 fu p0 ((v_now 1) - 1) v_habit _ _ ls  hP hD hS (lv_sub hl [2, 1, 0] rfl) hF

def wjX12_rests_185 (v_now : Nat → Int32) (post : Int32 → (Nat → Int32) → (Nat → Int64) → (Nat → Int64) → (Nat → Int64) → Prop) (l1 : Int32) (l3 : Int32) (w_habit : Nat → Int32) (w_comes : Nat → Int64) (w_standing : Nat → Int64) (w_brought : Nat → Int64) : Prop := (¬ l1 = (-1) → (post (-1000000) w_habit w_comes w_standing w_brought)) ∧ (l1 = (-1) → (post l3 w_habit w_comes w_standing w_brought))
def wjX12_rests_165 (v_now : Nat → Int32) (post : Int32 → (Nat → Int32) → (Nat → Int64) → (Nat → Int64) → (Nat → Int64) → Prop) (K_80 : Int32 → Int32 → Int32 → Int32 → Int32 → (Nat → Int32) → (Nat → Int64) → (Nat → Int64) → (Nat → Int64) → Prop) (l1 : Int32) (l2 : Int32) (l4 : Int32) (l5 : Int32) (k0 : Bool) (k1 : Int32) (w_habit : Nat → Int32) (w_comes : Nat → Int64) (w_standing : Nat → Int64) (w_brought : Nat → Int64) : Prop := K_80 l1 l2 (k1 + bz k0) l4 (l5 + 1) w_habit w_comes w_standing w_brought
def wjX12_rests_152 (v_now : Nat → Int32) (post : Int32 → (Nat → Int32) → (Nat → Int64) → (Nat → Int64) → (Nat → Int64) → Prop) (K_80 : Int32 → Int32 → Int32 → Int32 → Int32 → (Nat → Int32) → (Nat → Int64) → (Nat → Int64) → (Nat → Int64) → Prop) (l1 : Int32) (l2 : Int32) (l3 : Int32) (l5 : Int32) (l6 : Bool) (k0 : Int32) (w_habit : Nat → Int32) (w_comes : Nat → Int64) (w_standing : Nat → Int64) (w_brought : Nat → Int64) : Prop := (l6 = false → (wjX12_rests_165 v_now post K_80 l1 l2 k0 l5 false l3 w_habit w_comes w_standing w_brought)) ∧ (l6 = true → (wjX12_rests_165 v_now post K_80 l1 l2 k0 l5 true l3 w_habit w_comes w_standing w_brought))
def wjX12_rests_150 (v_now : Nat → Int32) (post : Int32 → (Nat → Int32) → (Nat → Int64) → (Nat → Int64) → (Nat → Int64) → Prop) (K_80 : Int32 → Int32 → Int32 → Int32 → Int32 → (Nat → Int32) → (Nat → Int64) → (Nat → Int64) → (Nat → Int64) → Prop) (l1 : Int32) (l2 : Int32) (l3 : Int32) (l4 : Int32) (l5 : Int32) (l6 : Bool) (w_habit : Nat → Int32) (w_comes : Nat → Int64) (w_standing : Nat → Int64) (w_brought : Nat → Int64) : Prop := wjX12_rests_152 v_now post K_80 l1 l2 l3 l5 l6 l4 w_habit w_comes w_standing w_brought
def wjX12_rests_128 (v_now : Nat → Int32) (post : Int32 → (Nat → Int32) → (Nat → Int64) → (Nat → Int64) → (Nat → Int64) → Prop) (K_80 : Int32 → Int32 → Int32 → Int32 → Int32 → (Nat → Int32) → (Nat → Int64) → (Nat → Int64) → (Nat → Int64) → Prop) (K_98 : Int32 → Int32 → Int32 → Int32 → Int32 → Bool → Int32 → (Nat → Int32) → (Nat → Int64) → (Nat → Int64) → (Nat → Int64) → Prop) (l1 : Int32) (l2 : Int32) (l3 : Int32) (l4 : Int32) (l5 : Int32) (l7 : Int32) (k0 : Bool) (w_habit : Nat → Int32) (w_comes : Nat → Int64) (w_standing : Nat → Int64) (w_brought : Nat → Int64) : Prop := K_98 l1 l2 l3 l4 l5 k0 (l7 + 1) w_habit w_comes w_standing w_brought
def wjX12_rests_127 (v_now : Nat → Int32) (post : Int32 → (Nat → Int32) → (Nat → Int64) → (Nat → Int64) → (Nat → Int64) → Prop) (K_80 : Int32 → Int32 → Int32 → Int32 → Int32 → (Nat → Int32) → (Nat → Int64) → (Nat → Int64) → (Nat → Int64) → Prop) (K_98 : Int32 → Int32 → Int32 → Int32 → Int32 → Bool → Int32 → (Nat → Int32) → (Nat → Int64) → (Nat → Int64) → (Nat → Int64) → Prop) (l1 : Int32) (l2 : Int32) (l3 : Int32) (l4 : Int32) (l5 : Int32) (l7 : Int32) (w_habit : Nat → Int32) (w_comes : Nat → Int64) (w_standing : Nat → Int64) (w_brought : Nat → Int64) : Prop := wjX12_rests_128 v_now post K_80 K_98 l1 l2 l3 l4 l5 l7 false w_habit w_comes w_standing w_brought
def wlX12_rests_98 (v_now : Nat → Int32) (post : Int32 → (Nat → Int32) → (Nat → Int64) → (Nat → Int64) → (Nat → Int64) → Prop) (K_80 : Int32 → Int32 → Int32 → Int32 → Int32 → (Nat → Int32) → (Nat → Int64) → (Nat → Int64) → (Nat → Int64) → Prop) : Nat → Int32 → Int32 → Int32 → Int32 → Int32 → Bool → Int32 → (Nat → Int32) → (Nat → Int64) → (Nat → Int64) → (Nat → Int64) → Prop
  | 0, _, _, _, _, _, _, _, _, _, _, _ => False
  | n + 1, l1, l2, l3, l4, l5, l6, l7, w_habit, w_comes, w_standing, w_brought => ((v_now 1) ≤ l7 → ((l6 = false → (wjX12_rests_150 v_now post K_80 l1 l2 l3 l4 l5 l6 w_habit w_comes w_standing w_brought)) ∧ (l6 = true → ((¬ l3 = 0 → (wjX12_rests_150 v_now post K_80 l1 l2 l3 l4 l5 l6 w_habit w_comes w_standing w_brought)) ∧ (l3 = 0 → (wjX12_rests_152 v_now post K_80 l1 l2 l3 l5 l6 l5 w_habit w_comes w_standing w_brought)))))) ∧ (¬ (v_now 1) ≤ l7 → ((l6 = false → (wjX12_rests_127 v_now post K_80 (wlX12_rests_98 v_now post K_80 n) l1 l2 l3 l4 l5 l7 w_habit w_comes w_standing w_brought)) ∧ (l6 = true → (wpX12_isContent l7 w_habit v_now w_comes w_standing w_brought (fun r1 u2_habit u3_comes u4_standing u5_brought => (r1 = false → (wjX12_rests_127 v_now post K_80 (wlX12_rests_98 v_now post K_80 n) l1 l2 l3 l4 l5 l7 u2_habit u3_comes u4_standing u5_brought)) ∧ (r1 = true → (wjX12_rests_128 v_now post K_80 (wlX12_rests_98 v_now post K_80 n) l1 l2 l3 l4 l5 l7 true u2_habit u3_comes u4_standing u5_brought)))))))
def wlX12_rests_80 (v_now : Nat → Int32) (post : Int32 → (Nat → Int32) → (Nat → Int64) → (Nat → Int64) → (Nat → Int64) → Prop) : Nat → Int32 → Int32 → Int32 → Int32 → Int32 → (Nat → Int32) → (Nat → Int64) → (Nat → Int64) → (Nat → Int64) → Prop
  | 0, _, _, _, _, _, _, _, _, _ => False
  | n + 1, l1, l2, l3, l4, l5, w_habit, w_comes, w_standing, w_brought => (l2 ≤ l5 → ((l1 = (-1) → (wjX12_rests_185 v_now post l1 l3 w_habit w_comes w_standing w_brought)) ∧ (¬ l1 = (-1) → ((¬ l4 = (-1000000) → (wpX12_takesHabits l4 v_now w_habit (fun _ u2_habit => vp_in l1 3 ∧ (post (u2_habit ((l1).toNatClampNeg)) u2_habit w_comes w_standing w_brought)))) ∧ (l4 = (-1000000) → (wjX12_rests_185 v_now post l1 l3 w_habit w_comes w_standing w_brought)))))) ∧ (¬ l2 ≤ l5 → (wpX12_takesHabits l5 v_now w_habit (fun _ u5_habit => wlX12_rests_98 v_now post (wlX12_rests_80 v_now post n) fu l1 l2 l3 l4 l5 true 0 u5_habit w_comes w_standing w_brought)))
def wjX12_rests_70 (v_now : Nat → Int32) (post : Int32 → (Nat → Int32) → (Nat → Int64) → (Nat → Int64) → (Nat → Int64) → Prop) (l1 : Int32) (k0 : Int32) (w_habit : Nat → Int32) (w_comes : Nat → Int64) (w_standing : Nat → Int64) (w_brought : Nat → Int64) : Prop := wlX12_rests_80 v_now post fu l1 k0 0 (-1000000) 0 w_habit w_comes w_standing w_brought
def wjX12_rests_26 (v_now : Nat → Int32) (post : Int32 → (Nat → Int32) → (Nat → Int64) → (Nat → Int64) → (Nat → Int64) → Prop) (l1 : Int32) (w_habit : Nat → Int32) (w_comes : Nat → Int64) (w_standing : Nat → Int64) (w_brought : Nat → Int64) : Prop := (¬ (v_now 1) = 0 → ((¬ (v_now 1) = 1 → ((¬ (v_now 1) = 2 → (wjX12_rests_70 v_now post l1 27 w_habit w_comes w_standing w_brought)) ∧ ((v_now 1) = 2 → (wjX12_rests_70 v_now post l1 9 w_habit w_comes w_standing w_brought)))) ∧ ((v_now 1) = 1 → (wjX12_rests_70 v_now post l1 3 w_habit w_comes w_standing w_brought)))) ∧ ((v_now 1) = 0 → (wjX12_rests_70 v_now post l1 1 w_habit w_comes w_standing w_brought))
def wpX12_rests (p0 : Int32) (v_now : Nat → Int32) (v_habit : Nat → Int32) (v_comes : Nat → Int64) (v_standing : Nat → Int64) (v_brought : Nat → Int64) (post : Int32 → (Nat → Int32) → (Nat → Int64) → (Nat → Int64) → (Nat → Int64) → Prop) : Prop := wpX12_isVillage v_now (fun r1 => (r1 = true → ((p0 = (-1) → (wjX12_rests_26 v_now post p0 v_habit v_comes v_standing v_brought)) ∧ (¬ p0 = (-1) → (wpX12_isPerson p0 v_now (fun r2 => (r2 = true → (wjX12_rests_26 v_now post p0 v_habit v_comes v_standing v_brought)) ∧ (r2 = false → (post (-1000001) v_habit v_comes v_standing v_brought))))))) ∧ (r1 = false → (post (-1000002) v_habit v_comes v_standing v_brought)))
abbrev miX12_rests : MI := (yX12_rests, cX12_rests, 8, (some .int))
theorem mfX12_rests : MF miX12_rests 1 := ⟨t5_169, t1_8, by decide +kernel⟩
abbrev rmX12_rests : Room := { frames := 5, cells := 0, slots := 0, locals := 124 }
set_option maxHeartbeats 4000000 in
set_option maxRecDepth 100000 in
theorem ccX12_rests (l : Launch) (D : va_G) (cy : Nat → ClassId) (h_this : Nat) (h_now : Nat) (h_habit : Nat) (h_comes : Nat) (h_standing : Nat) (h_brought : Nat) (x_lane : Value) (x_many : Value) (x_items : Value) (x_spare : Value) (x_tape : Value) (x_draft : Value) (x_tried : Value) (x_past : Value) (x_images : Value) (x_kept : Value) (x_trace : Value) (v_status : Int32) (v_taped : Int32) (v_faultKind : Int32) (v_faultPlace : Int32) (v_at : Int32) (v_start : Int32) (v_token : Int32) (v_value : Int32) (v_acts : Int32) (v_traced : Int32) (v_livedMany : Int32) (v_now : Nat → Int32) (v_habit : Nat → Int32) (v_comes : Nat → Int64) (v_standing : Nat → Int64) (v_brought : Nat → Int64) (p0 : Int32) (post : Int32 → (Nat → Int32) → (Nat → Int64) → (Nat → Int64) → (Nat → Int64) → Prop) (hF : wpX12_rests p0 v_now v_habit v_comes v_standing v_brought post) : Ct l D cy miX12_rests rmX12_rests emI NP [.ref h_this, .int p0] [(h_this, .inr (11, [x_lane, x_many, x_items, x_spare, .int v_status, x_tape, .int v_taped, .int v_faultKind, .int v_faultPlace, .int v_at, .int v_start, .int v_token, .int v_value, .ref h_now, x_draft, x_tried, x_past, .int v_acts, x_images, x_kept, x_trace, .int v_traced, .ref h_comes, .ref h_standing, .ref h_brought, .ref h_habit, .int v_livedMany])), (h_now, .inl (cy 0, 124, .inl v_now)), (h_habit, .inl (cy 0, 3, .inl v_habit)), (h_comes, .inl (cy 1, 8, .inr (.inl v_comes))), (h_standing, .inl (cy 1, 8, .inr (.inl v_standing))), (h_brought, .inl (cy 1, 24, .inr (.inl v_brought)))] (fun r w1 => ∃ (w_habit : Nat → Int32) (w_comes : Nat → Int64) (w_standing : Nat → Int64) (w_brought : Nat → Int64), w1 = [(h_this, .inr (11, [x_lane, x_many, x_items, x_spare, .int v_status, x_tape, .int v_taped, .int v_faultKind, .int v_faultPlace, .int v_at, .int v_start, .int v_token, .int v_value, .ref h_now, x_draft, x_tried, x_past, .int v_acts, x_images, x_kept, x_trace, .int v_traced, .ref h_comes, .ref h_standing, .ref h_brought, .ref h_habit, .int v_livedMany])), (h_now, .inl (cy 0, 124, .inl v_now)), (h_habit, .inl (cy 0, 3, .inl w_habit)), (h_comes, .inl (cy 1, 8, .inr (.inl w_comes))), (h_standing, .inl (cy 1, 8, .inr (.inl w_standing))), (h_brought, .inl (cy 1, 24, .inr (.inl w_brought)))] ∧ post r w_habit w_comes w_standing w_brought) := by
  refine Ct.of (by decide) (Nat.le_of_ble_eq_true rfl) ?_
  intro p e s m args below meth c A ls Q C hQ hA hI hP hD hS hl
  obtain ⟨hx, hb, hr, hml, hown, hts, hK, hlk, hnm⟩ := id C
  have hb : c.code = cX12_rests := hb
  have hml : c.maxLocals = 8 := hml
  have hown : s.vm.findClass RX12 = some m.cls := hown
  have hl : lv_has ls 8 [(0, .ref h_this), (1, .int p0)] := hl
  have J_185 : ∀ (l1 : Int32) (l3 : Int32) (w_habit : Nat → Int32) (w_comes : Nat → Int64) (w_standing : Nat → Int64) (w_brought : Nat → Int64) (H : Heap) (locs : List Loc) (ls : Array Slot), va_P D CL [(h_this, .inr (11, [x_lane, x_many, x_items, x_spare, .int v_status, x_tape, .int v_taped, .int v_faultKind, .int v_faultPlace, .int v_at, .int v_start, .int v_token, .int v_value, .ref h_now, x_draft, x_tried, x_past, .int v_acts, x_images, x_kept, x_trace, .int v_traced, .ref h_comes, .ref h_standing, .ref h_brought, .ref h_habit, .int v_livedMany])), (h_now, .inl (cy 0, 124, .inl v_now)), (h_habit, .inl (cy 0, 3, .inl w_habit)), (h_comes, .inl (cy 1, 8, .inr (.inl w_comes))), (h_standing, .inl (cy 1, 8, .inr (.inl w_standing))), (h_brought, .inl (cy 1, 24, .inr (.inl w_brought)))] H → va_D A [(h_this, .inr (11, [x_lane, x_many, x_items, x_spare, .int v_status, x_tape, .int v_taped, .int v_faultKind, .int v_faultPlace, .int v_at, .int v_start, .int v_token, .int v_value, .ref h_now, x_draft, x_tried, x_past, .int v_acts, x_images, x_kept, x_trace, .int v_traced, .ref h_comes, .ref h_standing, .ref h_brought, .ref h_habit, .int v_livedMany])), (h_now, .inl (cy 0, 124, .inl v_now)), (h_habit, .inl (cy 0, 3, .inl w_habit)), (h_comes, .inl (cy 1, 8, .inr (.inl w_comes))), (h_standing, .inl (cy 1, 8, .inr (.inl w_standing))), (h_brought, .inl (cy 1, 24, .inr (.inl w_brought)))] → va_S A s.heap H locs → lv_has ls 8 [(1, .int l1), (3, .int l3)] → wjX12_rests_185 v_now post l1 l3 w_habit w_comes w_standing w_brought → W p l e rmX12_rests s m args below meth c H locs 0 0 Q (F0 m 185 ls []) := by
    intro l1 l3 w_habit w_comes w_standing w_brought H locs ls  hP hD hS hl hF
    unfold wjX12_rests_185 at hF
    refine lv_iload_n hx hb dX12_rests_185 rfl (lv_at hl 0 rfl) ?_
    refine lv_iconst (v := (-1)) hx hb dX12_rests_186 (by decide) ?_
    refine lv_icmp_ne (tgt := 194) hx hb dX12_rests_187 (by decide) (fun c_ => ?_) (fun c_ => ?_)
    · have hF := hF.1 c_
      refine lv_ldc hx hb hown (hts _ t4_123) dX12_rests_194 ?_
      exact rt_i C hQ rfl hP hD hS ⟨w_habit, w_comes, w_standing, w_brought, rfl, hF⟩ dX12_rests_196
    · have hF := hF.2 c_
      refine lv_iload_n hx hb dX12_rests_190 rfl (lv_at hl 1 rfl) ?_
      refine lv_goto (tgt := 196) hx hb dX12_rests_191 (by decide) ?_
      exact rt_i C hQ rfl hP hD hS ⟨w_habit, w_comes, w_standing, w_brought, rfl, hF⟩ dX12_rests_196
  have L_80 : ∀ (n_80 : Nat) (l1 : Int32) (l2 : Int32) (l3 : Int32) (l4 : Int32) (l5 : Int32) (w_habit : Nat → Int32) (w_comes : Nat → Int64) (w_standing : Nat → Int64) (w_brought : Nat → Int64) (H : Heap) (locs : List Loc) (ls : Array Slot), va_P D CL [(h_this, .inr (11, [x_lane, x_many, x_items, x_spare, .int v_status, x_tape, .int v_taped, .int v_faultKind, .int v_faultPlace, .int v_at, .int v_start, .int v_token, .int v_value, .ref h_now, x_draft, x_tried, x_past, .int v_acts, x_images, x_kept, x_trace, .int v_traced, .ref h_comes, .ref h_standing, .ref h_brought, .ref h_habit, .int v_livedMany])), (h_now, .inl (cy 0, 124, .inl v_now)), (h_habit, .inl (cy 0, 3, .inl w_habit)), (h_comes, .inl (cy 1, 8, .inr (.inl w_comes))), (h_standing, .inl (cy 1, 8, .inr (.inl w_standing))), (h_brought, .inl (cy 1, 24, .inr (.inl w_brought)))] H → va_D A [(h_this, .inr (11, [x_lane, x_many, x_items, x_spare, .int v_status, x_tape, .int v_taped, .int v_faultKind, .int v_faultPlace, .int v_at, .int v_start, .int v_token, .int v_value, .ref h_now, x_draft, x_tried, x_past, .int v_acts, x_images, x_kept, x_trace, .int v_traced, .ref h_comes, .ref h_standing, .ref h_brought, .ref h_habit, .int v_livedMany])), (h_now, .inl (cy 0, 124, .inl v_now)), (h_habit, .inl (cy 0, 3, .inl w_habit)), (h_comes, .inl (cy 1, 8, .inr (.inl w_comes))), (h_standing, .inl (cy 1, 8, .inr (.inl w_standing))), (h_brought, .inl (cy 1, 24, .inr (.inl w_brought)))] → va_S A s.heap H locs → lv_has ls 8 [(0, .ref h_this), (1, .int l1), (2, .int l2), (3, .int l3), (4, .int l4), (5, .int l5)] → wlX12_rests_80 v_now post n_80 l1 l2 l3 l4 l5 w_habit w_comes w_standing w_brought → W p l e rmX12_rests s m args below meth c H locs 0 0 Q (F0 m 80 ls []) := by
    intro n_80
    induction n_80 with
    | zero =>
      intro l1 l2 l3 l4 l5 w_habit w_comes w_standing w_brought H locs ls  hP hD hS hl hF
      simp only [wlX12_rests_80] at hF
    | succ n_80 ih_80 =>
      have J_165 : ∀ (l1 : Int32) (l2 : Int32) (l4 : Int32) (l5 : Int32) (k0 : Bool) (k1 : Int32) (w_habit : Nat → Int32) (w_comes : Nat → Int64) (w_standing : Nat → Int64) (w_brought : Nat → Int64) (H : Heap) (locs : List Loc) (ls : Array Slot), va_P D CL [(h_this, .inr (11, [x_lane, x_many, x_items, x_spare, .int v_status, x_tape, .int v_taped, .int v_faultKind, .int v_faultPlace, .int v_at, .int v_start, .int v_token, .int v_value, .ref h_now, x_draft, x_tried, x_past, .int v_acts, x_images, x_kept, x_trace, .int v_traced, .ref h_comes, .ref h_standing, .ref h_brought, .ref h_habit, .int v_livedMany])), (h_now, .inl (cy 0, 124, .inl v_now)), (h_habit, .inl (cy 0, 3, .inl w_habit)), (h_comes, .inl (cy 1, 8, .inr (.inl w_comes))), (h_standing, .inl (cy 1, 8, .inr (.inl w_standing))), (h_brought, .inl (cy 1, 24, .inr (.inl w_brought)))] H → va_D A [(h_this, .inr (11, [x_lane, x_many, x_items, x_spare, .int v_status, x_tape, .int v_taped, .int v_faultKind, .int v_faultPlace, .int v_at, .int v_start, .int v_token, .int v_value, .ref h_now, x_draft, x_tried, x_past, .int v_acts, x_images, x_kept, x_trace, .int v_traced, .ref h_comes, .ref h_standing, .ref h_brought, .ref h_habit, .int v_livedMany])), (h_now, .inl (cy 0, 124, .inl v_now)), (h_habit, .inl (cy 0, 3, .inl w_habit)), (h_comes, .inl (cy 1, 8, .inr (.inl w_comes))), (h_standing, .inl (cy 1, 8, .inr (.inl w_standing))), (h_brought, .inl (cy 1, 24, .inr (.inl w_brought)))] → va_S A s.heap H locs → lv_has ls 8 [(0, .ref h_this), (1, .int l1), (2, .int l2), (4, .int l4), (5, .int l5)] → wjX12_rests_165 v_now post (wlX12_rests_80 v_now post n_80) l1 l2 l4 l5 k0 k1 w_habit w_comes w_standing w_brought → W p l e rmX12_rests s m args below meth c H locs 0 0 Q (F0 m 165 ls [.int (bz k0), .int k1]) := by
        intro l1 l2 l4 l5 k0 k1 w_habit w_comes w_standing w_brought H locs ls  hP hD hS hl hF
        unfold wjX12_rests_165 at hF
        refine lv_iadd hx hb dX12_rests_165 ?_
        refine lv_istore_n (lv' := [(3, .int (k1 + bz k0)), (0, .ref h_this), (1, .int l1), (2, .int l2), (4, .int l4), (5, .int l5)]) hx hb dX12_rests_166 rfl hl (by decide) rfl (fun ls hl => ?_)
        refine lv_iinc (v := (l5 + 1)) (lv' := [(5, .int (l5 + 1)), (3, .int (k1 + bz k0)), (0, .ref h_this), (1, .int l1), (2, .int l2), (4, .int l4)]) hx hb dX12_rests_167 hl (k := 5) rfl rfl (by decide) rfl (fun ls hl => ?_)
        refine lv_goto (tgt := 80) hx hb dX12_rests_170 (by decide) ?_
        exact ih_80 l1 l2 (k1 + bz k0) l4 (l5 + 1) w_habit w_comes w_standing w_brought _ _ ls  hP hD hS (lv_sub hl [2, 3, 4, 1, 5, 0] rfl) hF
      have J_152 : ∀ (l1 : Int32) (l2 : Int32) (l3 : Int32) (l5 : Int32) (l6 : Bool) (k0 : Int32) (w_habit : Nat → Int32) (w_comes : Nat → Int64) (w_standing : Nat → Int64) (w_brought : Nat → Int64) (H : Heap) (locs : List Loc) (ls : Array Slot), va_P D CL [(h_this, .inr (11, [x_lane, x_many, x_items, x_spare, .int v_status, x_tape, .int v_taped, .int v_faultKind, .int v_faultPlace, .int v_at, .int v_start, .int v_token, .int v_value, .ref h_now, x_draft, x_tried, x_past, .int v_acts, x_images, x_kept, x_trace, .int v_traced, .ref h_comes, .ref h_standing, .ref h_brought, .ref h_habit, .int v_livedMany])), (h_now, .inl (cy 0, 124, .inl v_now)), (h_habit, .inl (cy 0, 3, .inl w_habit)), (h_comes, .inl (cy 1, 8, .inr (.inl w_comes))), (h_standing, .inl (cy 1, 8, .inr (.inl w_standing))), (h_brought, .inl (cy 1, 24, .inr (.inl w_brought)))] H → va_D A [(h_this, .inr (11, [x_lane, x_many, x_items, x_spare, .int v_status, x_tape, .int v_taped, .int v_faultKind, .int v_faultPlace, .int v_at, .int v_start, .int v_token, .int v_value, .ref h_now, x_draft, x_tried, x_past, .int v_acts, x_images, x_kept, x_trace, .int v_traced, .ref h_comes, .ref h_standing, .ref h_brought, .ref h_habit, .int v_livedMany])), (h_now, .inl (cy 0, 124, .inl v_now)), (h_habit, .inl (cy 0, 3, .inl w_habit)), (h_comes, .inl (cy 1, 8, .inr (.inl w_comes))), (h_standing, .inl (cy 1, 8, .inr (.inl w_standing))), (h_brought, .inl (cy 1, 24, .inr (.inl w_brought)))] → va_S A s.heap H locs → lv_has ls 8 [(0, .ref h_this), (1, .int l1), (2, .int l2), (3, .int l3), (5, .int l5), (6, .int (bz l6))] → wjX12_rests_152 v_now post (wlX12_rests_80 v_now post n_80) l1 l2 l3 l5 l6 k0 w_habit w_comes w_standing w_brought → W p l e rmX12_rests s m args below meth c H locs 0 0 Q (F0 m 152 ls [.int k0]) := by
        intro l1 l2 l3 l5 l6 k0 w_habit w_comes w_standing w_brought H locs ls  hP hD hS hl hF
        unfold wjX12_rests_152 at hF
        refine lv_istore (lv' := [(4, .int k0), (0, .ref h_this), (1, .int l1), (2, .int l2), (3, .int l3), (5, .int l5), (6, .int (bz l6))]) hx hb dX12_rests_152 hl (by decide) rfl (fun ls hl => ?_)
        refine lv_iload_n hx hb dX12_rests_154 rfl (lv_at hl 4 rfl) ?_
        refine lv_iload hx hb dX12_rests_155 (lv_at hl 6 rfl) ?_
        refine lv_if_eq (tgt := 164) hx hb dX12_rests_157 (by decide) (fun c_ => ?_) (fun c_ => ?_)
        · have hF := hF.1 ((bz_0 _).mp c_)
          refine lv_iconst (v := 0) hx hb dX12_rests_164 (by decide) ?_
          exact J_165 l1 l2 k0 l5 false l3 w_habit w_comes w_standing w_brought _ _ ls  hP hD hS (lv_sub hl [1, 2, 3, 0, 5] rfl) hF
        · have hF := hF.2 ((bz_1 _).mp c_)
          refine lv_iconst (v := 1) hx hb dX12_rests_160 (by decide) ?_
          refine lv_goto (tgt := 165) hx hb dX12_rests_161 (by decide) ?_
          exact J_165 l1 l2 k0 l5 true l3 w_habit w_comes w_standing w_brought _ _ ls  hP hD hS (lv_sub hl [1, 2, 3, 0, 5] rfl) hF
      have J_150 : ∀ (l1 : Int32) (l2 : Int32) (l3 : Int32) (l4 : Int32) (l5 : Int32) (l6 : Bool) (w_habit : Nat → Int32) (w_comes : Nat → Int64) (w_standing : Nat → Int64) (w_brought : Nat → Int64) (H : Heap) (locs : List Loc) (ls : Array Slot), va_P D CL [(h_this, .inr (11, [x_lane, x_many, x_items, x_spare, .int v_status, x_tape, .int v_taped, .int v_faultKind, .int v_faultPlace, .int v_at, .int v_start, .int v_token, .int v_value, .ref h_now, x_draft, x_tried, x_past, .int v_acts, x_images, x_kept, x_trace, .int v_traced, .ref h_comes, .ref h_standing, .ref h_brought, .ref h_habit, .int v_livedMany])), (h_now, .inl (cy 0, 124, .inl v_now)), (h_habit, .inl (cy 0, 3, .inl w_habit)), (h_comes, .inl (cy 1, 8, .inr (.inl w_comes))), (h_standing, .inl (cy 1, 8, .inr (.inl w_standing))), (h_brought, .inl (cy 1, 24, .inr (.inl w_brought)))] H → va_D A [(h_this, .inr (11, [x_lane, x_many, x_items, x_spare, .int v_status, x_tape, .int v_taped, .int v_faultKind, .int v_faultPlace, .int v_at, .int v_start, .int v_token, .int v_value, .ref h_now, x_draft, x_tried, x_past, .int v_acts, x_images, x_kept, x_trace, .int v_traced, .ref h_comes, .ref h_standing, .ref h_brought, .ref h_habit, .int v_livedMany])), (h_now, .inl (cy 0, 124, .inl v_now)), (h_habit, .inl (cy 0, 3, .inl w_habit)), (h_comes, .inl (cy 1, 8, .inr (.inl w_comes))), (h_standing, .inl (cy 1, 8, .inr (.inl w_standing))), (h_brought, .inl (cy 1, 24, .inr (.inl w_brought)))] → va_S A s.heap H locs → lv_has ls 8 [(0, .ref h_this), (1, .int l1), (2, .int l2), (3, .int l3), (4, .int l4), (5, .int l5), (6, .int (bz l6))] → wjX12_rests_150 v_now post (wlX12_rests_80 v_now post n_80) l1 l2 l3 l4 l5 l6 w_habit w_comes w_standing w_brought → W p l e rmX12_rests s m args below meth c H locs 0 0 Q (F0 m 150 ls []) := by
        intro l1 l2 l3 l4 l5 l6 w_habit w_comes w_standing w_brought H locs ls  hP hD hS hl hF
        unfold wjX12_rests_150 at hF
        refine lv_iload hx hb dX12_rests_150 (lv_at hl 4 rfl) ?_
        exact J_152 l1 l2 l3 l5 l6 l4 w_habit w_comes w_standing w_brought _ _ ls  hP hD hS (lv_sub hl [0, 1, 2, 3, 5, 6] rfl) hF
      have L_98 : ∀ (n_98 : Nat) (l1 : Int32) (l2 : Int32) (l3 : Int32) (l4 : Int32) (l5 : Int32) (l6 : Bool) (l7 : Int32) (w_habit : Nat → Int32) (w_comes : Nat → Int64) (w_standing : Nat → Int64) (w_brought : Nat → Int64) (H : Heap) (locs : List Loc) (ls : Array Slot), va_P D CL [(h_this, .inr (11, [x_lane, x_many, x_items, x_spare, .int v_status, x_tape, .int v_taped, .int v_faultKind, .int v_faultPlace, .int v_at, .int v_start, .int v_token, .int v_value, .ref h_now, x_draft, x_tried, x_past, .int v_acts, x_images, x_kept, x_trace, .int v_traced, .ref h_comes, .ref h_standing, .ref h_brought, .ref h_habit, .int v_livedMany])), (h_now, .inl (cy 0, 124, .inl v_now)), (h_habit, .inl (cy 0, 3, .inl w_habit)), (h_comes, .inl (cy 1, 8, .inr (.inl w_comes))), (h_standing, .inl (cy 1, 8, .inr (.inl w_standing))), (h_brought, .inl (cy 1, 24, .inr (.inl w_brought)))] H → va_D A [(h_this, .inr (11, [x_lane, x_many, x_items, x_spare, .int v_status, x_tape, .int v_taped, .int v_faultKind, .int v_faultPlace, .int v_at, .int v_start, .int v_token, .int v_value, .ref h_now, x_draft, x_tried, x_past, .int v_acts, x_images, x_kept, x_trace, .int v_traced, .ref h_comes, .ref h_standing, .ref h_brought, .ref h_habit, .int v_livedMany])), (h_now, .inl (cy 0, 124, .inl v_now)), (h_habit, .inl (cy 0, 3, .inl w_habit)), (h_comes, .inl (cy 1, 8, .inr (.inl w_comes))), (h_standing, .inl (cy 1, 8, .inr (.inl w_standing))), (h_brought, .inl (cy 1, 24, .inr (.inl w_brought)))] → va_S A s.heap H locs → lv_has ls 8 [(0, .ref h_this), (1, .int l1), (2, .int l2), (3, .int l3), (4, .int l4), (5, .int l5), (6, .int (bz l6)), (7, .int l7)] → wlX12_rests_98 v_now post (wlX12_rests_80 v_now post n_80) n_98 l1 l2 l3 l4 l5 l6 l7 w_habit w_comes w_standing w_brought → W p l e rmX12_rests s m args below meth c H locs 0 0 Q (F0 m 98 ls []) := by
        intro n_98
        induction n_98 with
        | zero =>
          intro l1 l2 l3 l4 l5 l6 l7 w_habit w_comes w_standing w_brought H locs ls  hP hD hS hl hF
          simp only [wlX12_rests_98] at hF
        | succ n_98 ih_98 =>
          have J_128 : ∀ (l1 : Int32) (l2 : Int32) (l3 : Int32) (l4 : Int32) (l5 : Int32) (l7 : Int32) (k0 : Bool) (w_habit : Nat → Int32) (w_comes : Nat → Int64) (w_standing : Nat → Int64) (w_brought : Nat → Int64) (H : Heap) (locs : List Loc) (ls : Array Slot), va_P D CL [(h_this, .inr (11, [x_lane, x_many, x_items, x_spare, .int v_status, x_tape, .int v_taped, .int v_faultKind, .int v_faultPlace, .int v_at, .int v_start, .int v_token, .int v_value, .ref h_now, x_draft, x_tried, x_past, .int v_acts, x_images, x_kept, x_trace, .int v_traced, .ref h_comes, .ref h_standing, .ref h_brought, .ref h_habit, .int v_livedMany])), (h_now, .inl (cy 0, 124, .inl v_now)), (h_habit, .inl (cy 0, 3, .inl w_habit)), (h_comes, .inl (cy 1, 8, .inr (.inl w_comes))), (h_standing, .inl (cy 1, 8, .inr (.inl w_standing))), (h_brought, .inl (cy 1, 24, .inr (.inl w_brought)))] H → va_D A [(h_this, .inr (11, [x_lane, x_many, x_items, x_spare, .int v_status, x_tape, .int v_taped, .int v_faultKind, .int v_faultPlace, .int v_at, .int v_start, .int v_token, .int v_value, .ref h_now, x_draft, x_tried, x_past, .int v_acts, x_images, x_kept, x_trace, .int v_traced, .ref h_comes, .ref h_standing, .ref h_brought, .ref h_habit, .int v_livedMany])), (h_now, .inl (cy 0, 124, .inl v_now)), (h_habit, .inl (cy 0, 3, .inl w_habit)), (h_comes, .inl (cy 1, 8, .inr (.inl w_comes))), (h_standing, .inl (cy 1, 8, .inr (.inl w_standing))), (h_brought, .inl (cy 1, 24, .inr (.inl w_brought)))] → va_S A s.heap H locs → lv_has ls 8 [(0, .ref h_this), (1, .int l1), (2, .int l2), (3, .int l3), (4, .int l4), (5, .int l5), (7, .int l7)] → wjX12_rests_128 v_now post (wlX12_rests_80 v_now post n_80) (wlX12_rests_98 v_now post (wlX12_rests_80 v_now post n_80) n_98) l1 l2 l3 l4 l5 l7 k0 w_habit w_comes w_standing w_brought → W p l e rmX12_rests s m args below meth c H locs 0 0 Q (F0 m 128 ls [.int (bz k0)]) := by
            intro l1 l2 l3 l4 l5 l7 k0 w_habit w_comes w_standing w_brought H locs ls  hP hD hS hl hF
            unfold wjX12_rests_128 at hF
            refine lv_istore (lv' := [(6, .int (bz k0)), (0, .ref h_this), (1, .int l1), (2, .int l2), (3, .int l3), (4, .int l4), (5, .int l5), (7, .int l7)]) hx hb dX12_rests_128 hl (by decide) rfl (fun ls hl => ?_)
            refine lv_iinc (v := (l7 + 1)) (lv' := [(7, .int (l7 + 1)), (6, .int (bz k0)), (0, .ref h_this), (1, .int l1), (2, .int l2), (3, .int l3), (4, .int l4), (5, .int l5)]) hx hb dX12_rests_130 hl (k := 7) rfl rfl (by decide) rfl (fun ls hl => ?_)
            refine lv_goto (tgt := 98) hx hb dX12_rests_133 (by decide) ?_
            exact ih_98 l1 l2 l3 l4 l5 k0 (l7 + 1) w_habit w_comes w_standing w_brought _ _ ls  hP hD hS (lv_sub hl [2, 3, 4, 5, 6, 7, 1, 0] rfl) hF
          have J_127 : ∀ (l1 : Int32) (l2 : Int32) (l3 : Int32) (l4 : Int32) (l5 : Int32) (l7 : Int32) (w_habit : Nat → Int32) (w_comes : Nat → Int64) (w_standing : Nat → Int64) (w_brought : Nat → Int64) (H : Heap) (locs : List Loc) (ls : Array Slot), va_P D CL [(h_this, .inr (11, [x_lane, x_many, x_items, x_spare, .int v_status, x_tape, .int v_taped, .int v_faultKind, .int v_faultPlace, .int v_at, .int v_start, .int v_token, .int v_value, .ref h_now, x_draft, x_tried, x_past, .int v_acts, x_images, x_kept, x_trace, .int v_traced, .ref h_comes, .ref h_standing, .ref h_brought, .ref h_habit, .int v_livedMany])), (h_now, .inl (cy 0, 124, .inl v_now)), (h_habit, .inl (cy 0, 3, .inl w_habit)), (h_comes, .inl (cy 1, 8, .inr (.inl w_comes))), (h_standing, .inl (cy 1, 8, .inr (.inl w_standing))), (h_brought, .inl (cy 1, 24, .inr (.inl w_brought)))] H → va_D A [(h_this, .inr (11, [x_lane, x_many, x_items, x_spare, .int v_status, x_tape, .int v_taped, .int v_faultKind, .int v_faultPlace, .int v_at, .int v_start, .int v_token, .int v_value, .ref h_now, x_draft, x_tried, x_past, .int v_acts, x_images, x_kept, x_trace, .int v_traced, .ref h_comes, .ref h_standing, .ref h_brought, .ref h_habit, .int v_livedMany])), (h_now, .inl (cy 0, 124, .inl v_now)), (h_habit, .inl (cy 0, 3, .inl w_habit)), (h_comes, .inl (cy 1, 8, .inr (.inl w_comes))), (h_standing, .inl (cy 1, 8, .inr (.inl w_standing))), (h_brought, .inl (cy 1, 24, .inr (.inl w_brought)))] → va_S A s.heap H locs → lv_has ls 8 [(0, .ref h_this), (1, .int l1), (2, .int l2), (3, .int l3), (4, .int l4), (5, .int l5), (7, .int l7)] → wjX12_rests_127 v_now post (wlX12_rests_80 v_now post n_80) (wlX12_rests_98 v_now post (wlX12_rests_80 v_now post n_80) n_98) l1 l2 l3 l4 l5 l7 w_habit w_comes w_standing w_brought → W p l e rmX12_rests s m args below meth c H locs 0 0 Q (F0 m 127 ls []) := by
            intro l1 l2 l3 l4 l5 l7 w_habit w_comes w_standing w_brought H locs ls  hP hD hS hl hF
            unfold wjX12_rests_127 at hF
            refine lv_iconst (v := 0) hx hb dX12_rests_127 (by decide) ?_
            exact J_128 l1 l2 l3 l4 l5 l7 false w_habit w_comes w_standing w_brought _ _ ls  hP hD hS (lv_sub hl [0, 1, 2, 3, 4, 5, 6] rfl) hF
          intro l1 l2 l3 l4 l5 l6 l7 w_habit w_comes w_standing w_brought H locs ls  hP hD hS hl hF
          unfold wlX12_rests_98 at hF
          refine lv_iload hx hb dX12_rests_98 (lv_at hl 7 rfl) ?_
          refine lv_aload_n hx hb dX12_rests_100 rfl (lv_at hl 0 rfl) ?_
          refine va_get (D := D) (ci := 11) (v := .ref h_now) (C := RX12) (T := TX12) (N := 27) hx hb hts inTX12 hown hK.1 hP 0 rfl rfl 13 (by decide) (hts _ t4_137) (fun _ h9 => h9) rfl dX12_rests_101 ?_
          refine lv_iconst (v := 1) hx hb dX12_rests_104 (by decide) ?_
          refine s_iald (j := 1) hx hb hK.1 hP 1 0 rfl rfl (vi (by decide)) (by decide) dX12_rests_105 ?_
          refine lv_icmp_ge (tgt := 136) hx hb dX12_rests_106 (by decide) (fun c_ => ?_) (fun c_ => ?_)
          · have hF := hF.1 c_
            refine lv_iload hx hb dX12_rests_136 (lv_at hl 6 rfl) ?_
            refine lv_if_eq (tgt := 150) hx hb dX12_rests_138 (by decide) (fun c_ => ?_) (fun c_ => ?_)
            · have hF := hF.1 ((bz_0 _).mp c_)
              exact J_150 l1 l2 l3 l4 l5 l6 w_habit w_comes w_standing w_brought _ _ ls  hP hD hS (lv_sub hl [0, 1, 2, 3, 4, 5, 6] rfl) hF
            · have hF := hF.2 ((bz_1 _).mp c_)
              refine lv_iload_n hx hb dX12_rests_141 rfl (lv_at hl 3 rfl) ?_
              refine lv_if_ne (tgt := 150) hx hb dX12_rests_142 (by decide) (fun c_ => ?_) (fun c_ => ?_)
              · have hF := hF.1 c_
                exact J_150 l1 l2 l3 l4 l5 l6 w_habit w_comes w_standing w_brought _ _ ls  hP hD hS (lv_sub hl [0, 1, 2, 3, 4, 5, 6] rfl) hF
              · have hF := hF.2 c_
                refine lv_iload hx hb dX12_rests_145 (lv_at hl 5 rfl) ?_
                refine lv_goto (tgt := 152) hx hb dX12_rests_147 (by decide) ?_
                exact J_152 l1 l2 l3 l5 l6 l5 w_habit w_comes w_standing w_brought _ _ ls  hP hD hS (lv_sub hl [0, 1, 2, 3, 5, 6] rfl) hF
          · have hF := hF.2 c_
            refine lv_iload hx hb dX12_rests_109 (lv_at hl 6 rfl) ?_
            refine lv_if_eq (tgt := 127) hx hb dX12_rests_111 (by decide) (fun c_ => ?_) (fun c_ => ?_)
            · have hF := hF.1 ((bz_0 _).mp c_)
              exact J_127 l1 l2 l3 l4 l5 l7 w_habit w_comes w_standing w_brought _ _ ls  hP hD hS (lv_sub hl [0, 1, 2, 3, 4, 5, 7] rfl) hF
            · have hF := hF.2 ((bz_1 _).mp c_)
              refine lv_aload_n hx hb dX12_rests_114 rfl (lv_at hl 0 rfl) ?_
              refine lv_iload hx hb dX12_rests_115 (lv_at hl 7 rfl) ?_
              refine cV_t (As := [.int l7]) (wr := []) C hA hP hD hS mfX12_isContent t5_176 ts_33 t5_174 (ccX12_isContent l D cy h_this h_habit h_now h_comes h_standing h_brought x_lane x_many x_items x_spare x_tape x_draft x_tried x_past x_images x_kept x_trace v_status v_taped v_faultKind v_faultPlace v_at v_start v_token v_value v_acts v_traced v_livedMany w_habit v_now w_comes w_standing w_brought l7 _ hF) [0, 2, 1, 3, 4, 5] [] rfl rfl (by decide) (by decide) (by decide) PO.np 0 11 rfl rfl rfl rfl hl.1 rfl (Nat.le_of_ble_eq_true rfl) dX12_rests_117 ⟨Nat.le_of_ble_eq_true rfl, Nat.le_of_ble_eq_true rfl⟩ ⟨Nat.le_of_ble_eq_true rfl, Nat.le_of_ble_eq_true rfl⟩ ?_
              rintro r1 w1 H locs ⟨u2_habit, u3_comes, u4_standing, u5_brought, rfl, hF⟩ hP hD hS
              have hP : va_P D CL [(h_this, .inr (11, [x_lane, x_many, x_items, x_spare, .int v_status, x_tape, .int v_taped, .int v_faultKind, .int v_faultPlace, .int v_at, .int v_start, .int v_token, .int v_value, .ref h_now, x_draft, x_tried, x_past, .int v_acts, x_images, x_kept, x_trace, .int v_traced, .ref h_comes, .ref h_standing, .ref h_brought, .ref h_habit, .int v_livedMany])), (h_habit, .inl (cy 0, 3, .inl u2_habit)), (h_now, .inl (cy 0, 124, .inl v_now)), (h_comes, .inl (cy 1, 8, .inr (.inl u3_comes))), (h_standing, .inl (cy 1, 8, .inr (.inl u4_standing))), (h_brought, .inl (cy 1, 24, .inr (.inl u5_brought)))] H := hP
              have hD : va_D A [(h_this, .inr (11, [x_lane, x_many, x_items, x_spare, .int v_status, x_tape, .int v_taped, .int v_faultKind, .int v_faultPlace, .int v_at, .int v_start, .int v_token, .int v_value, .ref h_now, x_draft, x_tried, x_past, .int v_acts, x_images, x_kept, x_trace, .int v_traced, .ref h_comes, .ref h_standing, .ref h_brought, .ref h_habit, .int v_livedMany])), (h_habit, .inl (cy 0, 3, .inl u2_habit)), (h_now, .inl (cy 0, 124, .inl v_now)), (h_comes, .inl (cy 1, 8, .inr (.inl u3_comes))), (h_standing, .inl (cy 1, 8, .inr (.inl u4_standing))), (h_brought, .inl (cy 1, 24, .inr (.inl u5_brought)))] := hD
              refine W.eq (g2 := F0 m 120 ls [.int (bz r1)]) rfl ?_
              refine lv_if_eq (tgt := 127) hx hb dX12_rests_120 (by decide) (fun c_ => ?_) (fun c_ => ?_)
              · have hF := hF.1 ((bz_0 _).mp c_)
                exact J_127 l1 l2 l3 l4 l5 l7 u2_habit u3_comes u4_standing u5_brought _ _ ls  (hP.sub [0, 2, 1, 3, 4, 5] rfl) (hD.sub [0, 2, 1, 3, 4, 5] (by decide) rfl) hS (lv_sub hl [0, 1, 2, 3, 4, 5, 7] rfl) hF
              · have hF := hF.2 ((bz_1 _).mp c_)
                refine lv_iconst (v := 1) hx hb dX12_rests_123 (by decide) ?_
                refine lv_goto (tgt := 128) hx hb dX12_rests_124 (by decide) ?_
                exact J_128 l1 l2 l3 l4 l5 l7 true u2_habit u3_comes u4_standing u5_brought _ _ ls  (hP.sub [0, 2, 1, 3, 4, 5] rfl) (hD.sub [0, 2, 1, 3, 4, 5] (by decide) rfl) hS (lv_sub hl [0, 1, 2, 3, 4, 5, 7] rfl) hF
      intro l1 l2 l3 l4 l5 w_habit w_comes w_standing w_brought H locs ls  hP hD hS hl hF
      unfold wlX12_rests_80 at hF
      refine lv_iload hx hb dX12_rests_80 (lv_at hl 5 rfl) ?_
      refine lv_iload_n hx hb dX12_rests_82 rfl (lv_at hl 2 rfl) ?_
      refine lv_icmp_ge (tgt := 173) hx hb dX12_rests_83 (by decide) (fun c_ => ?_) (fun c_ => ?_)
      · have hF := hF.1 c_
        refine lv_iload_n hx hb dX12_rests_173 rfl (lv_at hl 1 rfl) ?_
        refine lv_iconst (v := (-1)) hx hb dX12_rests_174 (by decide) ?_
        refine lv_icmp_eq (tgt := 185) hx hb dX12_rests_175 (by decide) (fun c_ => ?_) (fun c_ => ?_)
        · have hF := hF.1 c_
          exact J_185 l1 l3 w_habit w_comes w_standing w_brought _ _ ls  hP hD hS (lv_sub hl [1, 3] rfl) hF
        · have hF := hF.2 c_
          refine lv_iload hx hb dX12_rests_178 (lv_at hl 4 rfl) ?_
          refine lv_ldc hx hb hown (hts _ t4_123) dX12_rests_180 ?_
          refine lv_icmp_ne (tgt := 197) hx hb dX12_rests_182 (by decide) (fun c_ => ?_) (fun c_ => ?_)
          · have hF := hF.1 c_
            refine lv_aload_n hx hb dX12_rests_197 rfl (lv_at hl 0 rfl) ?_
            refine lv_iload hx hb dX12_rests_198 (lv_at hl 4 rfl) ?_
            refine cV_t (As := [.int l4]) (wr := [(h_comes, .inl (cy 1, 8, .inr (.inl w_comes))), (h_standing, .inl (cy 1, 8, .inr (.inl w_standing))), (h_brought, .inl (cy 1, 24, .inr (.inl w_brought)))]) C hA hP hD hS mfX12_takesHabits t5_172 ts_32 t5_170 (ccX12_takesHabits l D cy h_this h_now h_habit x_lane x_many x_items x_spare x_tape x_draft x_tried x_past x_images x_kept x_trace (.ref h_comes) (.ref h_standing) (.ref h_brought) v_status v_taped v_faultKind v_faultPlace v_at v_start v_token v_value v_acts v_traced v_livedMany v_now w_habit l4 _ hF) [0, 1, 2] [3, 4, 5] rfl rfl (by decide) (by decide) (by decide) PO.np 0 11 rfl rfl rfl rfl hl.1 rfl (Nat.le_of_ble_eq_true rfl) dX12_rests_200 ⟨Nat.le_of_ble_eq_true rfl, Nat.le_of_ble_eq_true rfl⟩ ⟨Nat.le_of_ble_eq_true rfl, Nat.le_of_ble_eq_true rfl⟩ ?_
            rintro ⟨⟩ w1 H locs ⟨u2_habit, rfl, hF⟩ hP hD hS
            have hP : va_P D CL [(h_comes, .inl (cy 1, 8, .inr (.inl w_comes))), (h_standing, .inl (cy 1, 8, .inr (.inl w_standing))), (h_brought, .inl (cy 1, 24, .inr (.inl w_brought))), (h_this, .inr (11, [x_lane, x_many, x_items, x_spare, .int v_status, x_tape, .int v_taped, .int v_faultKind, .int v_faultPlace, .int v_at, .int v_start, .int v_token, .int v_value, .ref h_now, x_draft, x_tried, x_past, .int v_acts, x_images, x_kept, x_trace, .int v_traced, .ref h_comes, .ref h_standing, .ref h_brought, .ref h_habit, .int v_livedMany])), (h_now, .inl (cy 0, 124, .inl v_now)), (h_habit, .inl (cy 0, 3, .inl u2_habit))] H := hP
            have hD : va_D A [(h_comes, .inl (cy 1, 8, .inr (.inl w_comes))), (h_standing, .inl (cy 1, 8, .inr (.inl w_standing))), (h_brought, .inl (cy 1, 24, .inr (.inl w_brought))), (h_this, .inr (11, [x_lane, x_many, x_items, x_spare, .int v_status, x_tape, .int v_taped, .int v_faultKind, .int v_faultPlace, .int v_at, .int v_start, .int v_token, .int v_value, .ref h_now, x_draft, x_tried, x_past, .int v_acts, x_images, x_kept, x_trace, .int v_traced, .ref h_comes, .ref h_standing, .ref h_brought, .ref h_habit, .int v_livedMany])), (h_now, .inl (cy 0, 124, .inl v_now)), (h_habit, .inl (cy 0, 3, .inl u2_habit))] := hD
            refine W.eq (g2 := F0 m 203 ls []) rfl ?_
            refine lv_aload_n hx hb dX12_rests_203 rfl (lv_at hl 0 rfl) ?_
            refine va_get (D := D) (ci := 11) (v := .ref h_habit) (C := RX12) (T := TX12) (N := 27) hx hb hts inTX12 hown hK.1 hP 3 rfl rfl 25 (by decide) (hts _ t4_149) (fun _ h9 => h9) rfl dX12_rests_204 ?_
            refine lv_iload_n hx hb dX12_rests_207 rfl (lv_at hl 1 rfl) ?_
            obtain ⟨hi3, hF⟩ := hF
            refine s_iald (j := (l1).toNatClampNeg) hx hb hK.1 hP 5 0 rfl rfl hi3 rfl dX12_rests_208 ?_
            have hP : va_P D CL [(h_this, .inr (11, [x_lane, x_many, x_items, x_spare, .int v_status, x_tape, .int v_taped, .int v_faultKind, .int v_faultPlace, .int v_at, .int v_start, .int v_token, .int v_value, .ref h_now, x_draft, x_tried, x_past, .int v_acts, x_images, x_kept, x_trace, .int v_traced, .ref h_comes, .ref h_standing, .ref h_brought, .ref h_habit, .int v_livedMany])), (h_now, .inl (cy 0, 124, .inl v_now)), (h_habit, .inl (cy 0, 3, .inl u2_habit)), (h_comes, .inl (cy 1, 8, .inr (.inl w_comes))), (h_standing, .inl (cy 1, 8, .inr (.inl w_standing))), (h_brought, .inl (cy 1, 24, .inr (.inl w_brought)))] H := (hP.sub [3, 4, 5, 0, 1, 2] rfl)
            have hD : va_D A [(h_this, .inr (11, [x_lane, x_many, x_items, x_spare, .int v_status, x_tape, .int v_taped, .int v_faultKind, .int v_faultPlace, .int v_at, .int v_start, .int v_token, .int v_value, .ref h_now, x_draft, x_tried, x_past, .int v_acts, x_images, x_kept, x_trace, .int v_traced, .ref h_comes, .ref h_standing, .ref h_brought, .ref h_habit, .int v_livedMany])), (h_now, .inl (cy 0, 124, .inl v_now)), (h_habit, .inl (cy 0, 3, .inl u2_habit)), (h_comes, .inl (cy 1, 8, .inr (.inl w_comes))), (h_standing, .inl (cy 1, 8, .inr (.inl w_standing))), (h_brought, .inl (cy 1, 24, .inr (.inl w_brought)))] := (hD.sub [3, 4, 5, 0, 1, 2] (by decide) rfl)
            exact rt_i C hQ rfl hP hD hS ⟨u2_habit, w_comes, w_standing, w_brought, rfl, hF⟩ dX12_rests_209
          · have hF := hF.2 c_
            exact J_185 l1 l3 w_habit w_comes w_standing w_brought _ _ ls  hP hD hS (lv_sub hl [1, 3] rfl) hF
      · have hF := hF.2 c_
        refine lv_aload_n hx hb dX12_rests_86 rfl (lv_at hl 0 rfl) ?_
        refine lv_iload hx hb dX12_rests_87 (lv_at hl 5 rfl) ?_
        refine cV_t (As := [.int l5]) (wr := [(h_comes, .inl (cy 1, 8, .inr (.inl w_comes))), (h_standing, .inl (cy 1, 8, .inr (.inl w_standing))), (h_brought, .inl (cy 1, 24, .inr (.inl w_brought)))]) C hA hP hD hS mfX12_takesHabits t5_172 ts_32 t5_170 (ccX12_takesHabits l D cy h_this h_now h_habit x_lane x_many x_items x_spare x_tape x_draft x_tried x_past x_images x_kept x_trace (.ref h_comes) (.ref h_standing) (.ref h_brought) v_status v_taped v_faultKind v_faultPlace v_at v_start v_token v_value v_acts v_traced v_livedMany v_now w_habit l5 _ hF) [0, 1, 2] [3, 4, 5] rfl rfl (by decide) (by decide) (by decide) PO.np 0 11 rfl rfl rfl rfl hl.1 rfl (Nat.le_of_ble_eq_true rfl) dX12_rests_89 ⟨Nat.le_of_ble_eq_true rfl, Nat.le_of_ble_eq_true rfl⟩ ⟨Nat.le_of_ble_eq_true rfl, Nat.le_of_ble_eq_true rfl⟩ ?_
        rintro ⟨⟩ w1 H locs ⟨u5_habit, rfl, hF⟩ hP hD hS
        have hP : va_P D CL [(h_comes, .inl (cy 1, 8, .inr (.inl w_comes))), (h_standing, .inl (cy 1, 8, .inr (.inl w_standing))), (h_brought, .inl (cy 1, 24, .inr (.inl w_brought))), (h_this, .inr (11, [x_lane, x_many, x_items, x_spare, .int v_status, x_tape, .int v_taped, .int v_faultKind, .int v_faultPlace, .int v_at, .int v_start, .int v_token, .int v_value, .ref h_now, x_draft, x_tried, x_past, .int v_acts, x_images, x_kept, x_trace, .int v_traced, .ref h_comes, .ref h_standing, .ref h_brought, .ref h_habit, .int v_livedMany])), (h_now, .inl (cy 0, 124, .inl v_now)), (h_habit, .inl (cy 0, 3, .inl u5_habit))] H := hP
        have hD : va_D A [(h_comes, .inl (cy 1, 8, .inr (.inl w_comes))), (h_standing, .inl (cy 1, 8, .inr (.inl w_standing))), (h_brought, .inl (cy 1, 24, .inr (.inl w_brought))), (h_this, .inr (11, [x_lane, x_many, x_items, x_spare, .int v_status, x_tape, .int v_taped, .int v_faultKind, .int v_faultPlace, .int v_at, .int v_start, .int v_token, .int v_value, .ref h_now, x_draft, x_tried, x_past, .int v_acts, x_images, x_kept, x_trace, .int v_traced, .ref h_comes, .ref h_standing, .ref h_brought, .ref h_habit, .int v_livedMany])), (h_now, .inl (cy 0, 124, .inl v_now)), (h_habit, .inl (cy 0, 3, .inl u5_habit))] := hD
        refine W.eq (g2 := F0 m 92 ls []) rfl ?_
        refine lv_iconst (v := 1) hx hb dX12_rests_92 (by decide) ?_
        refine lv_istore (lv' := [(6, .int 1), (0, .ref h_this), (1, .int l1), (2, .int l2), (3, .int l3), (4, .int l4), (5, .int l5)]) hx hb dX12_rests_93 hl (by decide) rfl (fun ls hl => ?_)
        refine lv_iconst (v := 0) hx hb dX12_rests_95 (by decide) ?_
        refine lv_istore (lv' := [(7, .int 0), (6, .int 1), (0, .ref h_this), (1, .int l1), (2, .int l2), (3, .int l3), (4, .int l4), (5, .int l5)]) hx hb dX12_rests_96 hl (by decide) rfl (fun ls hl => ?_)
        exact L_98 fu l1 l2 l3 l4 l5 true 0 u5_habit w_comes w_standing w_brought _ _ ls  (hP.sub [3, 4, 5, 0, 1, 2] rfl) (hD.sub [3, 4, 5, 0, 1, 2] (by decide) rfl) hS (lv_sub hl [2, 3, 4, 5, 6, 7, 1, 0] rfl) hF
  have J_70 : ∀ (l1 : Int32) (k0 : Int32) (w_habit : Nat → Int32) (w_comes : Nat → Int64) (w_standing : Nat → Int64) (w_brought : Nat → Int64) (H : Heap) (locs : List Loc) (ls : Array Slot), va_P D CL [(h_this, .inr (11, [x_lane, x_many, x_items, x_spare, .int v_status, x_tape, .int v_taped, .int v_faultKind, .int v_faultPlace, .int v_at, .int v_start, .int v_token, .int v_value, .ref h_now, x_draft, x_tried, x_past, .int v_acts, x_images, x_kept, x_trace, .int v_traced, .ref h_comes, .ref h_standing, .ref h_brought, .ref h_habit, .int v_livedMany])), (h_now, .inl (cy 0, 124, .inl v_now)), (h_habit, .inl (cy 0, 3, .inl w_habit)), (h_comes, .inl (cy 1, 8, .inr (.inl w_comes))), (h_standing, .inl (cy 1, 8, .inr (.inl w_standing))), (h_brought, .inl (cy 1, 24, .inr (.inl w_brought)))] H → va_D A [(h_this, .inr (11, [x_lane, x_many, x_items, x_spare, .int v_status, x_tape, .int v_taped, .int v_faultKind, .int v_faultPlace, .int v_at, .int v_start, .int v_token, .int v_value, .ref h_now, x_draft, x_tried, x_past, .int v_acts, x_images, x_kept, x_trace, .int v_traced, .ref h_comes, .ref h_standing, .ref h_brought, .ref h_habit, .int v_livedMany])), (h_now, .inl (cy 0, 124, .inl v_now)), (h_habit, .inl (cy 0, 3, .inl w_habit)), (h_comes, .inl (cy 1, 8, .inr (.inl w_comes))), (h_standing, .inl (cy 1, 8, .inr (.inl w_standing))), (h_brought, .inl (cy 1, 24, .inr (.inl w_brought)))] → va_S A s.heap H locs → lv_has ls 8 [(0, .ref h_this), (1, .int l1)] → wjX12_rests_70 v_now post l1 k0 w_habit w_comes w_standing w_brought → W p l e rmX12_rests s m args below meth c H locs 0 0 Q (F0 m 70 ls [.int k0]) := by
    intro l1 k0 w_habit w_comes w_standing w_brought H locs ls  hP hD hS hl hF
    unfold wjX12_rests_70 at hF
    refine lv_istore_n (lv' := [(2, .int k0), (0, .ref h_this), (1, .int l1)]) hx hb dX12_rests_70 rfl hl (by decide) rfl (fun ls hl => ?_)
    refine lv_iconst (v := 0) hx hb dX12_rests_71 (by decide) ?_
    refine lv_istore_n (lv' := [(3, .int 0), (2, .int k0), (0, .ref h_this), (1, .int l1)]) hx hb dX12_rests_72 rfl hl (by decide) rfl (fun ls hl => ?_)
    refine lv_ldc hx hb hown (hts _ t4_123) dX12_rests_73 ?_
    refine lv_istore (lv' := [(4, .int (-1000000)), (3, .int 0), (2, .int k0), (0, .ref h_this), (1, .int l1)]) hx hb dX12_rests_75 hl (by decide) rfl (fun ls hl => ?_)
    refine lv_iconst (v := 0) hx hb dX12_rests_77 (by decide) ?_
    refine lv_istore (lv' := [(5, .int 0), (4, .int (-1000000)), (3, .int 0), (2, .int k0), (0, .ref h_this), (1, .int l1)]) hx hb dX12_rests_78 hl (by decide) rfl (fun ls hl => ?_)
    exact L_80 fu l1 k0 0 (-1000000) 0 w_habit w_comes w_standing w_brought _ _ ls  hP hD hS (lv_sub hl [4, 5, 3, 2, 1, 0] rfl) hF
  have J_26 : ∀ (l1 : Int32) (w_habit : Nat → Int32) (w_comes : Nat → Int64) (w_standing : Nat → Int64) (w_brought : Nat → Int64) (H : Heap) (locs : List Loc) (ls : Array Slot), va_P D CL [(h_this, .inr (11, [x_lane, x_many, x_items, x_spare, .int v_status, x_tape, .int v_taped, .int v_faultKind, .int v_faultPlace, .int v_at, .int v_start, .int v_token, .int v_value, .ref h_now, x_draft, x_tried, x_past, .int v_acts, x_images, x_kept, x_trace, .int v_traced, .ref h_comes, .ref h_standing, .ref h_brought, .ref h_habit, .int v_livedMany])), (h_now, .inl (cy 0, 124, .inl v_now)), (h_habit, .inl (cy 0, 3, .inl w_habit)), (h_comes, .inl (cy 1, 8, .inr (.inl w_comes))), (h_standing, .inl (cy 1, 8, .inr (.inl w_standing))), (h_brought, .inl (cy 1, 24, .inr (.inl w_brought)))] H → va_D A [(h_this, .inr (11, [x_lane, x_many, x_items, x_spare, .int v_status, x_tape, .int v_taped, .int v_faultKind, .int v_faultPlace, .int v_at, .int v_start, .int v_token, .int v_value, .ref h_now, x_draft, x_tried, x_past, .int v_acts, x_images, x_kept, x_trace, .int v_traced, .ref h_comes, .ref h_standing, .ref h_brought, .ref h_habit, .int v_livedMany])), (h_now, .inl (cy 0, 124, .inl v_now)), (h_habit, .inl (cy 0, 3, .inl w_habit)), (h_comes, .inl (cy 1, 8, .inr (.inl w_comes))), (h_standing, .inl (cy 1, 8, .inr (.inl w_standing))), (h_brought, .inl (cy 1, 24, .inr (.inl w_brought)))] → va_S A s.heap H locs → lv_has ls 8 [(0, .ref h_this), (1, .int l1)] → wjX12_rests_26 v_now post l1 w_habit w_comes w_standing w_brought → W p l e rmX12_rests s m args below meth c H locs 0 0 Q (F0 m 26 ls []) := by
    intro l1 w_habit w_comes w_standing w_brought H locs ls  hP hD hS hl hF
    unfold wjX12_rests_26 at hF
    refine lv_aload_n hx hb dX12_rests_26 rfl (lv_at hl 0 rfl) ?_
    refine va_get (D := D) (ci := 11) (v := .ref h_now) (C := RX12) (T := TX12) (N := 27) hx hb hts inTX12 hown hK.1 hP 0 rfl rfl 13 (by decide) (hts _ t4_137) (fun _ h9 => h9) rfl dX12_rests_27 ?_
    refine lv_iconst (v := 1) hx hb dX12_rests_30 (by decide) ?_
    refine s_iald (j := 1) hx hb hK.1 hP 1 0 rfl rfl (vi (by decide)) (by decide) dX12_rests_31 ?_
    refine lv_if_ne (tgt := 39) hx hb dX12_rests_32 (by decide) (fun c_ => ?_) (fun c_ => ?_)
    · have hF := hF.1 c_
      refine lv_aload_n hx hb dX12_rests_39 rfl (lv_at hl 0 rfl) ?_
      refine va_get (D := D) (ci := 11) (v := .ref h_now) (C := RX12) (T := TX12) (N := 27) hx hb hts inTX12 hown hK.1 hP 0 rfl rfl 13 (by decide) (hts _ t4_137) (fun _ h9 => h9) rfl dX12_rests_40 ?_
      refine lv_iconst (v := 1) hx hb dX12_rests_43 (by decide) ?_
      refine s_iald (j := 1) hx hb hK.1 hP 1 0 rfl rfl (vi (by decide)) (by decide) dX12_rests_44 ?_
      refine lv_iconst (v := 1) hx hb dX12_rests_45 (by decide) ?_
      refine lv_icmp_ne (tgt := 53) hx hb dX12_rests_46 (by decide) (fun c_ => ?_) (fun c_ => ?_)
      · have hF := hF.1 c_
        refine lv_aload_n hx hb dX12_rests_53 rfl (lv_at hl 0 rfl) ?_
        refine va_get (D := D) (ci := 11) (v := .ref h_now) (C := RX12) (T := TX12) (N := 27) hx hb hts inTX12 hown hK.1 hP 0 rfl rfl 13 (by decide) (hts _ t4_137) (fun _ h9 => h9) rfl dX12_rests_54 ?_
        refine lv_iconst (v := 1) hx hb dX12_rests_57 (by decide) ?_
        refine s_iald (j := 1) hx hb hK.1 hP 1 0 rfl rfl (vi (by decide)) (by decide) dX12_rests_58 ?_
        refine lv_iconst (v := 2) hx hb dX12_rests_59 (by decide) ?_
        refine lv_icmp_ne (tgt := 68) hx hb dX12_rests_60 (by decide) (fun c_ => ?_) (fun c_ => ?_)
        · have hF := hF.1 c_
          refine lv_bipush (v := 27) hx hb dX12_rests_68 (by decide) ?_
          exact J_70 l1 27 w_habit w_comes w_standing w_brought _ _ ls  hP hD hS (lv_sub hl [0, 1] rfl) hF
        · have hF := hF.2 c_
          refine lv_bipush (v := 9) hx hb dX12_rests_63 (by decide) ?_
          refine lv_goto (tgt := 70) hx hb dX12_rests_65 (by decide) ?_
          exact J_70 l1 9 w_habit w_comes w_standing w_brought _ _ ls  hP hD hS (lv_sub hl [0, 1] rfl) hF
      · have hF := hF.2 c_
        refine lv_iconst (v := 3) hx hb dX12_rests_49 (by decide) ?_
        refine lv_goto (tgt := 70) hx hb dX12_rests_50 (by decide) ?_
        exact J_70 l1 3 w_habit w_comes w_standing w_brought _ _ ls  hP hD hS (lv_sub hl [0, 1] rfl) hF
    · have hF := hF.2 c_
      refine lv_iconst (v := 1) hx hb dX12_rests_35 (by decide) ?_
      refine lv_goto (tgt := 70) hx hb dX12_rests_36 (by decide) ?_
      exact J_70 l1 1 w_habit w_comes w_standing w_brought _ _ ls  hP hD hS (lv_sub hl [0, 1] rfl) hF
  unfold wpX12_rests at hF
  refine lv_aload_n hx hb dX12_rests_0 rfl (lv_at hl 0 rfl) ?_
  refine cV_r (As := []) C mfX12_isVillage t5_62 ts_24 t5_60 (ccX12_isVillage l D cy h_this h_now x_lane x_many x_items x_spare x_tape x_draft x_tried x_past x_images x_kept x_trace (.ref h_comes) (.ref h_standing) (.ref h_brought) (.ref h_habit) v_status v_taped v_faultKind v_faultPlace v_at v_start v_token v_value v_acts v_traced v_livedMany v_now _ hF) rfl rfl (hP.sub [0, 1] rfl) PR.np hP 0 11 rfl rfl rfl rfl hl.1 rfl (Nat.le_of_ble_eq_true rfl) dX12_rests_1 ⟨Nat.le_of_ble_eq_true rfl, Nat.le_of_ble_eq_true rfl⟩ ⟨Nat.le_of_ble_eq_true rfl, Nat.le_of_ble_eq_true rfl⟩ ?_
  intro r1 hF
  refine W.eq (g2 := F0 m 4 ls [.int (bz r1)]) rfl ?_
  refine lv_if_ne (tgt := 10) hx hb dX12_rests_4 (by decide) (fun c_ => ?_) (fun c_ => ?_)
  · have hF := hF.1 ((bz_1 _).mp c_)
    refine lv_iload_n hx hb dX12_rests_10 rfl (lv_at hl 1 rfl) ?_
    refine lv_iconst (v := (-1)) hx hb dX12_rests_11 (by decide) ?_
    refine lv_icmp_eq (tgt := 26) hx hb dX12_rests_12 (by decide) (fun c_ => ?_) (fun c_ => ?_)
    · have hF := hF.1 c_
      exact J_26 p0 v_habit v_comes v_standing v_brought _ _ ls  hP hD hS (lv_sub hl [0, 1] rfl) hF
    · have hF := hF.2 c_
      refine lv_aload_n hx hb dX12_rests_15 rfl (lv_at hl 0 rfl) ?_
      refine lv_iload_n hx hb dX12_rests_16 rfl (lv_at hl 1 rfl) ?_
      refine cV_r (As := [.int p0]) C mfX12_isPerson t5_90 ts_26 t5_88 (ccX12_isPerson l D cy h_this h_now x_lane x_many x_items x_spare x_tape x_draft x_tried x_past x_images x_kept x_trace (.ref h_comes) (.ref h_standing) (.ref h_brought) (.ref h_habit) v_status v_taped v_faultKind v_faultPlace v_at v_start v_token v_value v_acts v_traced v_livedMany v_now p0 _ hF) rfl rfl (hP.sub [0, 1] rfl) PR.np hP 0 11 rfl rfl rfl rfl hl.1 rfl (Nat.le_of_ble_eq_true rfl) dX12_rests_17 ⟨Nat.le_of_ble_eq_true rfl, Nat.le_of_ble_eq_true rfl⟩ ⟨Nat.le_of_ble_eq_true rfl, Nat.le_of_ble_eq_true rfl⟩ ?_
      intro r2 hF
      refine W.eq (g2 := F0 m 20 ls [.int (bz r2)]) rfl ?_
      refine lv_if_ne (tgt := 26) hx hb dX12_rests_20 (by decide) (fun c_ => ?_) (fun c_ => ?_)
      · have hF := hF.1 ((bz_1 _).mp c_)
        exact J_26 p0 v_habit v_comes v_standing v_brought _ _ ls  hP hD hS (lv_sub hl [0, 1] rfl) hF
      · have hF := hF.2 ((bz_0 _).mp c_)
        refine lv_ldc hx hb hown (hts _ t4_217) dX12_rests_23 ?_
        exact rt_i C hQ rfl hP hD hS ⟨v_habit, v_comes, v_standing, v_brought, rfl, hF⟩ dX12_rests_25
  · have hF := hF.2 ((bz_0 _).mp c_)
    refine lv_ldc hx hb hown (hts _ t5_55) dX12_rests_7 ?_
    exact rt_i C hQ rfl hP hD hS ⟨v_habit, v_comes, v_standing, v_brought, rfl, hF⟩ dX12_rests_9
