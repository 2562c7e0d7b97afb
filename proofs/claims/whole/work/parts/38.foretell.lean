def wjX1_waysOfAll_81 (v_a0_size : Int32) (v_a0_people : Nat → Option Nat) (pe : Pe) (post : Int64 → Prop) (K_6 : Int32 → Int32 → Int64 → Int32 → Prop) (l2 : Int32) (l3 : Int32) (l4 : Int64) (l6 : Int32) : Prop := K_6 l2 l3 l4 (l6 + 1)
def wjX1_waysOfAll_78 (v_a0_size : Int32) (v_a0_people : Nat → Option Nat) (pe : Pe) (post : Int64 → Prop) (K_6 : Int32 → Int32 → Int64 → Int32 → Prop) (l2 : Int32) (l3 : Int32) (l6 : Int32) (k0 : Int64) (k1 : Int64) : Prop := wjX1_waysOfAll_81 v_a0_size v_a0_people pe post K_6 l2 l3 (k1 * k0) l6
def wjX1_waysOfAll_35n (v_a0_size : Int32) (v_a0_people : Nat → Option Nat) (pe : Pe) (post : Int64 → Prop) (K_6 : Int32 → Int32 → Int64 → Int32 → Prop) (l2 : Int32) (l3 : Int32) (l4 : Int64) (l6 : Int32) (k0 : Bool) : Prop := (k0 = false → (wjX1_waysOfAll_78 v_a0_size v_a0_people pe post K_6 l2 l3 l6 10 l4)) ∧ (k0 = true → (wjX1_waysOfAll_78 v_a0_size v_a0_people pe post K_6 l2 l3 l6 0 l4))
def wjX1_waysOfAll_35 (v_a0_size : Int32) (v_a0_people : Nat → Option Nat) (pe : Pe) (post : Int64 → Prop) (K_6 : Int32 → Int32 → Int64 → Int32 → Prop) (l2 : Int32) (l3 : Int32) (l4 : Int64) (l6 : Int32) (l7 : Nat) (k0 : Bool) : Prop := wv_waysToGo ((l2 >>> (l6 &&& 31)) &&& 1) k0 (pe.2 l7) (fun r1 => wjX1_waysOfAll_81 v_a0_size v_a0_people pe post K_6 l2 l3 (l4 * ((r1).toInt64)) l6)
def wlX1_waysOfAll_6 (v_a0_size : Int32) (v_a0_people : Nat → Option Nat) (pe : Pe) (post : Int64 → Prop) : Nat → Int32 → Int32 → Int64 → Int32 → Prop
  | 0, _, _, _, _ => False
  | n + 1, l2, l3, l4, l6 => (3 ≤ l6 → (post l4)) ∧ (¬ 3 ≤ l6 → (wpX9_personAt l6 v_a0_size v_a0_people pe (fun r1 => (r1 = none → ((¬ ((l3 >>> (l6 &&& 31)) &&& 1) = 1 → (wjX1_waysOfAll_35n v_a0_size v_a0_people pe post (wlX1_waysOfAll_6 v_a0_size v_a0_people pe post n) l2 l3 l4 l6 false)) ∧ (((l3 >>> (l6 &&& 31)) &&& 1) = 1 → (wjX1_waysOfAll_35n v_a0_size v_a0_people pe post (wlX1_waysOfAll_6 v_a0_size v_a0_people pe post n) l2 l3 l4 l6 true)))) ∧ (∀ a2 : Nat, r1 = some a2 → a2 ∈ pe.1 ∧ ((¬ ((l3 >>> (l6 &&& 31)) &&& 1) = 1 → (wjX1_waysOfAll_35 v_a0_size v_a0_people pe post (wlX1_waysOfAll_6 v_a0_size v_a0_people pe post n) l2 l3 l4 l6 a2 false)) ∧ (((l3 >>> (l6 &&& 31)) &&& 1) = 1 → (wjX1_waysOfAll_35 v_a0_size v_a0_people pe post (wlX1_waysOfAll_6 v_a0_size v_a0_people pe post n) l2 l3 l4 l6 a2 true)))))))
def wpX1_waysOfAll (p1 : Int32) (p2 : Int32) (v_a0_size : Int32) (v_a0_people : Nat → Option Nat) (pe : Pe) (post : Int64 → Prop) : Prop := wlX1_waysOfAll_6 v_a0_size v_a0_people pe post fu p1 p2 1 0
abbrev miX1_waysOfAll : MI := (yX1_waysOfAll, cX1_waysOfAll, 9, (some .long))
theorem mfX1_waysOfAll : MF miX1_waysOfAll 3 := ⟨t3_94, t1_6, by decide +kernel⟩
abbrev rmX1_waysOfAll : Room := { frames := 3, cells := 0, slots := 0, locals := 65 }
set_option maxHeartbeats 4000000 in
set_option maxRecDepth 100000 in
theorem ccX1_waysOfAll (l : Launch) (D : va_G) (cy : Nat → ClassId) (pe : Pe) (h_this : Nat) (h_a0 : Nat) (h_a0_people : Nat) (x_habits : Value) (x_byLives : Value) (x_brought : Value) (x_reached : Value) (x_means : Value) (x_a0_memories : Value) (x_a0_purses : Value) (x_a0_lives : Value) (v_firstRest : Int32) (v_a0_there : Bool) (v_a0_size : Int32) (v_a0_date : Int32) (v_a0_evening : Bool) (v_a0_well : Int32) (v_a0_rights : Int32) (v_a0_people : Nat → Option Nat) (p1 : Int32) (p2 : Int32) (post : Int64 → Prop) (hF : wpX1_waysOfAll p1 p2 v_a0_size v_a0_people pe post) : Cr l D cy miX1_waysOfAll rmX1_waysOfAll emL pe [.ref h_this, .ref h_a0, .int p1, .int p2] [(h_this, .inr (1, [x_habits, x_byLives, x_brought, .int v_firstRest, x_reached, x_means])), (h_a0, .inr (8, [.ref h_a0_people, x_a0_memories, x_a0_purses, x_a0_lives, .int (bz v_a0_there), .int v_a0_size, .int v_a0_date, .int (bz v_a0_evening), .int v_a0_well, .int v_a0_rights])), (h_a0_people, .inl (cy 3, 3, .inr (.inr (.inr (.inr v_a0_people)))))] post := by
  refine Cr.of (by decide) (Nat.le_of_ble_eq_true rfl) ?_
  intro p e s m args below meth c ls Q C hQ hO hP hl
  obtain ⟨hx, hb, hr, hml, hown, hts, hK, hlk, hnm⟩ := id C
  have hb : c.code = cX1_waysOfAll := hb
  have hml : c.maxLocals = 9 := hml
  have hown : s.vm.findClass RX1 = some m.cls := hown
  have hl : lv_has ls 9 [(0, .ref h_this), (1, .ref h_a0), (2, .int p1), (3, .int p2)] := hl
  have L_6 : ∀ (n_6 : Nat) (l2 : Int32) (l3 : Int32) (l4 : Int64) (l6 : Int32) (ls : Array Slot), lv_has ls 9 [(1, .ref h_a0), (2, .int l2), (3, .int l3), (4, .long l4), (6, .int l6)] → wlX1_waysOfAll_6 v_a0_size v_a0_people pe post n_6 l2 l3 l4 l6 → W p l e rmX1_waysOfAll s m args below meth c s.heap [] 0 0 Q (F0 m 6 ls []) := by
    intro n_6
    induction n_6 with
    | zero =>
      intro l2 l3 l4 l6 ls  hl hF
      simp only [wlX1_waysOfAll_6] at hF
    | succ n_6 ih_6 =>
      have J_81 : ∀ (l2 : Int32) (l3 : Int32) (l4 : Int64) (l6 : Int32) (ls : Array Slot), lv_has ls 9 [(1, .ref h_a0), (2, .int l2), (3, .int l3), (4, .long l4), (6, .int l6)] → wjX1_waysOfAll_81 v_a0_size v_a0_people pe post (wlX1_waysOfAll_6 v_a0_size v_a0_people pe post n_6) l2 l3 l4 l6 → W p l e rmX1_waysOfAll s m args below meth c s.heap [] 0 0 Q (F0 m 81 ls []) := by
        intro l2 l3 l4 l6 ls  hl hF
        unfold wjX1_waysOfAll_81 at hF
        refine lv_iinc (v := (l6 + 1)) (lv' := [(6, .int (l6 + 1)), (1, .ref h_a0), (2, .int l2), (3, .int l3), (4, .long l4)]) hx hb dX1_waysOfAll_81 hl (k := 4) rfl rfl (by decide) rfl (fun ls hl => ?_)
        refine lv_goto (tgt := 6) hx hb dX1_waysOfAll_84 (by decide) ?_
        exact ih_6 l2 l3 l4 (l6 + 1) ls  (lv_sub hl [1, 2, 3, 4, 0] rfl) hF
      have J_78 : ∀ (l2 : Int32) (l3 : Int32) (l6 : Int32) (k0 : Int64) (k1 : Int64) (ls : Array Slot), lv_has ls 9 [(1, .ref h_a0), (2, .int l2), (3, .int l3), (6, .int l6)] → wjX1_waysOfAll_78 v_a0_size v_a0_people pe post (wlX1_waysOfAll_6 v_a0_size v_a0_people pe post n_6) l2 l3 l6 k0 k1 → W p l e rmX1_waysOfAll s m args below meth c s.heap [] 0 0 Q (F0 m 78 ls [.long k0, .long k1]) := by
        intro l2 l3 l6 k0 k1 ls  hl hF
        unfold wjX1_waysOfAll_78 at hF
        refine lv_lmul hx hb dX1_waysOfAll_78 ?_
        refine lv_lstore (lv' := [(4, .long (k1 * k0)), (1, .ref h_a0), (2, .int l2), (3, .int l3), (6, .int l6)]) hx hb dX1_waysOfAll_79 hl (by decide) rfl (fun ls hl => ?_)
        exact J_81 l2 l3 (k1 * k0) l6 ls  (lv_sub hl [1, 2, 3, 0, 4] rfl) hF
      have J_35n : ∀ (l2 : Int32) (l3 : Int32) (l4 : Int64) (l6 : Int32) (k0 : Bool) (ls : Array Slot), lv_has ls 9 [(1, .ref h_a0), (2, .int l2), (3, .int l3), (4, .long l4), (6, .int l6), (7, .null)] → wjX1_waysOfAll_35n v_a0_size v_a0_people pe post (wlX1_waysOfAll_6 v_a0_size v_a0_people pe post n_6) l2 l3 l4 l6 k0 → W p l e rmX1_waysOfAll s m args below meth c s.heap [] 0 0 Q (F0 m 35 ls [.int (bz k0)]) := by
        intro l2 l3 l4 l6 k0 ls  hl hF
        unfold wjX1_waysOfAll_35n at hF
        refine lv_istore (lv' := [(8, .int (bz k0)), (1, .ref h_a0), (2, .int l2), (3, .int l3), (4, .long l4), (6, .int l6), (7, .null)]) hx hb dX1_waysOfAll_35 hl (by decide) rfl (fun ls hl => ?_)
        refine lv_aloadN hx hb dX1_waysOfAll_37 (lv_at hl 6 rfl) ?_
        refine lv_ifnullN (tgt := 64) hx hb dX1_waysOfAll_39 (by decide) ?_
        refine lv_lload hx hb dX1_waysOfAll_64 (lv_at hl 4 rfl) ?_
        refine lv_iload hx hb dX1_waysOfAll_66 (lv_at hl 0 rfl) ?_
        refine lv_if_eq (tgt := 75) hx hb dX1_waysOfAll_68 (by decide) (fun c_ => ?_) (fun c_ => ?_)
        · have hF := hF.1 ((bz_0 _).mp c_)
          refine lv_ldc2 hx hb hown (hts _ t3_106) dX1_waysOfAll_75 ?_
          exact J_78 l2 l3 l6 10 l4 ls  (lv_sub hl [1, 2, 3, 5] rfl) hF
        · have hF := hF.2 ((bz_1 _).mp c_)
          refine lv_lconst (v := 0) hx hb dX1_waysOfAll_71 (by decide) ?_
          refine lv_goto (tgt := 78) hx hb dX1_waysOfAll_72 (by decide) ?_
          exact J_78 l2 l3 l6 0 l4 ls  (lv_sub hl [1, 2, 3, 5] rfl) hF
      have J_35 : ∀ (l2 : Int32) (l3 : Int32) (l4 : Int64) (l6 : Int32) (l7 : Nat) (k0 : Bool) (ls : Array Slot), l7 ∈ pe.1 → lv_has ls 9 [(1, .ref h_a0), (2, .int l2), (3, .int l3), (4, .long l4), (6, .int l6), (7, .ref l7)] → wjX1_waysOfAll_35 v_a0_size v_a0_people pe post (wlX1_waysOfAll_6 v_a0_size v_a0_people pe post n_6) l2 l3 l4 l6 l7 k0 → W p l e rmX1_waysOfAll s m args below meth c s.heap [] 0 0 Q (F0 m 35 ls [.int (bz k0)]) := by
        intro l2 l3 l4 l6 l7 k0 ls ha_l7 hl hF
        unfold wjX1_waysOfAll_35 at hF
        refine lv_istore (lv' := [(8, .int (bz k0)), (1, .ref h_a0), (2, .int l2), (3, .int l3), (4, .long l4), (6, .int l6), (7, .ref l7)]) hx hb dX1_waysOfAll_35 hl (by decide) rfl (fun ls hl => ?_)
        refine lv_aload hx hb dX1_waysOfAll_37 (lv_at hl 6 rfl) ?_
        refine lv_ifnull hx hb dX1_waysOfAll_39 ?_
        refine lv_lload hx hb dX1_waysOfAll_42 (lv_at hl 4 rfl) ?_
        refine lv_aload hx hb dX1_waysOfAll_44 (lv_at hl 6 rfl) ?_
        refine lv_iload_n hx hb dX1_waysOfAll_46 rfl (lv_at hl 2 rfl) ?_
        refine lv_iload hx hb dX1_waysOfAll_47 (lv_at hl 5 rfl) ?_
        refine lv_ishr hx hb dX1_waysOfAll_49 ?_
        refine lv_iconst (v := 1) hx hb dX1_waysOfAll_50 (by decide) ?_
        refine lv_iand hx hb dX1_waysOfAll_51 ?_
        refine lv_iload hx hb dX1_waysOfAll_52 (lv_at hl 0 rfl) ?_
        refine pv_waysToGo C hO ha_l7 t3_96 hl.1 (Nat.le_of_ble_eq_true rfl) dX1_waysOfAll_54 ⟨Nat.le_of_ble_eq_true rfl, Nat.le_of_ble_eq_true rfl⟩ ⟨Nat.le_of_ble_eq_true rfl, Nat.le_of_ble_eq_true rfl⟩ hF rfl ?_
        intro r1 hF
        refine W.eq (g2 := F0 m 57 ls [.int r1, .long l4]) rfl ?_
        refine lv_i2l hx hb dX1_waysOfAll_57 rfl ?_
        refine lv_lmul hx hb dX1_waysOfAll_58 ?_
        refine lv_lstore (lv' := [(4, .long (l4 * ((r1).toInt64))), (8, .int (bz k0)), (1, .ref h_a0), (2, .int l2), (3, .int l3), (6, .int l6), (7, .ref l7)]) hx hb dX1_waysOfAll_59 hl (by decide) rfl (fun ls hl => ?_)
        refine lv_goto (tgt := 81) hx hb dX1_waysOfAll_61 (by decide) ?_
        exact J_81 l2 l3 (l4 * ((r1).toInt64)) l6 ls  (lv_sub hl [2, 3, 4, 0, 5] rfl) hF
      intro l2 l3 l4 l6 ls  hl hF
      unfold wlX1_waysOfAll_6 at hF
      refine lv_iload hx hb dX1_waysOfAll_6 (lv_at hl 4 rfl) ?_
      refine lv_iconst (v := 3) hx hb dX1_waysOfAll_8 (by decide) ?_
      refine lv_icmp_ge (tgt := 87) hx hb dX1_waysOfAll_9 (by decide) (fun c_ => ?_) (fun c_ => ?_)
      · have hF := hF.1 c_
        refine lv_lload hx hb dX1_waysOfAll_87 (lv_at hl 3 rfl) ?_
        exact rr_l C hQ rfl hF dX1_waysOfAll_89
      · have hF := hF.2 c_
        refine lv_aload_n hx hb dX1_waysOfAll_12 rfl (lv_at hl 0 rfl) ?_
        refine lv_iload hx hb dX1_waysOfAll_13 (lv_at hl 4 rfl) ?_
        refine cV_r (As := [.int l6]) C mfX9_personAt t2_227 t2_228 t3_95 (ccX9_personAt l D cy pe h_a0 h_a0_people x_a0_memories x_a0_purses x_a0_lives v_a0_there v_a0_size v_a0_date v_a0_evening v_a0_well v_a0_rights v_a0_people l6 _ hF) rfl rfl (hP.sub [1, 2] rfl) hO hP 1 8 rfl rfl rfl rfl hl.1 rfl (Nat.le_of_ble_eq_true rfl) dX1_waysOfAll_15 ⟨Nat.le_of_ble_eq_true rfl, Nat.le_of_ble_eq_true rfl⟩ ⟨Nat.le_of_ble_eq_true rfl, Nat.le_of_ble_eq_true rfl⟩ ?_
        intro r1 hF
        rcases r1 with _ | a2
        · have hF := hF.1 rfl
          refine lv_astoreN (lv' := [(7, .null), (1, .ref h_a0), (2, .int l2), (3, .int l3), (4, .long l4), (6, .int l6)]) hx hb dX1_waysOfAll_18 hl (by decide) rfl (fun ls hl => ?_)
          refine lv_iload_n hx hb dX1_waysOfAll_20 rfl (lv_at hl 3 rfl) ?_
          refine lv_iload hx hb dX1_waysOfAll_21 (lv_at hl 5 rfl) ?_
          refine lv_ishr hx hb dX1_waysOfAll_23 ?_
          refine lv_iconst (v := 1) hx hb dX1_waysOfAll_24 (by decide) ?_
          refine lv_iand hx hb dX1_waysOfAll_25 ?_
          refine lv_iconst (v := 1) hx hb dX1_waysOfAll_26 (by decide) ?_
          refine lv_icmp_ne (tgt := 34) hx hb dX1_waysOfAll_27 (by decide) (fun c_ => ?_) (fun c_ => ?_)
          · have hF := hF.1 c_
            refine lv_iconst (v := 0) hx hb dX1_waysOfAll_34 (by decide) ?_
            exact J_35n l2 l3 l4 l6 false ls  (lv_sub hl [1, 2, 3, 4, 5, 0] rfl) hF
          · have hF := hF.2 c_
            refine lv_iconst (v := 1) hx hb dX1_waysOfAll_30 (by decide) ?_
            refine lv_goto (tgt := 35) hx hb dX1_waysOfAll_31 (by decide) ?_
            exact J_35n l2 l3 l4 l6 true ls  (lv_sub hl [1, 2, 3, 4, 5, 0] rfl) hF
        · obtain ⟨ha_a2, hF⟩ := hF.2 a2 rfl
          refine lv_astore (lv' := [(7, .ref a2), (1, .ref h_a0), (2, .int l2), (3, .int l3), (4, .long l4), (6, .int l6)]) hx hb dX1_waysOfAll_18 hl (by decide) rfl (fun ls hl => ?_)
          refine lv_iload_n hx hb dX1_waysOfAll_20 rfl (lv_at hl 3 rfl) ?_
          refine lv_iload hx hb dX1_waysOfAll_21 (lv_at hl 5 rfl) ?_
          refine lv_ishr hx hb dX1_waysOfAll_23 ?_
          refine lv_iconst (v := 1) hx hb dX1_waysOfAll_24 (by decide) ?_
          refine lv_iand hx hb dX1_waysOfAll_25 ?_
          refine lv_iconst (v := 1) hx hb dX1_waysOfAll_26 (by decide) ?_
          refine lv_icmp_ne (tgt := 34) hx hb dX1_waysOfAll_27 (by decide) (fun c_ => ?_) (fun c_ => ?_)
          · have hF := hF.1 c_
            refine lv_iconst (v := 0) hx hb dX1_waysOfAll_34 (by decide) ?_
            exact J_35 l2 l3 l4 l6 a2 false ls ha_a2 (lv_sub hl [1, 2, 3, 4, 5, 0] rfl) hF
          · have hF := hF.2 c_
            refine lv_iconst (v := 1) hx hb dX1_waysOfAll_30 (by decide) ?_
            refine lv_goto (tgt := 35) hx hb dX1_waysOfAll_31 (by decide) ?_
            exact J_35 l2 l3 l4 l6 a2 true ls ha_a2 (lv_sub hl [1, 2, 3, 4, 5, 0] rfl) hF
  unfold wpX1_waysOfAll at hF
  refine lv_lconst (v := 1) hx hb dX1_waysOfAll_0 (by decide) ?_
  refine lv_lstore (lv' := [(4, .long 1), (0, .ref h_this), (1, .ref h_a0), (2, .int p1), (3, .int p2)]) hx hb dX1_waysOfAll_1 hl (by decide) rfl (fun ls hl => ?_)
  refine lv_iconst (v := 0) hx hb dX1_waysOfAll_3 (by decide) ?_
  refine lv_istore (lv' := [(6, .int 0), (4, .long 1), (0, .ref h_this), (1, .ref h_a0), (2, .int p1), (3, .int p2)]) hx hb dX1_waysOfAll_4 hl (by decide) rfl (fun ls hl => ?_)
  exact L_6 fu p1 p2 1 0 ls  (lv_sub hl [3, 4, 5, 1, 0] rfl) hF

def wjX1_endDay_116 (v_a0_size : Int32) (v_a0_rights : Int32) (v_habits : Nat → Int32) (v_a0_people : Nat → Option Nat) (pe : Pe) (post : Unit → (Nat → Int64) → (Nat → Int64) → (Nat → Int64) → Prop) (K_60 : Int32 → Int64 → Int32 → (Nat → Int64) → (Nat → Int64) → (Nat → Int64) → Prop) (l3 : Int32) (l4 : Int64) (l7 : Int32) (w_byLives : Nat → Int64) (w_reached : Nat → Int64) (w_brought : Nat → Int64) : Prop := K_60 l3 l4 (l7 + 1) w_byLives w_reached w_brought
def wjX1_endDay_109 (v_a0_size : Int32) (v_a0_rights : Int32) (v_habits : Nat → Int32) (v_a0_people : Nat → Option Nat) (pe : Pe) (post : Unit → (Nat → Int64) → (Nat → Int64) → (Nat → Int64) → Prop) (K_60 : Int32 → Int64 → Int32 → (Nat → Int64) → (Nat → Int64) → (Nat → Int64) → Prop) (l3 : Int32) (l4 : Int64) (l7 : Int32) (k0 : Bool) (k1 : Nat) (k2 : Int64) (k3 : Int64) (k4 : Int32) (w_byLives : Nat → Int64) (w_reached : Nat → Int64) (w_brought : Nat → Int64) : Prop := wv_bringsBy k0 (pe.2 k1) (fun r1 => vp_in k4 3 ∧ (wjX1_endDay_116 v_a0_size v_a0_rights v_habits v_a0_people pe post K_60 l3 l4 l7 w_byLives w_reached (vp_updL w_brought ((k4).toNatClampNeg) (k3 + (k2 * ((r1).toInt64))))))
def wlX1_endDay_60 (v_a0_size : Int32) (v_a0_rights : Int32) (v_habits : Nat → Int32) (v_a0_people : Nat → Option Nat) (pe : Pe) (post : Unit → (Nat → Int64) → (Nat → Int64) → (Nat → Int64) → Prop) : Nat → Int32 → Int64 → Int32 → (Nat → Int64) → (Nat → Int64) → (Nat → Int64) → Prop
  | 0, _, _, _, _, _, _ => False
  | n + 1, l3, l4, l7, w_byLives, w_reached, w_brought => (v_a0_size ≤ l7 → (post () w_byLives w_reached w_brought)) ∧ (¬ v_a0_size ≤ l7 → (wpX9_personAt l7 v_a0_size v_a0_people pe (fun r1 => (r1 = none → (wjX1_endDay_116 v_a0_size v_a0_rights v_habits v_a0_people pe post (wlX1_endDay_60 v_a0_size v_a0_rights v_habits v_a0_people pe post n) l3 l4 l7 w_byLives w_reached w_brought)) ∧ (∀ a2 : Nat, r1 = some a2 → a2 ∈ pe.1 ∧ (vp_in l7 3 ∧ ((¬ ((l3 >>> (l7 &&& 31)) &&& 1) = 1 → (wjX1_endDay_109 v_a0_size v_a0_rights v_habits v_a0_people pe post (wlX1_endDay_60 v_a0_size v_a0_rights v_habits v_a0_people pe post n) l3 l4 l7 false a2 l4 (w_brought ((l7).toNatClampNeg)) l7 w_byLives w_reached w_brought)) ∧ (((l3 >>> (l7 &&& 31)) &&& 1) = 1 → (wjX1_endDay_109 v_a0_size v_a0_rights v_habits v_a0_people pe post (wlX1_endDay_60 v_a0_size v_a0_rights v_habits v_a0_people pe post n) l3 l4 l7 true a2 l4 (w_brought ((l7).toNatClampNeg)) l7 w_byLives w_reached w_brought))))))))
def wpX1_endDay (p1 : Int32) (p2 : Int32) (p3 : Int64) (v_a0_size : Int32) (v_a0_rights : Int32) (v_habits : Nat → Int32) (v_a0_people : Nat → Option Nat) (v_byLives : Nat → Int64) (v_reached : Nat → Int64) (v_brought : Nat → Int64) (pe : Pe) (post : Unit → (Nat → Int64) → (Nat → Int64) → (Nat → Int64) → Prop) : Prop := wpX9_firstToRepeat (v_a0_rights &&& (p1 ^^^ (-1))) p2 v_a0_size v_habits v_a0_people pe (fun r1 => (r1 < 0 → (wpJ6_bitCount_0f7a4 p1 (fun r2 => vp_in (r2 + 1) 5 ∧ (vp_in (r2 + 1) 5 ∧ (wlX1_endDay_60 v_a0_size v_a0_rights v_habits v_a0_people pe post fu p2 p3 0 (vp_updL v_byLives (((r2 + 1)).toNatClampNeg) ((v_byLives (((r2 + 1)).toNatClampNeg)) + p3)) v_reached v_brought))))) ∧ (¬ r1 < 0 → (vp_in (p1 ||| ((1 : Int32) <<< (r1 &&& 31))) 8 ∧ (vp_in (p1 ||| ((1 : Int32) <<< (r1 &&& 31))) 8 ∧ (post () v_byLives (vp_updL v_reached (((p1 ||| ((1 : Int32) <<< (r1 &&& 31)))).toNatClampNeg) ((v_reached (((p1 ||| ((1 : Int32) <<< (r1 &&& 31)))).toNatClampNeg)) + p3)) v_brought)))))
abbrev miX1_endDay : MI := (yX1_endDay, cX1_endDay, 9, none)
theorem mfX1_endDay : MF miX1_endDay 4 := ⟨t3_110, t1_6, by decide +kernel⟩
abbrev rmX1_endDay : Room := { frames := 3, cells := 0, slots := 0, locals := 69 }
set_option maxHeartbeats 4000000 in
set_option maxRecDepth 100000 in
theorem ccX1_endDay (l : Launch) (D : va_G) (cy : Nat → ClassId) (pe : Pe) (h_this : Nat) (h_a0 : Nat) (h_habits : Nat) (h_a0_people : Nat) (h_byLives : Nat) (h_reached : Nat) (h_brought : Nat) (x_means : Value) (x_a0_memories : Value) (x_a0_purses : Value) (x_a0_lives : Value) (v_firstRest : Int32) (v_a0_there : Bool) (v_a0_size : Int32) (v_a0_date : Int32) (v_a0_evening : Bool) (v_a0_well : Int32) (v_a0_rights : Int32) (v_habits : Nat → Int32) (v_a0_people : Nat → Option Nat) (v_byLives : Nat → Int64) (v_reached : Nat → Int64) (v_brought : Nat → Int64) (p1 : Int32) (p2 : Int32) (p3 : Int64) (post : Unit → (Nat → Int64) → (Nat → Int64) → (Nat → Int64) → Prop) (hF : wpX1_endDay p1 p2 p3 v_a0_size v_a0_rights v_habits v_a0_people v_byLives v_reached v_brought pe post) : Ct l D cy miX1_endDay rmX1_endDay emV pe [.ref h_this, .ref h_a0, .int p1, .int p2, .long p3] [(h_this, .inr (1, [.ref h_habits, .ref h_byLives, .ref h_brought, .int v_firstRest, .ref h_reached, x_means])), (h_a0, .inr (8, [.ref h_a0_people, x_a0_memories, x_a0_purses, x_a0_lives, .int (bz v_a0_there), .int v_a0_size, .int v_a0_date, .int (bz v_a0_evening), .int v_a0_well, .int v_a0_rights])), (h_habits, .inl (cy 0, 3, .inl v_habits)), (h_a0_people, .inl (cy 3, 3, .inr (.inr (.inr (.inr v_a0_people))))), (h_byLives, .inl (cy 1, 5, .inr (.inl v_byLives))), (h_reached, .inl (cy 1, 8, .inr (.inl v_reached))), (h_brought, .inl (cy 1, 3, .inr (.inl v_brought)))] (fun r w1 => ∃ (w_byLives : Nat → Int64) (w_reached : Nat → Int64) (w_brought : Nat → Int64), w1 = [(h_this, .inr (1, [.ref h_habits, .ref h_byLives, .ref h_brought, .int v_firstRest, .ref h_reached, x_means])), (h_a0, .inr (8, [.ref h_a0_people, x_a0_memories, x_a0_purses, x_a0_lives, .int (bz v_a0_there), .int v_a0_size, .int v_a0_date, .int (bz v_a0_evening), .int v_a0_well, .int v_a0_rights])), (h_habits, .inl (cy 0, 3, .inl v_habits)), (h_a0_people, .inl (cy 3, 3, .inr (.inr (.inr (.inr v_a0_people))))), (h_byLives, .inl (cy 1, 5, .inr (.inl w_byLives))), (h_reached, .inl (cy 1, 8, .inr (.inl w_reached))), (h_brought, .inl (cy 1, 3, .inr (.inl w_brought)))] ∧ post r w_byLives w_reached w_brought) := by
  refine Ct.of (by decide) (Nat.le_of_ble_eq_true rfl) ?_
  intro p e s m args below meth c A ls Q C hQ hA hI hP hD hS hl
  obtain ⟨hx, hb, hr, hml, hown, hts, hK, hlk, hnm⟩ := id C
  have hb : c.code = cX1_endDay := hb
  have hml : c.maxLocals = 9 := hml
  have hown : s.vm.findClass RX1 = some m.cls := hown
  have hl : lv_has ls 9 [(0, .ref h_this), (1, .ref h_a0), (2, .int p1), (3, .int p2), (4, .long p3)] := hl
  have L_60 : ∀ (n_60 : Nat) (l3 : Int32) (l4 : Int64) (l7 : Int32) (w_byLives : Nat → Int64) (w_reached : Nat → Int64) (w_brought : Nat → Int64) (H : Heap) (locs : List Loc) (ls : Array Slot), va_P D CL [(h_this, .inr (1, [.ref h_habits, .ref h_byLives, .ref h_brought, .int v_firstRest, .ref h_reached, x_means])), (h_a0, .inr (8, [.ref h_a0_people, x_a0_memories, x_a0_purses, x_a0_lives, .int (bz v_a0_there), .int v_a0_size, .int v_a0_date, .int (bz v_a0_evening), .int v_a0_well, .int v_a0_rights])), (h_habits, .inl (cy 0, 3, .inl v_habits)), (h_a0_people, .inl (cy 3, 3, .inr (.inr (.inr (.inr v_a0_people))))), (h_byLives, .inl (cy 1, 5, .inr (.inl w_byLives))), (h_reached, .inl (cy 1, 8, .inr (.inl w_reached))), (h_brought, .inl (cy 1, 3, .inr (.inl w_brought)))] H → va_D A [(h_this, .inr (1, [.ref h_habits, .ref h_byLives, .ref h_brought, .int v_firstRest, .ref h_reached, x_means])), (h_a0, .inr (8, [.ref h_a0_people, x_a0_memories, x_a0_purses, x_a0_lives, .int (bz v_a0_there), .int v_a0_size, .int v_a0_date, .int (bz v_a0_evening), .int v_a0_well, .int v_a0_rights])), (h_habits, .inl (cy 0, 3, .inl v_habits)), (h_a0_people, .inl (cy 3, 3, .inr (.inr (.inr (.inr v_a0_people))))), (h_byLives, .inl (cy 1, 5, .inr (.inl w_byLives))), (h_reached, .inl (cy 1, 8, .inr (.inl w_reached))), (h_brought, .inl (cy 1, 3, .inr (.inl w_brought)))] → va_S A s.heap H locs → lv_has ls 9 [(0, .ref h_this), (1, .ref h_a0), (3, .int l3), (4, .long l4), (7, .int l7)] → wlX1_endDay_60 v_a0_size v_a0_rights v_habits v_a0_people pe post n_60 l3 l4 l7 w_byLives w_reached w_brought → W p l e rmX1_endDay s m args below meth c H locs 0 0 Q (F0 m 60 ls []) := by
    intro n_60
    induction n_60 with
    | zero =>
      intro l3 l4 l7 w_byLives w_reached w_brought H locs ls  hP hD hS hl hF
      simp only [wlX1_endDay_60] at hF
    | succ n_60 ih_60 =>
      have J_116 : ∀ (l3 : Int32) (l4 : Int64) (l7 : Int32) (w_byLives : Nat → Int64) (w_reached : Nat → Int64) (w_brought : Nat → Int64) (H : Heap) (locs : List Loc) (ls : Array Slot), va_P D CL [(h_this, .inr (1, [.ref h_habits, .ref h_byLives, .ref h_brought, .int v_firstRest, .ref h_reached, x_means])), (h_a0, .inr (8, [.ref h_a0_people, x_a0_memories, x_a0_purses, x_a0_lives, .int (bz v_a0_there), .int v_a0_size, .int v_a0_date, .int (bz v_a0_evening), .int v_a0_well, .int v_a0_rights])), (h_habits, .inl (cy 0, 3, .inl v_habits)), (h_a0_people, .inl (cy 3, 3, .inr (.inr (.inr (.inr v_a0_people))))), (h_byLives, .inl (cy 1, 5, .inr (.inl w_byLives))), (h_reached, .inl (cy 1, 8, .inr (.inl w_reached))), (h_brought, .inl (cy 1, 3, .inr (.inl w_brought)))] H → va_D A [(h_this, .inr (1, [.ref h_habits, .ref h_byLives, .ref h_brought, .int v_firstRest, .ref h_reached, x_means])), (h_a0, .inr (8, [.ref h_a0_people, x_a0_memories, x_a0_purses, x_a0_lives, .int (bz v_a0_there), .int v_a0_size, .int v_a0_date, .int (bz v_a0_evening), .int v_a0_well, .int v_a0_rights])), (h_habits, .inl (cy 0, 3, .inl v_habits)), (h_a0_people, .inl (cy 3, 3, .inr (.inr (.inr (.inr v_a0_people))))), (h_byLives, .inl (cy 1, 5, .inr (.inl w_byLives))), (h_reached, .inl (cy 1, 8, .inr (.inl w_reached))), (h_brought, .inl (cy 1, 3, .inr (.inl w_brought)))] → va_S A s.heap H locs → lv_has ls 9 [(0, .ref h_this), (1, .ref h_a0), (3, .int l3), (4, .long l4), (7, .int l7)] → wjX1_endDay_116 v_a0_size v_a0_rights v_habits v_a0_people pe post (wlX1_endDay_60 v_a0_size v_a0_rights v_habits v_a0_people pe post n_60) l3 l4 l7 w_byLives w_reached w_brought → W p l e rmX1_endDay s m args below meth c H locs 0 0 Q (F0 m 116 ls []) := by
        intro l3 l4 l7 w_byLives w_reached w_brought H locs ls  hP hD hS hl hF
        unfold wjX1_endDay_116 at hF
        refine lv_iinc (v := (l7 + 1)) (lv' := [(7, .int (l7 + 1)), (0, .ref h_this), (1, .ref h_a0), (3, .int l3), (4, .long l4)]) hx hb dX1_endDay_116 hl (k := 4) rfl rfl (by decide) rfl (fun ls hl => ?_)
        refine lv_goto (tgt := 60) hx hb dX1_endDay_119 (by decide) ?_
        exact ih_60 l3 l4 (l7 + 1) w_byLives w_reached w_brought _ _ ls  hP hD hS (lv_sub hl [1, 2, 3, 4, 0] rfl) hF
      have J_109 : ∀ (l3 : Int32) (l4 : Int64) (l7 : Int32) (k0 : Bool) (k1 : Nat) (k2 : Int64) (k3 : Int64) (k4 : Int32) (w_byLives : Nat → Int64) (w_reached : Nat → Int64) (w_brought : Nat → Int64) (H : Heap) (locs : List Loc) (ls : Array Slot), k1 ∈ pe.1 → va_P D CL [(h_this, .inr (1, [.ref h_habits, .ref h_byLives, .ref h_brought, .int v_firstRest, .ref h_reached, x_means])), (h_a0, .inr (8, [.ref h_a0_people, x_a0_memories, x_a0_purses, x_a0_lives, .int (bz v_a0_there), .int v_a0_size, .int v_a0_date, .int (bz v_a0_evening), .int v_a0_well, .int v_a0_rights])), (h_habits, .inl (cy 0, 3, .inl v_habits)), (h_a0_people, .inl (cy 3, 3, .inr (.inr (.inr (.inr v_a0_people))))), (h_byLives, .inl (cy 1, 5, .inr (.inl w_byLives))), (h_reached, .inl (cy 1, 8, .inr (.inl w_reached))), (h_brought, .inl (cy 1, 3, .inr (.inl w_brought)))] H → va_D A [(h_this, .inr (1, [.ref h_habits, .ref h_byLives, .ref h_brought, .int v_firstRest, .ref h_reached, x_means])), (h_a0, .inr (8, [.ref h_a0_people, x_a0_memories, x_a0_purses, x_a0_lives, .int (bz v_a0_there), .int v_a0_size, .int v_a0_date, .int (bz v_a0_evening), .int v_a0_well, .int v_a0_rights])), (h_habits, .inl (cy 0, 3, .inl v_habits)), (h_a0_people, .inl (cy 3, 3, .inr (.inr (.inr (.inr v_a0_people))))), (h_byLives, .inl (cy 1, 5, .inr (.inl w_byLives))), (h_reached, .inl (cy 1, 8, .inr (.inl w_reached))), (h_brought, .inl (cy 1, 3, .inr (.inl w_brought)))] → va_S A s.heap H locs → lv_has ls 9 [(0, .ref h_this), (1, .ref h_a0), (3, .int l3), (4, .long l4), (7, .int l7)] → wjX1_endDay_109 v_a0_size v_a0_rights v_habits v_a0_people pe post (wlX1_endDay_60 v_a0_size v_a0_rights v_habits v_a0_people pe post n_60) l3 l4 l7 k0 k1 k2 k3 k4 w_byLives w_reached w_brought → W p l e rmX1_endDay s m args below meth c H locs 0 0 Q (F0 m 109 ls [.int (bz k0), .ref k1, .long k2, .long k3, .int k4, .ref h_brought]) := by
        intro l3 l4 l7 k0 k1 k2 k3 k4 w_byLives w_reached w_brought H locs ls ha_k1 hP hD hS hl hF
        unfold wjX1_endDay_109 at hF
        refine pv_bringsBy C (hI.at hS) ha_k1 t3_117 hl.1 (Nat.le_of_ble_eq_true rfl) dX1_endDay_109 ⟨Nat.le_of_ble_eq_true rfl, Nat.le_of_ble_eq_true rfl⟩ ⟨Nat.le_of_ble_eq_true rfl, Nat.le_of_ble_eq_true rfl⟩ hF rfl ?_
        intro r1 hF
        refine W.eq (g2 := F0 m 112 ls [.int r1, .long k2, .long k3, .int k4, .ref h_brought]) rfl ?_
        refine lv_i2l hx hb dX1_endDay_112 rfl ?_
        refine lv_lmul hx hb dX1_endDay_113 ?_
        refine lv_ladd hx hb dX1_endDay_114 ?_
        obtain ⟨hi2, hF⟩ := hF
        refine s_last (j := (k4).toNatClampNeg) hx hb hK.1 hP hD hS 6 1 rfl rfl hi2 rfl dX1_endDay_115 (fun H locs hP hD hS => ?_)
        have hP : va_P D CL [(h_this, .inr (1, [.ref h_habits, .ref h_byLives, .ref h_brought, .int v_firstRest, .ref h_reached, x_means])), (h_a0, .inr (8, [.ref h_a0_people, x_a0_memories, x_a0_purses, x_a0_lives, .int (bz v_a0_there), .int v_a0_size, .int v_a0_date, .int (bz v_a0_evening), .int v_a0_well, .int v_a0_rights])), (h_habits, .inl (cy 0, 3, .inl v_habits)), (h_a0_people, .inl (cy 3, 3, .inr (.inr (.inr (.inr v_a0_people))))), (h_byLives, .inl (cy 1, 5, .inr (.inl w_byLives))), (h_reached, .inl (cy 1, 8, .inr (.inl w_reached))), (h_brought, .inl (cy 1, 3, .inr (.inl (vp_updL w_brought ((k4).toNatClampNeg) (k3 + (k2 * ((r1).toInt64)))))))] H := hP
        have hD : va_D A [(h_this, .inr (1, [.ref h_habits, .ref h_byLives, .ref h_brought, .int v_firstRest, .ref h_reached, x_means])), (h_a0, .inr (8, [.ref h_a0_people, x_a0_memories, x_a0_purses, x_a0_lives, .int (bz v_a0_there), .int v_a0_size, .int v_a0_date, .int (bz v_a0_evening), .int v_a0_well, .int v_a0_rights])), (h_habits, .inl (cy 0, 3, .inl v_habits)), (h_a0_people, .inl (cy 3, 3, .inr (.inr (.inr (.inr v_a0_people))))), (h_byLives, .inl (cy 1, 5, .inr (.inl w_byLives))), (h_reached, .inl (cy 1, 8, .inr (.inl w_reached))), (h_brought, .inl (cy 1, 3, .inr (.inl (vp_updL w_brought ((k4).toNatClampNeg) (k3 + (k2 * ((r1).toInt64)))))))] := hD
        exact J_116 l3 l4 l7 w_byLives w_reached (vp_updL w_brought ((k4).toNatClampNeg) (k3 + (k2 * ((r1).toInt64)))) _ _ ls  hP hD hS (lv_sub hl [0, 1, 2, 3, 4] rfl) hF
      intro l3 l4 l7 w_byLives w_reached w_brought H locs ls  hP hD hS hl hF
      unfold wlX1_endDay_60 at hF
      refine lv_iload hx hb dX1_endDay_60 (lv_at hl 4 rfl) ?_
      refine lv_aload_n hx hb dX1_endDay_62 rfl (lv_at hl 1 rfl) ?_
      refine va_get (D := D) (ci := 8) (v := .int v_a0_size) (C := RX9) (T := TX9) (N := 10) hx hb hts inTX9 hown hK.1 hP 1 rfl rfl 5 (by decide) (hts _ t1_93) (fun _ h9 => h9) rfl dX1_endDay_63 ?_
      refine lv_icmp_ge (tgt := 122) hx hb dX1_endDay_66 (by decide) (fun c_ => ?_) (fun c_ => ?_)
      · have hF := hF.1 c_
        exact rt_v C hQ rfl hP hD hS ⟨w_byLives, w_reached, w_brought, rfl, hF⟩ dX1_endDay_122
      · have hF := hF.2 c_
        refine lv_aload_n hx hb dX1_endDay_69 rfl (lv_at hl 1 rfl) ?_
        refine lv_iload hx hb dX1_endDay_70 (lv_at hl 4 rfl) ?_
        refine cV_r (As := [.int l7]) C mfX9_personAt t2_227 t2_228 t3_95 (ccX9_personAt l D cy pe h_a0 h_a0_people x_a0_memories x_a0_purses x_a0_lives v_a0_there v_a0_size v_a0_date v_a0_evening v_a0_well v_a0_rights v_a0_people l7 _ hF) rfl rfl (hP.sub [1, 3] rfl) (hI.at hS) hP 1 8 rfl rfl rfl rfl hl.1 rfl (Nat.le_of_ble_eq_true rfl) dX1_endDay_72 ⟨Nat.le_of_ble_eq_true rfl, Nat.le_of_ble_eq_true rfl⟩ ⟨Nat.le_of_ble_eq_true rfl, Nat.le_of_ble_eq_true rfl⟩ ?_
        intro r1 hF
        rcases r1 with _ | a2
        · have hF := hF.1 rfl
          refine lv_astoreN (lv' := [(8, .null), (0, .ref h_this), (1, .ref h_a0), (3, .int l3), (4, .long l4), (7, .int l7)]) hx hb dX1_endDay_75 hl (by decide) rfl (fun ls hl => ?_)
          refine lv_aloadN hx hb dX1_endDay_77 (lv_at hl 0 rfl) ?_
          refine lv_ifnullN (tgt := 116) hx hb dX1_endDay_79 (by decide) ?_
          exact J_116 l3 l4 l7 w_byLives w_reached w_brought _ _ ls  hP hD hS (lv_sub hl [1, 2, 3, 4, 5] rfl) hF
        · obtain ⟨ha_a2, hF⟩ := hF.2 a2 rfl
          refine lv_astore (lv' := [(8, .ref a2), (0, .ref h_this), (1, .ref h_a0), (3, .int l3), (4, .long l4), (7, .int l7)]) hx hb dX1_endDay_75 hl (by decide) rfl (fun ls hl => ?_)
          refine lv_aload hx hb dX1_endDay_77 (lv_at hl 0 rfl) ?_
          refine lv_ifnull hx hb dX1_endDay_79 ?_
          refine lv_aload_n hx hb dX1_endDay_82 rfl (lv_at hl 1 rfl) ?_
          refine va_get (D := D) (ci := 1) (v := .ref h_brought) (C := RX1) (T := TX1) (N := 6) hx hb hts inTX1 hown hK.1 hP 0 rfl rfl 2 (by decide) (hts _ t1_136) (fun _ h9 => h9) rfl dX1_endDay_83 ?_
          refine lv_iload hx hb dX1_endDay_86 (lv_at hl 5 rfl) ?_
          refine lv_dup2_11 hx hb dX1_endDay_88 rfl rfl ?_
          obtain ⟨hi3, hF⟩ := hF
          refine s_lald (j := (l7).toNatClampNeg) hx hb hK.1 hP 6 1 rfl rfl hi3 rfl dX1_endDay_89 ?_
          refine lv_lload hx hb dX1_endDay_90 (lv_at hl 4 rfl) ?_
          refine lv_aload hx hb dX1_endDay_92 (lv_at hl 0 rfl) ?_
          refine lv_iload_n hx hb dX1_endDay_94 rfl (lv_at hl 3 rfl) ?_
          refine lv_iload hx hb dX1_endDay_95 (lv_at hl 5 rfl) ?_
          refine lv_ishr hx hb dX1_endDay_97 ?_
          refine lv_iconst (v := 1) hx hb dX1_endDay_98 (by decide) ?_
          refine lv_iand hx hb dX1_endDay_99 ?_
          refine lv_iconst (v := 1) hx hb dX1_endDay_100 (by decide) ?_
          refine lv_icmp_ne (tgt := 108) hx hb dX1_endDay_101 (by decide) (fun c_ => ?_) (fun c_ => ?_)
          · have hF := hF.1 c_
            refine lv_iconst (v := 0) hx hb dX1_endDay_108 (by decide) ?_
            exact J_109 l3 l4 l7 false a2 l4 (w_brought ((l7).toNatClampNeg)) l7 w_byLives w_reached w_brought _ _ ls ha_a2 hP hD hS (lv_sub hl [1, 2, 3, 4, 5] rfl) hF
          · have hF := hF.2 c_
            refine lv_iconst (v := 1) hx hb dX1_endDay_104 (by decide) ?_
            refine lv_goto (tgt := 109) hx hb dX1_endDay_105 (by decide) ?_
            exact J_109 l3 l4 l7 true a2 l4 (w_brought ((l7).toNatClampNeg)) l7 w_byLives w_reached w_brought _ _ ls ha_a2 hP hD hS (lv_sub hl [1, 2, 3, 4, 5] rfl) hF
  unfold wpX1_endDay at hF
  refine lv_aload_n hx hb dX1_endDay_0 rfl (lv_at hl 1 rfl) ?_
  refine lv_aload_n hx hb dX1_endDay_1 rfl (lv_at hl 0 rfl) ?_
  refine va_get (D := D) (ci := 1) (v := .ref h_habits) (C := RX1) (T := TX1) (N := 6) hx hb hts inTX1 hown hK.1 hP 0 rfl rfl 0 (by decide) (hts _ t1_132) (fun _ h9 => h9) rfl dX1_endDay_2 ?_
  refine lv_aload_n hx hb dX1_endDay_5 rfl (lv_at hl 1 rfl) ?_
  refine va_get (D := D) (ci := 8) (v := .int v_a0_rights) (C := RX9) (T := TX9) (N := 10) hx hb hts inTX9 hown hK.1 hP 1 rfl rfl 9 (by decide) (hts _ t1_102) (fun _ h9 => h9) rfl dX1_endDay_6 ?_
  refine lv_iload_n hx hb dX1_endDay_9 rfl (lv_at hl 2 rfl) ?_
  refine lv_iconst (v := (-1)) hx hb dX1_endDay_10 (by decide) ?_
  refine lv_ixor hx hb dX1_endDay_11 ?_
  refine lv_iand hx hb dX1_endDay_12 ?_
  refine lv_iload_n hx hb dX1_endDay_13 rfl (lv_at hl 3 rfl) ?_
  refine cV_r (As := [.ref h_habits, .int (v_a0_rights &&& (p1 ^^^ (-1))), .int p2]) C mfX9_firstToRepeat t3_112 t3_113 t3_111 (ccX9_firstToRepeat l D cy pe h_a0 h_habits h_a0_people x_a0_memories x_a0_purses x_a0_lives v_a0_there v_a0_size v_a0_date v_a0_evening v_a0_well v_a0_rights v_habits v_a0_people (v_a0_rights &&& (p1 ^^^ (-1))) p2 _ hF) rfl rfl (hP.sub [1, 2, 3] rfl) (hI.at hS) hP 1 8 rfl rfl rfl rfl hl.1 rfl (Nat.le_of_ble_eq_true rfl) dX1_endDay_14 ⟨Nat.le_of_ble_eq_true rfl, Nat.le_of_ble_eq_true rfl⟩ ⟨Nat.le_of_ble_eq_true rfl, Nat.le_of_ble_eq_true rfl⟩ ?_
  intro r1 hF
  refine W.eq (g2 := F0 m 17 ls [.int r1]) rfl ?_
  refine lv_istore (lv' := [(6, .int r1), (0, .ref h_this), (1, .ref h_a0), (2, .int p1), (3, .int p2), (4, .long p3)]) hx hb dX1_endDay_17 hl (by decide) rfl (fun ls hl => ?_)
  refine lv_iload hx hb dX1_endDay_19 (lv_at hl 0 rfl) ?_
  refine lv_if_lt (tgt := 41) hx hb dX1_endDay_21 (by decide) (fun c_ => ?_) (fun c_ => ?_)
  · have hF := hF.1 c_
    refine lv_aload_n hx hb dX1_endDay_41 rfl (lv_at hl 1 rfl) ?_
    refine va_get (D := D) (ci := 1) (v := .ref h_byLives) (C := RX1) (T := TX1) (N := 6) hx hb hts inTX1 hown hK.1 hP 0 rfl rfl 1 (by decide) (hts _ t1_134) (fun _ h9 => h9) rfl dX1_endDay_42 ?_
    refine lv_iload_n hx hb dX1_endDay_45 rfl (lv_at hl 3 rfl) ?_
    refine cS_r (As := [.int p1]) C mfJ6_bitCount_0f7a4 t3_45 t3_116 (ccJ6_bitCount_0f7a4 l D cy p1 _ hF) rfl rfl (hP.sub [] rfl) PR.np rfl hl.1 rfl (Nat.le_of_ble_eq_true rfl) dX1_endDay_46 ⟨Nat.le_of_ble_eq_true rfl, Nat.le_of_ble_eq_true rfl⟩ ⟨Nat.le_of_ble_eq_true rfl, Nat.le_of_ble_eq_true rfl⟩ ?_
    intro r2 hF
    refine W.eq (g2 := F0 m 49 ls [.int r2, .ref h_byLives]) rfl ?_
    refine lv_iconst (v := 1) hx hb dX1_endDay_49 (by decide) ?_
    refine lv_iadd hx hb dX1_endDay_50 ?_
    refine lv_dup2_11 hx hb dX1_endDay_51 rfl rfl ?_
    obtain ⟨hi3, hF⟩ := hF
    refine s_lald (j := ((r2 + 1)).toNatClampNeg) hx hb hK.1 hP 4 1 rfl rfl hi3 rfl dX1_endDay_52 ?_
    refine lv_lload hx hb dX1_endDay_53 (lv_at hl 5 rfl) ?_
    refine lv_ladd hx hb dX1_endDay_55 ?_
    obtain ⟨hi4, hF⟩ := hF
    refine s_last (j := ((r2 + 1)).toNatClampNeg) hx hb hK.1 hP hD hS 4 1 rfl rfl hi4 rfl dX1_endDay_56 (fun H locs hP hD hS => ?_)
    have hP : va_P D CL [(h_this, .inr (1, [.ref h_habits, .ref h_byLives, .ref h_brought, .int v_firstRest, .ref h_reached, x_means])), (h_a0, .inr (8, [.ref h_a0_people, x_a0_memories, x_a0_purses, x_a0_lives, .int (bz v_a0_there), .int v_a0_size, .int v_a0_date, .int (bz v_a0_evening), .int v_a0_well, .int v_a0_rights])), (h_habits, .inl (cy 0, 3, .inl v_habits)), (h_a0_people, .inl (cy 3, 3, .inr (.inr (.inr (.inr v_a0_people))))), (h_byLives, .inl (cy 1, 5, .inr (.inl (vp_updL v_byLives (((r2 + 1)).toNatClampNeg) ((v_byLives (((r2 + 1)).toNatClampNeg)) + p3))))), (h_reached, .inl (cy 1, 8, .inr (.inl v_reached))), (h_brought, .inl (cy 1, 3, .inr (.inl v_brought)))] H := hP
    have hD : va_D A [(h_this, .inr (1, [.ref h_habits, .ref h_byLives, .ref h_brought, .int v_firstRest, .ref h_reached, x_means])), (h_a0, .inr (8, [.ref h_a0_people, x_a0_memories, x_a0_purses, x_a0_lives, .int (bz v_a0_there), .int v_a0_size, .int v_a0_date, .int (bz v_a0_evening), .int v_a0_well, .int v_a0_rights])), (h_habits, .inl (cy 0, 3, .inl v_habits)), (h_a0_people, .inl (cy 3, 3, .inr (.inr (.inr (.inr v_a0_people))))), (h_byLives, .inl (cy 1, 5, .inr (.inl (vp_updL v_byLives (((r2 + 1)).toNatClampNeg) ((v_byLives (((r2 + 1)).toNatClampNeg)) + p3))))), (h_reached, .inl (cy 1, 8, .inr (.inl v_reached))), (h_brought, .inl (cy 1, 3, .inr (.inl v_brought)))] := hD
    refine lv_iconst (v := 0) hx hb dX1_endDay_57 (by decide) ?_
    refine lv_istore (lv' := [(7, .int 0), (6, .int r1), (0, .ref h_this), (1, .ref h_a0), (2, .int p1), (3, .int p2), (4, .long p3)]) hx hb dX1_endDay_58 hl (by decide) rfl (fun ls hl => ?_)
    exact L_60 fu p2 p3 0 (vp_updL v_byLives (((r2 + 1)).toNatClampNeg) ((v_byLives (((r2 + 1)).toNatClampNeg)) + p3)) v_reached v_brought _ _ ls  hP hD hS (lv_sub hl [2, 3, 5, 6, 0] rfl) hF
  · have hF := hF.2 c_
    refine lv_aload_n hx hb dX1_endDay_24 rfl (lv_at hl 1 rfl) ?_
    refine va_get (D := D) (ci := 1) (v := .ref h_reached) (C := RX1) (T := TX1) (N := 6) hx hb hts inTX1 hown hK.1 hP 0 rfl rfl 4 (by decide) (hts _ t1_140) (fun _ h9 => h9) rfl dX1_endDay_25 ?_
    refine lv_iload_n hx hb dX1_endDay_28 rfl (lv_at hl 3 rfl) ?_
    refine lv_iconst (v := 1) hx hb dX1_endDay_29 (by decide) ?_
    refine lv_iload hx hb dX1_endDay_30 (lv_at hl 0 rfl) ?_
    refine lv_ishl hx hb dX1_endDay_32 ?_
    refine lv_ior hx hb dX1_endDay_33 ?_
    refine lv_dup2_11 hx hb dX1_endDay_34 rfl rfl ?_
    obtain ⟨hi5, hF⟩ := hF
    refine s_lald (j := ((p1 ||| ((1 : Int32) <<< (r1 &&& 31)))).toNatClampNeg) hx hb hK.1 hP 5 1 rfl rfl hi5 rfl dX1_endDay_35 ?_
    refine lv_lload hx hb dX1_endDay_36 (lv_at hl 5 rfl) ?_
    refine lv_ladd hx hb dX1_endDay_38 ?_
    obtain ⟨hi6, hF⟩ := hF
    refine s_last (j := ((p1 ||| ((1 : Int32) <<< (r1 &&& 31)))).toNatClampNeg) hx hb hK.1 hP hD hS 5 1 rfl rfl hi6 rfl dX1_endDay_39 (fun H locs hP hD hS => ?_)
    have hP : va_P D CL [(h_this, .inr (1, [.ref h_habits, .ref h_byLives, .ref h_brought, .int v_firstRest, .ref h_reached, x_means])), (h_a0, .inr (8, [.ref h_a0_people, x_a0_memories, x_a0_purses, x_a0_lives, .int (bz v_a0_there), .int v_a0_size, .int v_a0_date, .int (bz v_a0_evening), .int v_a0_well, .int v_a0_rights])), (h_habits, .inl (cy 0, 3, .inl v_habits)), (h_a0_people, .inl (cy 3, 3, .inr (.inr (.inr (.inr v_a0_people))))), (h_byLives, .inl (cy 1, 5, .inr (.inl v_byLives))), (h_reached, .inl (cy 1, 8, .inr (.inl (vp_updL v_reached (((p1 ||| ((1 : Int32) <<< (r1 &&& 31)))).toNatClampNeg) ((v_reached (((p1 ||| ((1 : Int32) <<< (r1 &&& 31)))).toNatClampNeg)) + p3))))), (h_brought, .inl (cy 1, 3, .inr (.inl v_brought)))] H := hP
    have hD : va_D A [(h_this, .inr (1, [.ref h_habits, .ref h_byLives, .ref h_brought, .int v_firstRest, .ref h_reached, x_means])), (h_a0, .inr (8, [.ref h_a0_people, x_a0_memories, x_a0_purses, x_a0_lives, .int (bz v_a0_there), .int v_a0_size, .int v_a0_date, .int (bz v_a0_evening), .int v_a0_well, .int v_a0_rights])), (h_habits, .inl (cy 0, 3, .inl v_habits)), (h_a0_people, .inl (cy 3, 3, .inr (.inr (.inr (.inr v_a0_people))))), (h_byLives, .inl (cy 1, 5, .inr (.inl v_byLives))), (h_reached, .inl (cy 1, 8, .inr (.inl (vp_updL v_reached (((p1 ||| ((1 : Int32) <<< (r1 &&& 31)))).toNatClampNeg) ((v_reached (((p1 ||| ((1 : Int32) <<< (r1 &&& 31)))).toNatClampNeg)) + p3))))), (h_brought, .inl (cy 1, 3, .inr (.inl v_brought)))] := hD
    exact rt_v C hQ rfl hP hD hS ⟨v_byLives, (vp_updL v_reached (((p1 ||| ((1 : Int32) <<< (r1 &&& 31)))).toNatClampNeg) ((v_reached (((p1 ||| ((1 : Int32) <<< (r1 &&& 31)))).toNatClampNeg)) + p3)), v_brought, rfl, hF⟩ dX1_endDay_40

def wjX1_tell_92 (v_a0_size : Int32) (v_a0_rights : Int32) (v_a0_people : Nat → Option Nat) (v_habits : Nat → Int32) (pe : Pe) (post : Unit → (Nat → Int64) → (Nat → Int64) → (Nat → Int64) → Prop) (K_35 : Int32 → (Nat → Int64) → (Nat → Int64) → (Nat → Int64) → Prop) (l2 : Int32) (w_byLives : Nat → Int64) (w_brought : Nat → Int64) (w_reached : Nat → Int64) : Prop := K_35 (l2 + 1) w_byLives w_brought w_reached
def wlX1_tell_55 (v_a0_size : Int32) (v_a0_rights : Int32) (v_a0_people : Nat → Option Nat) (v_habits : Nat → Int32) (pe : Pe) (post : Unit → (Nat → Int64) → (Nat → Int64) → (Nat → Int64) → Prop) (K_35 : Int32 → (Nat → Int64) → (Nat → Int64) → (Nat → Int64) → Prop) : Nat → Int32 → Int64 → Int32 → (Nat → Int64) → (Nat → Int64) → (Nat → Int64) → Prop
  | 0, _, _, _, _, _, _ => False
  | n + 1, l2, l3, l5, w_byLives, w_brought, w_reached => (8 ≤ l5 → (wjX1_tell_92 v_a0_size v_a0_rights v_a0_people v_habits pe post K_35 l2 w_byLives w_brought w_reached)) ∧ (¬ 8 ≤ l5 → ((l3 ≤ 0 → (wjX1_tell_92 v_a0_size v_a0_rights v_a0_people v_habits pe post K_35 l2 w_byLives w_brought w_reached)) ∧ (¬ l3 ≤ 0 → (wpX1_waysOfAll l2 l5 v_a0_size v_a0_people pe (fun r1 => wpX1_endDay l2 l5 (l3 * r1) v_a0_size v_a0_rights v_habits v_a0_people w_byLives w_reached w_brought pe (fun _ u3_byLives u4_reached u5_brought => (wlX1_tell_55 v_a0_size v_a0_rights v_a0_people v_habits pe post K_35 n) l2 l3 (l5 + 1) u3_byLives u5_brought u4_reached))))))
def wlX1_tell_35 (v_a0_size : Int32) (v_a0_rights : Int32) (v_a0_people : Nat → Option Nat) (v_habits : Nat → Int32) (pe : Pe) (post : Unit → (Nat → Int64) → (Nat → Int64) → (Nat → Int64) → Prop) : Nat → Int32 → (Nat → Int64) → (Nat → Int64) → (Nat → Int64) → Prop
  | 0, _, _, _, _ => False
  | n + 1, l2, w_byLives, w_brought, w_reached => (8 ≤ l2 → (post () w_byLives w_brought w_reached)) ∧ (¬ 8 ≤ l2 → (vp_in l2 8 ∧ (wlX1_tell_55 v_a0_size v_a0_rights v_a0_people v_habits pe post (wlX1_tell_35 v_a0_size v_a0_rights v_a0_people v_habits pe post n) fu l2 ((w_reached ((l2).toNatClampNeg)) / 1000) 0 w_byLives w_brought w_reached)))
def wpX1_tell (v_a0_size : Int32) (v_a0_rights : Int32) (v_byLives : Nat → Int64) (v_brought : Nat → Int64) (v_reached : Nat → Int64) (v_a0_people : Nat → Option Nat) (v_habits : Nat → Int32) (pe : Pe) (post : Unit → (Nat → Int64) → (Nat → Int64) → (Nat → Int64) → Prop) : Prop := wp_fillL 5 0 v_byLives (fun _ u2_byLives => wp_fillL 3 0 v_brought (fun _ u4_brought => wp_fillL 8 0 v_reached (fun _ u6_reached => wlX1_tell_35 v_a0_size v_a0_rights v_a0_people v_habits pe post fu 0 u2_byLives u4_brought (vp_updL u6_reached 0 1000000000000))))
abbrev miX1_tell : MI := (yX1_tell, cX1_tell, 6, none)
theorem mfX1_tell : MF miX1_tell 1 := ⟨t3_85, t1_6, by decide +kernel⟩
abbrev rmX1_tell : Room := { frames := 4, cells := 0, slots := 0, locals := 97 }
set_option maxHeartbeats 4000000 in
set_option maxRecDepth 100000 in
theorem ccX1_tell (l : Launch) (D : va_G) (cy : Nat → ClassId) (pe : Pe) (h_this : Nat) (h_a0 : Nat) (h_byLives : Nat) (h_brought : Nat) (h_reached : Nat) (h_a0_people : Nat) (h_habits : Nat) (x_means : Value) (x_a0_memories : Value) (x_a0_purses : Value) (x_a0_lives : Value) (v_firstRest : Int32) (v_a0_there : Bool) (v_a0_size : Int32) (v_a0_date : Int32) (v_a0_evening : Bool) (v_a0_well : Int32) (v_a0_rights : Int32) (v_byLives : Nat → Int64) (v_brought : Nat → Int64) (v_reached : Nat → Int64) (v_a0_people : Nat → Option Nat) (v_habits : Nat → Int32) (post : Unit → (Nat → Int64) → (Nat → Int64) → (Nat → Int64) → Prop) (hF : wpX1_tell v_a0_size v_a0_rights v_byLives v_brought v_reached v_a0_people v_habits pe post) : Ct l D cy miX1_tell rmX1_tell emV pe [.ref h_this, .ref h_a0] [(h_this, .inr (1, [.ref h_habits, .ref h_byLives, .ref h_brought, .int v_firstRest, .ref h_reached, x_means])), (h_a0, .inr (8, [.ref h_a0_people, x_a0_memories, x_a0_purses, x_a0_lives, .int (bz v_a0_there), .int v_a0_size, .int v_a0_date, .int (bz v_a0_evening), .int v_a0_well, .int v_a0_rights])), (h_byLives, .inl (cy 1, 5, .inr (.inl v_byLives))), (h_brought, .inl (cy 1, 3, .inr (.inl v_brought))), (h_reached, .inl (cy 1, 8, .inr (.inl v_reached))), (h_a0_people, .inl (cy 3, 3, .inr (.inr (.inr (.inr v_a0_people))))), (h_habits, .inl (cy 0, 3, .inl v_habits))] (fun r w1 => ∃ (w_byLives : Nat → Int64) (w_brought : Nat → Int64) (w_reached : Nat → Int64), w1 = [(h_this, .inr (1, [.ref h_habits, .ref h_byLives, .ref h_brought, .int v_firstRest, .ref h_reached, x_means])), (h_a0, .inr (8, [.ref h_a0_people, x_a0_memories, x_a0_purses, x_a0_lives, .int (bz v_a0_there), .int v_a0_size, .int v_a0_date, .int (bz v_a0_evening), .int v_a0_well, .int v_a0_rights])), (h_byLives, .inl (cy 1, 5, .inr (.inl w_byLives))), (h_brought, .inl (cy 1, 3, .inr (.inl w_brought))), (h_reached, .inl (cy 1, 8, .inr (.inl w_reached))), (h_a0_people, .inl (cy 3, 3, .inr (.inr (.inr (.inr v_a0_people))))), (h_habits, .inl (cy 0, 3, .inl v_habits))] ∧ post r w_byLives w_brought w_reached) := by
  refine Ct.of (by decide) (Nat.le_of_ble_eq_true rfl) ?_
  intro p e s m args below meth c A ls Q C hQ hA hI hP hD hS hl
  obtain ⟨hx, hb, hr, hml, hown, hts, hK, hlk, hnm⟩ := id C
  have hb : c.code = cX1_tell := hb
  have hml : c.maxLocals = 6 := hml
  have hown : s.vm.findClass RX1 = some m.cls := hown
  have hl : lv_has ls 6 [(0, .ref h_this), (1, .ref h_a0)] := hl
  have L_35 : ∀ (n_35 : Nat) (l2 : Int32) (w_byLives : Nat → Int64) (w_brought : Nat → Int64) (w_reached : Nat → Int64) (H : Heap) (locs : List Loc) (ls : Array Slot), va_P D CL [(h_this, .inr (1, [.ref h_habits, .ref h_byLives, .ref h_brought, .int v_firstRest, .ref h_reached, x_means])), (h_a0, .inr (8, [.ref h_a0_people, x_a0_memories, x_a0_purses, x_a0_lives, .int (bz v_a0_there), .int v_a0_size, .int v_a0_date, .int (bz v_a0_evening), .int v_a0_well, .int v_a0_rights])), (h_byLives, .inl (cy 1, 5, .inr (.inl w_byLives))), (h_brought, .inl (cy 1, 3, .inr (.inl w_brought))), (h_reached, .inl (cy 1, 8, .inr (.inl w_reached))), (h_a0_people, .inl (cy 3, 3, .inr (.inr (.inr (.inr v_a0_people))))), (h_habits, .inl (cy 0, 3, .inl v_habits))] H → va_D A [(h_this, .inr (1, [.ref h_habits, .ref h_byLives, .ref h_brought, .int v_firstRest, .ref h_reached, x_means])), (h_a0, .inr (8, [.ref h_a0_people, x_a0_memories, x_a0_purses, x_a0_lives, .int (bz v_a0_there), .int v_a0_size, .int v_a0_date, .int (bz v_a0_evening), .int v_a0_well, .int v_a0_rights])), (h_byLives, .inl (cy 1, 5, .inr (.inl w_byLives))), (h_brought, .inl (cy 1, 3, .inr (.inl w_brought))), (h_reached, .inl (cy 1, 8, .inr (.inl w_reached))), (h_a0_people, .inl (cy 3, 3, .inr (.inr (.inr (.inr v_a0_people))))), (h_habits, .inl (cy 0, 3, .inl v_habits))] → va_S A s.heap H locs → lv_has ls 6 [(0, .ref h_this), (1, .ref h_a0), (2, .int l2)] → wlX1_tell_35 v_a0_size v_a0_rights v_a0_people v_habits pe post n_35 l2 w_byLives w_brought w_reached → W p l e rmX1_tell s m args below meth c H locs 0 0 Q (F0 m 35 ls []) := by
    intro n_35
    induction n_35 with
    | zero =>
      intro l2 w_byLives w_brought w_reached H locs ls  hP hD hS hl hF
      simp only [wlX1_tell_35] at hF
    | succ n_35 ih_35 =>
      have J_92 : ∀ (l2 : Int32) (w_byLives : Nat → Int64) (w_brought : Nat → Int64) (w_reached : Nat → Int64) (H : Heap) (locs : List Loc) (ls : Array Slot), va_P D CL [(h_this, .inr (1, [.ref h_habits, .ref h_byLives, .ref h_brought, .int v_firstRest, .ref h_reached, x_means])), (h_a0, .inr (8, [.ref h_a0_people, x_a0_memories, x_a0_purses, x_a0_lives, .int (bz v_a0_there), .int v_a0_size, .int v_a0_date, .int (bz v_a0_evening), .int v_a0_well, .int v_a0_rights])), (h_byLives, .inl (cy 1, 5, .inr (.inl w_byLives))), (h_brought, .inl (cy 1, 3, .inr (.inl w_brought))), (h_reached, .inl (cy 1, 8, .inr (.inl w_reached))), (h_a0_people, .inl (cy 3, 3, .inr (.inr (.inr (.inr v_a0_people))))), (h_habits, .inl (cy 0, 3, .inl v_habits))] H → va_D A [(h_this, .inr (1, [.ref h_habits, .ref h_byLives, .ref h_brought, .int v_firstRest, .ref h_reached, x_means])), (h_a0, .inr (8, [.ref h_a0_people, x_a0_memories, x_a0_purses, x_a0_lives, .int (bz v_a0_there), .int v_a0_size, .int v_a0_date, .int (bz v_a0_evening), .int v_a0_well, .int v_a0_rights])), (h_byLives, .inl (cy 1, 5, .inr (.inl w_byLives))), (h_brought, .inl (cy 1, 3, .inr (.inl w_brought))), (h_reached, .inl (cy 1, 8, .inr (.inl w_reached))), (h_a0_people, .inl (cy 3, 3, .inr (.inr (.inr (.inr v_a0_people))))), (h_habits, .inl (cy 0, 3, .inl v_habits))] → va_S A s.heap H locs → lv_has ls 6 [(0, .ref h_this), (1, .ref h_a0), (2, .int l2)] → wjX1_tell_92 v_a0_size v_a0_rights v_a0_people v_habits pe post (wlX1_tell_35 v_a0_size v_a0_rights v_a0_people v_habits pe post n_35) l2 w_byLives w_brought w_reached → W p l e rmX1_tell s m args below meth c H locs 0 0 Q (F0 m 92 ls []) := by
        intro l2 w_byLives w_brought w_reached H locs ls  hP hD hS hl hF
        unfold wjX1_tell_92 at hF
        refine lv_iinc (v := (l2 + 1)) (lv' := [(2, .int (l2 + 1)), (0, .ref h_this), (1, .ref h_a0)]) hx hb dX1_tell_92 hl (k := 2) rfl rfl (by decide) rfl (fun ls hl => ?_)
        refine lv_goto (tgt := 35) hx hb dX1_tell_95 (by decide) ?_
        exact ih_35 (l2 + 1) w_byLives w_brought w_reached _ _ ls  hP hD hS (lv_sub hl [1, 2, 0] rfl) hF
      have L_55 : ∀ (n_55 : Nat) (l2 : Int32) (l3 : Int64) (l5 : Int32) (w_byLives : Nat → Int64) (w_brought : Nat → Int64) (w_reached : Nat → Int64) (H : Heap) (locs : List Loc) (ls : Array Slot), va_P D CL [(h_this, .inr (1, [.ref h_habits, .ref h_byLives, .ref h_brought, .int v_firstRest, .ref h_reached, x_means])), (h_a0, .inr (8, [.ref h_a0_people, x_a0_memories, x_a0_purses, x_a0_lives, .int (bz v_a0_there), .int v_a0_size, .int v_a0_date, .int (bz v_a0_evening), .int v_a0_well, .int v_a0_rights])), (h_byLives, .inl (cy 1, 5, .inr (.inl w_byLives))), (h_brought, .inl (cy 1, 3, .inr (.inl w_brought))), (h_reached, .inl (cy 1, 8, .inr (.inl w_reached))), (h_a0_people, .inl (cy 3, 3, .inr (.inr (.inr (.inr v_a0_people))))), (h_habits, .inl (cy 0, 3, .inl v_habits))] H → va_D A [(h_this, .inr (1, [.ref h_habits, .ref h_byLives, .ref h_brought, .int v_firstRest, .ref h_reached, x_means])), (h_a0, .inr (8, [.ref h_a0_people, x_a0_memories, x_a0_purses, x_a0_lives, .int (bz v_a0_there), .int v_a0_size, .int v_a0_date, .int (bz v_a0_evening), .int v_a0_well, .int v_a0_rights])), (h_byLives, .inl (cy 1, 5, .inr (.inl w_byLives))), (h_brought, .inl (cy 1, 3, .inr (.inl w_brought))), (h_reached, .inl (cy 1, 8, .inr (.inl w_reached))), (h_a0_people, .inl (cy 3, 3, .inr (.inr (.inr (.inr v_a0_people))))), (h_habits, .inl (cy 0, 3, .inl v_habits))] → va_S A s.heap H locs → lv_has ls 6 [(0, .ref h_this), (1, .ref h_a0), (2, .int l2), (3, .long l3), (5, .int l5)] → wlX1_tell_55 v_a0_size v_a0_rights v_a0_people v_habits pe post (wlX1_tell_35 v_a0_size v_a0_rights v_a0_people v_habits pe post n_35) n_55 l2 l3 l5 w_byLives w_brought w_reached → W p l e rmX1_tell s m args below meth c H locs 0 0 Q (F0 m 55 ls []) := by
        intro n_55
        induction n_55 with
        | zero =>
          intro l2 l3 l5 w_byLives w_brought w_reached H locs ls  hP hD hS hl hF
          simp only [wlX1_tell_55] at hF
        | succ n_55 ih_55 =>
          intro l2 l3 l5 w_byLives w_brought w_reached H locs ls  hP hD hS hl hF
          unfold wlX1_tell_55 at hF
          refine lv_iload hx hb dX1_tell_55 (lv_at hl 4 rfl) ?_
          refine lv_bipush (v := 8) hx hb dX1_tell_57 (by decide) ?_
          refine lv_icmp_ge (tgt := 92) hx hb dX1_tell_59 (by decide) (fun c_ => ?_) (fun c_ => ?_)
          · have hF := hF.1 c_
            exact J_92 l2 w_byLives w_brought w_reached _ _ ls  hP hD hS (lv_sub hl [0, 1, 2] rfl) hF
          · have hF := hF.2 c_
            refine lv_lload_n hx hb dX1_tell_62 rfl (lv_at hl 3 rfl) ?_
            refine lv_lconst (v := 0) hx hb dX1_tell_63 (by decide) ?_
            refine W.lcmp hx hb dX1_tell_64 ?_
            refine lv_if_le (tgt := 92) hx hb dX1_tell_65 (by decide) (fun c_ => ?_) (fun c_ => ?_)
            · have hF := hF.1 ((lg_cmp_le _ _).mp c_)
              exact J_92 l2 w_byLives w_brought w_reached _ _ ls  hP hD hS (lv_sub hl [0, 1, 2] rfl) hF
            · have hF := hF.2 (fun z9 => c_ ((lg_cmp_le _ _).mpr z9))
              refine lv_aload_n hx hb dX1_tell_68 rfl (lv_at hl 0 rfl) ?_
              refine lv_aload_n hx hb dX1_tell_69 rfl (lv_at hl 1 rfl) ?_
              refine lv_iload_n hx hb dX1_tell_70 rfl (lv_at hl 2 rfl) ?_
              refine lv_iload hx hb dX1_tell_71 (lv_at hl 4 rfl) ?_
              refine lv_lload_n hx hb dX1_tell_73 rfl (lv_at hl 3 rfl) ?_
              refine lv_aload_n hx hb dX1_tell_74 rfl (lv_at hl 0 rfl) ?_
              refine lv_aload_n hx hb dX1_tell_75 rfl (lv_at hl 1 rfl) ?_
              refine lv_iload_n hx hb dX1_tell_76 rfl (lv_at hl 2 rfl) ?_
              refine lv_iload hx hb dX1_tell_77 (lv_at hl 4 rfl) ?_
              refine cV_r (As := [.ref h_a0, .int l2, .int l5]) C mfX1_waysOfAll t3_93 ts_9 t3_91 (ccX1_waysOfAll l D cy pe h_this h_a0 h_a0_people (.ref h_habits) (.ref h_byLives) (.ref h_brought) (.ref h_reached) x_means x_a0_memories x_a0_purses x_a0_lives v_firstRest v_a0_there v_a0_size v_a0_date v_a0_evening v_a0_well v_a0_rights v_a0_people l2 l5 _ hF) rfl rfl (hP.sub [0, 1, 5] rfl) (hI.at hS) hP 0 1 rfl rfl rfl rfl hl.1 rfl (Nat.le_of_ble_eq_true rfl) dX1_tell_79 ⟨Nat.le_of_ble_eq_true rfl, Nat.le_of_ble_eq_true rfl⟩ ⟨Nat.le_of_ble_eq_true rfl, Nat.le_of_ble_eq_true rfl⟩ ?_
              intro r1 hF
              refine W.eq (g2 := F0 m 82 ls [.long r1, .long l3, .int l5, .int l2, .ref h_a0, .ref h_this]) rfl ?_
              refine lv_lmul hx hb dX1_tell_82 ?_
              refine cV_t (As := [.ref h_a0, .int l2, .int l5, .long (l3 * r1)]) (wr := []) C hA hP hD hS mfX1_endDay t3_109 ts_10 t3_107 (ccX1_endDay l D cy pe h_this h_a0 h_habits h_a0_people h_byLives h_reached h_brought x_means x_a0_memories x_a0_purses x_a0_lives v_firstRest v_a0_there v_a0_size v_a0_date v_a0_evening v_a0_well v_a0_rights v_habits v_a0_people w_byLives w_reached w_brought l2 l5 (l3 * r1) _ hF) [0, 1, 6, 5, 2, 4, 3] [] rfl rfl (by decide) (by decide) (by decide) (hI.po hS hD [0, 1, 6, 5, 2, 4, 3] rfl) 0 1 rfl rfl rfl rfl hl.1 rfl (Nat.le_of_ble_eq_true rfl) dX1_tell_83 ⟨Nat.le_of_ble_eq_true rfl, Nat.le_of_ble_eq_true rfl⟩ ⟨Nat.le_of_ble_eq_true rfl, Nat.le_of_ble_eq_true rfl⟩ ?_
              rintro ⟨⟩ w1 H locs ⟨u3_byLives, u4_reached, u5_brought, rfl, hF⟩ hP hD hS
              have hP : va_P D CL [(h_this, .inr (1, [.ref h_habits, .ref h_byLives, .ref h_brought, .int v_firstRest, .ref h_reached, x_means])), (h_a0, .inr (8, [.ref h_a0_people, x_a0_memories, x_a0_purses, x_a0_lives, .int (bz v_a0_there), .int v_a0_size, .int v_a0_date, .int (bz v_a0_evening), .int v_a0_well, .int v_a0_rights])), (h_habits, .inl (cy 0, 3, .inl v_habits)), (h_a0_people, .inl (cy 3, 3, .inr (.inr (.inr (.inr v_a0_people))))), (h_byLives, .inl (cy 1, 5, .inr (.inl u3_byLives))), (h_reached, .inl (cy 1, 8, .inr (.inl u4_reached))), (h_brought, .inl (cy 1, 3, .inr (.inl u5_brought)))] H := hP
              have hD : va_D A [(h_this, .inr (1, [.ref h_habits, .ref h_byLives, .ref h_brought, .int v_firstRest, .ref h_reached, x_means])), (h_a0, .inr (8, [.ref h_a0_people, x_a0_memories, x_a0_purses, x_a0_lives, .int (bz v_a0_there), .int v_a0_size, .int v_a0_date, .int (bz v_a0_evening), .int v_a0_well, .int v_a0_rights])), (h_habits, .inl (cy 0, 3, .inl v_habits)), (h_a0_people, .inl (cy 3, 3, .inr (.inr (.inr (.inr v_a0_people))))), (h_byLives, .inl (cy 1, 5, .inr (.inl u3_byLives))), (h_reached, .inl (cy 1, 8, .inr (.inl u4_reached))), (h_brought, .inl (cy 1, 3, .inr (.inl u5_brought)))] := hD
              refine W.eq (g2 := F0 m 86 ls []) rfl ?_
              refine lv_iinc (v := (l5 + 1)) (lv' := [(5, .int (l5 + 1)), (0, .ref h_this), (1, .ref h_a0), (2, .int l2), (3, .long l3)]) hx hb dX1_tell_86 hl (k := 4) rfl rfl (by decide) rfl (fun ls hl => ?_)
              refine lv_goto (tgt := 55) hx hb dX1_tell_89 (by decide) ?_
              exact ih_55 l2 l3 (l5 + 1) u3_byLives u5_brought u4_reached _ _ ls  (hP.sub [0, 1, 4, 6, 5, 3, 2] rfl) (hD.sub [0, 1, 4, 6, 5, 3, 2] (by decide) rfl) hS (lv_sub hl [1, 2, 3, 4, 0] rfl) hF
      intro l2 w_byLives w_brought w_reached H locs ls  hP hD hS hl hF
      unfold wlX1_tell_35 at hF
      refine lv_iload_n hx hb dX1_tell_35 rfl (lv_at hl 2 rfl) ?_
      refine lv_bipush (v := 8) hx hb dX1_tell_36 (by decide) ?_
      refine lv_icmp_ge (tgt := 98) hx hb dX1_tell_38 (by decide) (fun c_ => ?_) (fun c_ => ?_)
      · have hF := hF.1 c_
        exact rt_v C hQ rfl hP hD hS ⟨w_byLives, w_brought, w_reached, rfl, hF⟩ dX1_tell_98
      · have hF := hF.2 c_
        refine lv_aload_n hx hb dX1_tell_41 rfl (lv_at hl 0 rfl) ?_
        refine va_get (D := D) (ci := 1) (v := .ref h_reached) (C := RX1) (T := TX1) (N := 6) hx hb hts inTX1 hown hK.1 hP 0 rfl rfl 4 (by decide) (hts _ t1_140) (fun _ h9 => h9) rfl dX1_tell_42 ?_
        refine lv_iload_n hx hb dX1_tell_45 rfl (lv_at hl 2 rfl) ?_
        obtain ⟨hi1, hF⟩ := hF
        refine s_lald (j := (l2).toNatClampNeg) hx hb hK.1 hP 4 1 rfl rfl hi1 rfl dX1_tell_46 ?_
        refine lv_ldc2 hx hb hown (hts _ t3_90) dX1_tell_47 ?_
        refine lv_ldiv hx hb dX1_tell_50 (by decide) ?_
        refine lv_lstore_n (lv' := [(3, .long ((w_reached ((l2).toNatClampNeg)) / 1000)), (0, .ref h_this), (1, .ref h_a0), (2, .int l2)]) hx hb dX1_tell_51 rfl hl (by decide) rfl (fun ls hl => ?_)
        refine lv_iconst (v := 0) hx hb dX1_tell_52 (by decide) ?_
        refine lv_istore (lv' := [(5, .int 0), (3, .long ((w_reached ((l2).toNatClampNeg)) / 1000)), (0, .ref h_this), (1, .ref h_a0), (2, .int l2)]) hx hb dX1_tell_53 hl (by decide) rfl (fun ls hl => ?_)
        exact L_55 fu l2 ((w_reached ((l2).toNatClampNeg)) / 1000) 0 w_byLives w_brought w_reached _ _ ls  hP hD hS (lv_sub hl [2, 3, 4, 1, 0] rfl) hF
  unfold wpX1_tell at hF
  refine lv_aload_n hx hb dX1_tell_0 rfl (lv_at hl 0 rfl) ?_
  refine va_get (D := D) (ci := 1) (v := .ref h_byLives) (C := RX1) (T := TX1) (N := 6) hx hb hts inTX1 hown hK.1 hP 0 rfl rfl 1 (by decide) (hts _ t1_134) (fun _ h9 => h9) rfl dX1_tell_1 ?_
  refine lv_lconst (v := 0) hx hb dX1_tell_4 (by decide) ?_
  refine cS_t (As := [.ref h_byLives, .long 0]) (wr := [(h_this, .inr (1, [.ref h_habits, .ref h_byLives, .ref h_brought, .int v_firstRest, .ref h_reached, x_means])), (h_a0, .inr (8, [.ref h_a0_people, x_a0_memories, x_a0_purses, x_a0_lives, .int (bz v_a0_there), .int v_a0_size, .int v_a0_date, .int (bz v_a0_evening), .int v_a0_well, .int v_a0_rights])), (h_brought, .inl (cy 1, 3, .inr (.inl v_brought))), (h_reached, .inl (cy 1, 8, .inr (.inl v_reached))), (h_a0_people, .inl (cy 3, 3, .inr (.inr (.inr (.inr v_a0_people))))), (h_habits, .inl (cy 0, 3, .inl v_habits))]) C hA hP hD hS mfJ7_fill_d0a16 t3_87 t3_86 (c_fillL l D cy 5 (by decide) h_byLives v_byLives 0 _ hF) [2] [0, 1, 3, 4, 5, 6] rfl rfl (by decide) (by decide) (by decide) PO.np rfl hl.1 rfl (Nat.le_of_ble_eq_true rfl) dX1_tell_5 ⟨Nat.le_of_ble_eq_true rfl, Nat.le_of_ble_eq_true rfl⟩ ⟨Nat.le_of_ble_eq_true rfl, Nat.le_of_ble_eq_true rfl⟩ ?_
  rintro ⟨⟩ w1 H locs ⟨u2_byLives, rfl, hF⟩ hP hD hS
  have hP : va_P D CL [(h_this, .inr (1, [.ref h_habits, .ref h_byLives, .ref h_brought, .int v_firstRest, .ref h_reached, x_means])), (h_a0, .inr (8, [.ref h_a0_people, x_a0_memories, x_a0_purses, x_a0_lives, .int (bz v_a0_there), .int v_a0_size, .int v_a0_date, .int (bz v_a0_evening), .int v_a0_well, .int v_a0_rights])), (h_brought, .inl (cy 1, 3, .inr (.inl v_brought))), (h_reached, .inl (cy 1, 8, .inr (.inl v_reached))), (h_a0_people, .inl (cy 3, 3, .inr (.inr (.inr (.inr v_a0_people))))), (h_habits, .inl (cy 0, 3, .inl v_habits)), (h_byLives, .inl (cy 1, 5, .inr (.inl u2_byLives)))] H := hP
  have hD : va_D A [(h_this, .inr (1, [.ref h_habits, .ref h_byLives, .ref h_brought, .int v_firstRest, .ref h_reached, x_means])), (h_a0, .inr (8, [.ref h_a0_people, x_a0_memories, x_a0_purses, x_a0_lives, .int (bz v_a0_there), .int v_a0_size, .int v_a0_date, .int (bz v_a0_evening), .int v_a0_well, .int v_a0_rights])), (h_brought, .inl (cy 1, 3, .inr (.inl v_brought))), (h_reached, .inl (cy 1, 8, .inr (.inl v_reached))), (h_a0_people, .inl (cy 3, 3, .inr (.inr (.inr (.inr v_a0_people))))), (h_habits, .inl (cy 0, 3, .inl v_habits)), (h_byLives, .inl (cy 1, 5, .inr (.inl u2_byLives)))] := hD
  refine W.eq (g2 := F0 m 8 ls []) rfl ?_
  refine lv_aload_n hx hb dX1_tell_8 rfl (lv_at hl 0 rfl) ?_
  refine va_get (D := D) (ci := 1) (v := .ref h_brought) (C := RX1) (T := TX1) (N := 6) hx hb hts inTX1 hown hK.1 hP 0 rfl rfl 2 (by decide) (hts _ t1_136) (fun _ h9 => h9) rfl dX1_tell_9 ?_
  refine lv_lconst (v := 0) hx hb dX1_tell_12 (by decide) ?_
  refine cS_t (As := [.ref h_brought, .long 0]) (wr := [(h_this, .inr (1, [.ref h_habits, .ref h_byLives, .ref h_brought, .int v_firstRest, .ref h_reached, x_means])), (h_a0, .inr (8, [.ref h_a0_people, x_a0_memories, x_a0_purses, x_a0_lives, .int (bz v_a0_there), .int v_a0_size, .int v_a0_date, .int (bz v_a0_evening), .int v_a0_well, .int v_a0_rights])), (h_reached, .inl (cy 1, 8, .inr (.inl v_reached))), (h_a0_people, .inl (cy 3, 3, .inr (.inr (.inr (.inr v_a0_people))))), (h_habits, .inl (cy 0, 3, .inl v_habits)), (h_byLives, .inl (cy 1, 5, .inr (.inl u2_byLives)))]) C hA hP hD hS mfJ7_fill_d0a16 t3_87 t3_86 (c_fillL l D cy 3 (by decide) h_brought v_brought 0 _ hF) [2] [0, 1, 3, 4, 5, 6] rfl rfl (by decide) (by decide) (by decide) PO.np rfl hl.1 rfl (Nat.le_of_ble_eq_true rfl) dX1_tell_13 ⟨Nat.le_of_ble_eq_true rfl, Nat.le_of_ble_eq_true rfl⟩ ⟨Nat.le_of_ble_eq_true rfl, Nat.le_of_ble_eq_true rfl⟩ ?_
  rintro ⟨⟩ w1 H locs ⟨u4_brought, rfl, hF⟩ hP hD hS
  have hP : va_P D CL [(h_this, .inr (1, [.ref h_habits, .ref h_byLives, .ref h_brought, .int v_firstRest, .ref h_reached, x_means])), (h_a0, .inr (8, [.ref h_a0_people, x_a0_memories, x_a0_purses, x_a0_lives, .int (bz v_a0_there), .int v_a0_size, .int v_a0_date, .int (bz v_a0_evening), .int v_a0_well, .int v_a0_rights])), (h_reached, .inl (cy 1, 8, .inr (.inl v_reached))), (h_a0_people, .inl (cy 3, 3, .inr (.inr (.inr (.inr v_a0_people))))), (h_habits, .inl (cy 0, 3, .inl v_habits)), (h_byLives, .inl (cy 1, 5, .inr (.inl u2_byLives))), (h_brought, .inl (cy 1, 3, .inr (.inl u4_brought)))] H := hP
  have hD : va_D A [(h_this, .inr (1, [.ref h_habits, .ref h_byLives, .ref h_brought, .int v_firstRest, .ref h_reached, x_means])), (h_a0, .inr (8, [.ref h_a0_people, x_a0_memories, x_a0_purses, x_a0_lives, .int (bz v_a0_there), .int v_a0_size, .int v_a0_date, .int (bz v_a0_evening), .int v_a0_well, .int v_a0_rights])), (h_reached, .inl (cy 1, 8, .inr (.inl v_reached))), (h_a0_people, .inl (cy 3, 3, .inr (.inr (.inr (.inr v_a0_people))))), (h_habits, .inl (cy 0, 3, .inl v_habits)), (h_byLives, .inl (cy 1, 5, .inr (.inl u2_byLives))), (h_brought, .inl (cy 1, 3, .inr (.inl u4_brought)))] := hD
  refine W.eq (g2 := F0 m 16 ls []) rfl ?_
  refine lv_aload_n hx hb dX1_tell_16 rfl (lv_at hl 0 rfl) ?_
  refine va_get (D := D) (ci := 1) (v := .ref h_reached) (C := RX1) (T := TX1) (N := 6) hx hb hts inTX1 hown hK.1 hP 0 rfl rfl 4 (by decide) (hts _ t1_140) (fun _ h9 => h9) rfl dX1_tell_17 ?_
  refine lv_lconst (v := 0) hx hb dX1_tell_20 (by decide) ?_
  refine cS_t (As := [.ref h_reached, .long 0]) (wr := [(h_this, .inr (1, [.ref h_habits, .ref h_byLives, .ref h_brought, .int v_firstRest, .ref h_reached, x_means])), (h_a0, .inr (8, [.ref h_a0_people, x_a0_memories, x_a0_purses, x_a0_lives, .int (bz v_a0_there), .int v_a0_size, .int v_a0_date, .int (bz v_a0_evening), .int v_a0_well, .int v_a0_rights])), (h_a0_people, .inl (cy 3, 3, .inr (.inr (.inr (.inr v_a0_people))))), (h_habits, .inl (cy 0, 3, .inl v_habits)), (h_byLives, .inl (cy 1, 5, .inr (.inl u2_byLives))), (h_brought, .inl (cy 1, 3, .inr (.inl u4_brought)))]) C hA hP hD hS mfJ7_fill_d0a16 t3_87 t3_86 (c_fillL l D cy 8 (by decide) h_reached v_reached 0 _ hF) [2] [0, 1, 3, 4, 5, 6] rfl rfl (by decide) (by decide) (by decide) PO.np rfl hl.1 rfl (Nat.le_of_ble_eq_true rfl) dX1_tell_21 ⟨Nat.le_of_ble_eq_true rfl, Nat.le_of_ble_eq_true rfl⟩ ⟨Nat.le_of_ble_eq_true rfl, Nat.le_of_ble_eq_true rfl⟩ ?_
  rintro ⟨⟩ w1 H locs ⟨u6_reached, rfl, hF⟩ hP hD hS
  have hP : va_P D CL [(h_this, .inr (1, [.ref h_habits, .ref h_byLives, .ref h_brought, .int v_firstRest, .ref h_reached, x_means])), (h_a0, .inr (8, [.ref h_a0_people, x_a0_memories, x_a0_purses, x_a0_lives, .int (bz v_a0_there), .int v_a0_size, .int v_a0_date, .int (bz v_a0_evening), .int v_a0_well, .int v_a0_rights])), (h_a0_people, .inl (cy 3, 3, .inr (.inr (.inr (.inr v_a0_people))))), (h_habits, .inl (cy 0, 3, .inl v_habits)), (h_byLives, .inl (cy 1, 5, .inr (.inl u2_byLives))), (h_brought, .inl (cy 1, 3, .inr (.inl u4_brought))), (h_reached, .inl (cy 1, 8, .inr (.inl u6_reached)))] H := hP
  have hD : va_D A [(h_this, .inr (1, [.ref h_habits, .ref h_byLives, .ref h_brought, .int v_firstRest, .ref h_reached, x_means])), (h_a0, .inr (8, [.ref h_a0_people, x_a0_memories, x_a0_purses, x_a0_lives, .int (bz v_a0_there), .int v_a0_size, .int v_a0_date, .int (bz v_a0_evening), .int v_a0_well, .int v_a0_rights])), (h_a0_people, .inl (cy 3, 3, .inr (.inr (.inr (.inr v_a0_people))))), (h_habits, .inl (cy 0, 3, .inl v_habits)), (h_byLives, .inl (cy 1, 5, .inr (.inl u2_byLives))), (h_brought, .inl (cy 1, 3, .inr (.inl u4_brought))), (h_reached, .inl (cy 1, 8, .inr (.inl u6_reached)))] := hD
  refine W.eq (g2 := F0 m 24 ls []) rfl ?_
  refine lv_aload_n hx hb dX1_tell_24 rfl (lv_at hl 0 rfl) ?_
  refine va_get (D := D) (ci := 1) (v := .ref h_reached) (C := RX1) (T := TX1) (N := 6) hx hb hts inTX1 hown hK.1 hP 0 rfl rfl 4 (by decide) (hts _ t1_140) (fun _ h9 => h9) rfl dX1_tell_25 ?_
  refine lv_iconst (v := 0) hx hb dX1_tell_28 (by decide) ?_
  refine lv_ldc2 hx hb hown (hts _ t3_89) dX1_tell_29 ?_
  refine s_last (j := 0) hx hb hK.1 hP hD hS 6 1 rfl rfl (vi (by decide)) (by decide) dX1_tell_32 (fun H locs hP hD hS => ?_)
  have hP : va_P D CL [(h_this, .inr (1, [.ref h_habits, .ref h_byLives, .ref h_brought, .int v_firstRest, .ref h_reached, x_means])), (h_a0, .inr (8, [.ref h_a0_people, x_a0_memories, x_a0_purses, x_a0_lives, .int (bz v_a0_there), .int v_a0_size, .int v_a0_date, .int (bz v_a0_evening), .int v_a0_well, .int v_a0_rights])), (h_a0_people, .inl (cy 3, 3, .inr (.inr (.inr (.inr v_a0_people))))), (h_habits, .inl (cy 0, 3, .inl v_habits)), (h_byLives, .inl (cy 1, 5, .inr (.inl u2_byLives))), (h_brought, .inl (cy 1, 3, .inr (.inl u4_brought))), (h_reached, .inl (cy 1, 8, .inr (.inl (vp_updL u6_reached 0 1000000000000))))] H := hP
  have hD : va_D A [(h_this, .inr (1, [.ref h_habits, .ref h_byLives, .ref h_brought, .int v_firstRest, .ref h_reached, x_means])), (h_a0, .inr (8, [.ref h_a0_people, x_a0_memories, x_a0_purses, x_a0_lives, .int (bz v_a0_there), .int v_a0_size, .int v_a0_date, .int (bz v_a0_evening), .int v_a0_well, .int v_a0_rights])), (h_a0_people, .inl (cy 3, 3, .inr (.inr (.inr (.inr v_a0_people))))), (h_habits, .inl (cy 0, 3, .inl v_habits)), (h_byLives, .inl (cy 1, 5, .inr (.inl u2_byLives))), (h_brought, .inl (cy 1, 3, .inr (.inl u4_brought))), (h_reached, .inl (cy 1, 8, .inr (.inl (vp_updL u6_reached 0 1000000000000))))] := hD
  refine lv_iconst (v := 0) hx hb dX1_tell_33 (by decide) ?_
  refine lv_istore_n (lv' := [(2, .int 0), (0, .ref h_this), (1, .ref h_a0)]) hx hb dX1_tell_34 rfl hl (by decide) rfl (fun ls hl => ?_)
  exact L_35 fu 0 u2_byLives u4_brought (vp_updL u6_reached 0 1000000000000) _ _ ls  (hP.sub [0, 1, 4, 5, 6, 2, 3] rfl) (hD.sub [0, 1, 4, 5, 6, 2, 3] (by decide) rfl) hS (lv_sub hl [1, 2, 0] rfl) hF

def wjX1_bestHabit_55 (v_a0_size : Int32) (v_a0_rights : Int32) (v_a0_people : Nat → Option Nat) (pe : Pe) (post : Int32 → (Nat → Int32) → (Nat → Int64) → (Nat → Int64) → (Nat → Int64) → Prop) (K_8 : Int32 → Int32 → Int64 → Int32 → (Nat → Int32) → (Nat → Int64) → (Nat → Int64) → (Nat → Int64) → Prop) (l2 : Int32) (l3 : Int32) (l4 : Int64) (l6 : Int32) (w_habits : Nat → Int32) (w_byLives : Nat → Int64) (w_brought : Nat → Int64) (w_reached : Nat → Int64) : Prop := K_8 l2 l3 l4 (l6 + 1) w_habits w_byLives w_brought w_reached
def wjX1_bestHabit_44 (v_a0_size : Int32) (v_a0_rights : Int32) (v_a0_people : Nat → Option Nat) (pe : Pe) (post : Int32 → (Nat → Int32) → (Nat → Int64) → (Nat → Int64) → (Nat → Int64) → Prop) (K_8 : Int32 → Int32 → Int64 → Int32 → (Nat → Int32) → (Nat → Int64) → (Nat → Int64) → (Nat → Int64) → Prop) (l2 : Int32) (l6 : Int32) (w_habits : Nat → Int32) (w_byLives : Nat → Int64) (w_brought : Nat → Int64) (w_reached : Nat → Int64) : Prop := vp_in l2 3 ∧ (wjX1_bestHabit_55 v_a0_size v_a0_rights v_a0_people pe post K_8 l2 l6 (w_brought ((l2).toNatClampNeg)) l6 w_habits w_byLives w_brought w_reached)
def wlX1_bestHabit_8 (v_a0_size : Int32) (v_a0_rights : Int32) (v_a0_people : Nat → Option Nat) (pe : Pe) (post : Int32 → (Nat → Int32) → (Nat → Int64) → (Nat → Int64) → (Nat → Int64) → Prop) : Nat → Int32 → Int32 → Int64 → Int32 → (Nat → Int32) → (Nat → Int64) → (Nat → Int64) → (Nat → Int64) → Prop
  | 0, _, _, _, _, _, _, _, _ => False
  | n + 1, l2, l3, l4, l6, w_habits, w_byLives, w_brought, w_reached => (3 ≤ l6 → (post l3 w_habits w_byLives w_brought w_reached)) ∧ (¬ 3 ≤ l6 → (vp_in l2 3 ∧ (wpX1_tell v_a0_size v_a0_rights w_byLives w_brought w_reached v_a0_people (upd w_habits ((l2).toNatClampNeg) l6) pe (fun _ u3_byLives u4_brought u5_reached => (l6 = 0 → (wjX1_bestHabit_44 v_a0_size v_a0_rights v_a0_people pe post (wlX1_bestHabit_8 v_a0_size v_a0_rights v_a0_people pe post n) l2 l6 (upd w_habits ((l2).toNatClampNeg) l6) u3_byLives u4_brought u5_reached)) ∧ (¬ l6 = 0 → (vp_in l2 3 ∧ (((u4_brought ((l2).toNatClampNeg)) ≤ l4 → (wjX1_bestHabit_55 v_a0_size v_a0_rights v_a0_people pe post (wlX1_bestHabit_8 v_a0_size v_a0_rights v_a0_people pe post n) l2 l3 l4 l6 (upd w_habits ((l2).toNatClampNeg) l6) u3_byLives u4_brought u5_reached)) ∧ (¬ (u4_brought ((l2).toNatClampNeg)) ≤ l4 → (wjX1_bestHabit_44 v_a0_size v_a0_rights v_a0_people pe post (wlX1_bestHabit_8 v_a0_size v_a0_rights v_a0_people pe post n) l2 l6 (upd w_habits ((l2).toNatClampNeg) l6) u3_byLives u4_brought u5_reached)))))))))
def wpX1_bestHabit (p1 : Int32) (v_a0_size : Int32) (v_a0_rights : Int32) (v_habits : Nat → Int32) (v_byLives : Nat → Int64) (v_brought : Nat → Int64) (v_reached : Nat → Int64) (v_a0_people : Nat → Option Nat) (pe : Pe) (post : Int32 → (Nat → Int32) → (Nat → Int64) → (Nat → Int64) → (Nat → Int64) → Prop) : Prop := wlX1_bestHabit_8 v_a0_size v_a0_rights v_a0_people pe post fu p1 0 0 0 v_habits v_byLives v_brought v_reached
abbrev miX1_bestHabit : MI := (yX1_bestHabit, cX1_bestHabit, 7, (some .int))
theorem mfX1_bestHabit : MF miX1_bestHabit 2 := ⟨t3_143, t1_6, by decide +kernel⟩
abbrev rmX1_bestHabit : Room := { frames := 5, cells := 0, slots := 0, locals := 122 }
set_option maxHeartbeats 4000000 in
set_option maxRecDepth 100000 in
theorem ccX1_bestHabit (l : Launch) (D : va_G) (cy : Nat → ClassId) (pe : Pe) (h_this : Nat) (h_a0 : Nat) (h_habits : Nat) (h_byLives : Nat) (h_brought : Nat) (h_reached : Nat) (h_a0_people : Nat) (x_means : Value) (x_a0_memories : Value) (x_a0_purses : Value) (x_a0_lives : Value) (v_firstRest : Int32) (v_a0_there : Bool) (v_a0_size : Int32) (v_a0_date : Int32) (v_a0_evening : Bool) (v_a0_well : Int32) (v_a0_rights : Int32) (v_habits : Nat → Int32) (v_byLives : Nat → Int64) (v_brought : Nat → Int64) (v_reached : Nat → Int64) (v_a0_people : Nat → Option Nat) (p1 : Int32) (post : Int32 → (Nat → Int32) → (Nat → Int64) → (Nat → Int64) → (Nat → Int64) → Prop) (hF : wpX1_bestHabit p1 v_a0_size v_a0_rights v_habits v_byLives v_brought v_reached v_a0_people pe post) : Ct l D cy miX1_bestHabit rmX1_bestHabit emI pe [.ref h_this, .ref h_a0, .int p1] [(h_this, .inr (1, [.ref h_habits, .ref h_byLives, .ref h_brought, .int v_firstRest, .ref h_reached, x_means])), (h_a0, .inr (8, [.ref h_a0_people, x_a0_memories, x_a0_purses, x_a0_lives, .int (bz v_a0_there), .int v_a0_size, .int v_a0_date, .int (bz v_a0_evening), .int v_a0_well, .int v_a0_rights])), (h_habits, .inl (cy 0, 3, .inl v_habits)), (h_byLives, .inl (cy 1, 5, .inr (.inl v_byLives))), (h_brought, .inl (cy 1, 3, .inr (.inl v_brought))), (h_reached, .inl (cy 1, 8, .inr (.inl v_reached))), (h_a0_people, .inl (cy 3, 3, .inr (.inr (.inr (.inr v_a0_people)))))] (fun r w1 => ∃ (w_habits : Nat → Int32) (w_byLives : Nat → Int64) (w_brought : Nat → Int64) (w_reached : Nat → Int64), w1 = [(h_this, .inr (1, [.ref h_habits, .ref h_byLives, .ref h_brought, .int v_firstRest, .ref h_reached, x_means])), (h_a0, .inr (8, [.ref h_a0_people, x_a0_memories, x_a0_purses, x_a0_lives, .int (bz v_a0_there), .int v_a0_size, .int v_a0_date, .int (bz v_a0_evening), .int v_a0_well, .int v_a0_rights])), (h_habits, .inl (cy 0, 3, .inl w_habits)), (h_byLives, .inl (cy 1, 5, .inr (.inl w_byLives))), (h_brought, .inl (cy 1, 3, .inr (.inl w_brought))), (h_reached, .inl (cy 1, 8, .inr (.inl w_reached))), (h_a0_people, .inl (cy 3, 3, .inr (.inr (.inr (.inr v_a0_people)))))] ∧ post r w_habits w_byLives w_brought w_reached) := by
  refine Ct.of (by decide) (Nat.le_of_ble_eq_true rfl) ?_
  intro p e s m args below meth c A ls Q C hQ hA hI hP hD hS hl
  obtain ⟨hx, hb, hr, hml, hown, hts, hK, hlk, hnm⟩ := id C
  have hb : c.code = cX1_bestHabit := hb
  have hml : c.maxLocals = 7 := hml
  have hown : s.vm.findClass RX1 = some m.cls := hown
  have hl : lv_has ls 7 [(0, .ref h_this), (1, .ref h_a0), (2, .int p1)] := hl
  have L_8 : ∀ (n_8 : Nat) (l2 : Int32) (l3 : Int32) (l4 : Int64) (l6 : Int32) (w_habits : Nat → Int32) (w_byLives : Nat → Int64) (w_brought : Nat → Int64) (w_reached : Nat → Int64) (H : Heap) (locs : List Loc) (ls : Array Slot), va_P D CL [(h_this, .inr (1, [.ref h_habits, .ref h_byLives, .ref h_brought, .int v_firstRest, .ref h_reached, x_means])), (h_a0, .inr (8, [.ref h_a0_people, x_a0_memories, x_a0_purses, x_a0_lives, .int (bz v_a0_there), .int v_a0_size, .int v_a0_date, .int (bz v_a0_evening), .int v_a0_well, .int v_a0_rights])), (h_habits, .inl (cy 0, 3, .inl w_habits)), (h_byLives, .inl (cy 1, 5, .inr (.inl w_byLives))), (h_brought, .inl (cy 1, 3, .inr (.inl w_brought))), (h_reached, .inl (cy 1, 8, .inr (.inl w_reached))), (h_a0_people, .inl (cy 3, 3, .inr (.inr (.inr (.inr v_a0_people)))))] H → va_D A [(h_this, .inr (1, [.ref h_habits, .ref h_byLives, .ref h_brought, .int v_firstRest, .ref h_reached, x_means])), (h_a0, .inr (8, [.ref h_a0_people, x_a0_memories, x_a0_purses, x_a0_lives, .int (bz v_a0_there), .int v_a0_size, .int v_a0_date, .int (bz v_a0_evening), .int v_a0_well, .int v_a0_rights])), (h_habits, .inl (cy 0, 3, .inl w_habits)), (h_byLives, .inl (cy 1, 5, .inr (.inl w_byLives))), (h_brought, .inl (cy 1, 3, .inr (.inl w_brought))), (h_reached, .inl (cy 1, 8, .inr (.inl w_reached))), (h_a0_people, .inl (cy 3, 3, .inr (.inr (.inr (.inr v_a0_people)))))] → va_S A s.heap H locs → lv_has ls 7 [(0, .ref h_this), (1, .ref h_a0), (2, .int l2), (3, .int l3), (4, .long l4), (6, .int l6)] → wlX1_bestHabit_8 v_a0_size v_a0_rights v_a0_people pe post n_8 l2 l3 l4 l6 w_habits w_byLives w_brought w_reached → W p l e rmX1_bestHabit s m args below meth c H locs 0 0 Q (F0 m 8 ls []) := by
    intro n_8
    induction n_8 with
    | zero =>
      intro l2 l3 l4 l6 w_habits w_byLives w_brought w_reached H locs ls  hP hD hS hl hF
      simp only [wlX1_bestHabit_8] at hF
    | succ n_8 ih_8 =>
      have J_55 : ∀ (l2 : Int32) (l3 : Int32) (l4 : Int64) (l6 : Int32) (w_habits : Nat → Int32) (w_byLives : Nat → Int64) (w_brought : Nat → Int64) (w_reached : Nat → Int64) (H : Heap) (locs : List Loc) (ls : Array Slot), va_P D CL [(h_this, .inr (1, [.ref h_habits, .ref h_byLives, .ref h_brought, .int v_firstRest, .ref h_reached, x_means])), (h_a0, .inr (8, [.ref h_a0_people, x_a0_memories, x_a0_purses, x_a0_lives, .int (bz v_a0_there), .int v_a0_size, .int v_a0_date, .int (bz v_a0_evening), .int v_a0_well, .int v_a0_rights])), (h_habits, .inl (cy 0, 3, .inl w_habits)), (h_byLives, .inl (cy 1, 5, .inr (.inl w_byLives))), (h_brought, .inl (cy 1, 3, .inr (.inl w_brought))), (h_reached, .inl (cy 1, 8, .inr (.inl w_reached))), (h_a0_people, .inl (cy 3, 3, .inr (.inr (.inr (.inr v_a0_people)))))] H → va_D A [(h_this, .inr (1, [.ref h_habits, .ref h_byLives, .ref h_brought, .int v_firstRest, .ref h_reached, x_means])), (h_a0, .inr (8, [.ref h_a0_people, x_a0_memories, x_a0_purses, x_a0_lives, .int (bz v_a0_there), .int v_a0_size, .int v_a0_date, .int (bz v_a0_evening), .int v_a0_well, .int v_a0_rights])), (h_habits, .inl (cy 0, 3, .inl w_habits)), (h_byLives, .inl (cy 1, 5, .inr (.inl w_byLives))), (h_brought, .inl (cy 1, 3, .inr (.inl w_brought))), (h_reached, .inl (cy 1, 8, .inr (.inl w_reached))), (h_a0_people, .inl (cy 3, 3, .inr (.inr (.inr (.inr v_a0_people)))))] → va_S A s.heap H locs → lv_has ls 7 [(0, .ref h_this), (1, .ref h_a0), (2, .int l2), (3, .int l3), (4, .long l4), (6, .int l6)] → wjX1_bestHabit_55 v_a0_size v_a0_rights v_a0_people pe post (wlX1_bestHabit_8 v_a0_size v_a0_rights v_a0_people pe post n_8) l2 l3 l4 l6 w_habits w_byLives w_brought w_reached → W p l e rmX1_bestHabit s m args below meth c H locs 0 0 Q (F0 m 55 ls []) := by
        intro l2 l3 l4 l6 w_habits w_byLives w_brought w_reached H locs ls  hP hD hS hl hF
        unfold wjX1_bestHabit_55 at hF
        refine lv_iinc (v := (l6 + 1)) (lv' := [(6, .int (l6 + 1)), (0, .ref h_this), (1, .ref h_a0), (2, .int l2), (3, .int l3), (4, .long l4)]) hx hb dX1_bestHabit_55 hl (k := 5) rfl rfl (by decide) rfl (fun ls hl => ?_)
        refine lv_goto (tgt := 8) hx hb dX1_bestHabit_58 (by decide) ?_
        exact ih_8 l2 l3 l4 (l6 + 1) w_habits w_byLives w_brought w_reached _ _ ls  hP hD hS (lv_sub hl [1, 2, 3, 4, 5, 0] rfl) hF
      have J_44 : ∀ (l2 : Int32) (l6 : Int32) (w_habits : Nat → Int32) (w_byLives : Nat → Int64) (w_brought : Nat → Int64) (w_reached : Nat → Int64) (H : Heap) (locs : List Loc) (ls : Array Slot), va_P D CL [(h_this, .inr (1, [.ref h_habits, .ref h_byLives, .ref h_brought, .int v_firstRest, .ref h_reached, x_means])), (h_a0, .inr (8, [.ref h_a0_people, x_a0_memories, x_a0_purses, x_a0_lives, .int (bz v_a0_there), .int v_a0_size, .int v_a0_date, .int (bz v_a0_evening), .int v_a0_well, .int v_a0_rights])), (h_habits, .inl (cy 0, 3, .inl w_habits)), (h_byLives, .inl (cy 1, 5, .inr (.inl w_byLives))), (h_brought, .inl (cy 1, 3, .inr (.inl w_brought))), (h_reached, .inl (cy 1, 8, .inr (.inl w_reached))), (h_a0_people, .inl (cy 3, 3, .inr (.inr (.inr (.inr v_a0_people)))))] H → va_D A [(h_this, .inr (1, [.ref h_habits, .ref h_byLives, .ref h_brought, .int v_firstRest, .ref h_reached, x_means])), (h_a0, .inr (8, [.ref h_a0_people, x_a0_memories, x_a0_purses, x_a0_lives, .int (bz v_a0_there), .int v_a0_size, .int v_a0_date, .int (bz v_a0_evening), .int v_a0_well, .int v_a0_rights])), (h_habits, .inl (cy 0, 3, .inl w_habits)), (h_byLives, .inl (cy 1, 5, .inr (.inl w_byLives))), (h_brought, .inl (cy 1, 3, .inr (.inl w_brought))), (h_reached, .inl (cy 1, 8, .inr (.inl w_reached))), (h_a0_people, .inl (cy 3, 3, .inr (.inr (.inr (.inr v_a0_people)))))] → va_S A s.heap H locs → lv_has ls 7 [(0, .ref h_this), (1, .ref h_a0), (2, .int l2), (6, .int l6)] → wjX1_bestHabit_44 v_a0_size v_a0_rights v_a0_people pe post (wlX1_bestHabit_8 v_a0_size v_a0_rights v_a0_people pe post n_8) l2 l6 w_habits w_byLives w_brought w_reached → W p l e rmX1_bestHabit s m args below meth c H locs 0 0 Q (F0 m 44 ls []) := by
        intro l2 l6 w_habits w_byLives w_brought w_reached H locs ls  hP hD hS hl hF
        unfold wjX1_bestHabit_44 at hF
        refine lv_iload hx hb dX1_bestHabit_44 (lv_at hl 3 rfl) ?_
        refine lv_istore_n (lv' := [(3, .int l6), (0, .ref h_this), (1, .ref h_a0), (2, .int l2), (6, .int l6)]) hx hb dX1_bestHabit_46 rfl hl (by decide) rfl (fun ls hl => ?_)
        refine lv_aload_n hx hb dX1_bestHabit_47 rfl (lv_at hl 1 rfl) ?_
        refine va_get (D := D) (ci := 1) (v := .ref h_brought) (C := RX1) (T := TX1) (N := 6) hx hb hts inTX1 hown hK.1 hP 0 rfl rfl 2 (by decide) (hts _ t1_136) (fun _ h9 => h9) rfl dX1_bestHabit_48 ?_
        refine lv_iload_n hx hb dX1_bestHabit_51 rfl (lv_at hl 3 rfl) ?_
        obtain ⟨hi1, hF⟩ := hF
        refine s_lald (j := (l2).toNatClampNeg) hx hb hK.1 hP 4 1 rfl rfl hi1 rfl dX1_bestHabit_52 ?_
        refine lv_lstore (lv' := [(4, .long (w_brought ((l2).toNatClampNeg))), (3, .int l6), (0, .ref h_this), (1, .ref h_a0), (2, .int l2), (6, .int l6)]) hx hb dX1_bestHabit_53 hl (by decide) rfl (fun ls hl => ?_)
        exact J_55 l2 l6 (w_brought ((l2).toNatClampNeg)) l6 w_habits w_byLives w_brought w_reached _ _ ls  hP hD hS (lv_sub hl [2, 3, 4, 1, 0, 5] rfl) hF
      intro l2 l3 l4 l6 w_habits w_byLives w_brought w_reached H locs ls  hP hD hS hl hF
      unfold wlX1_bestHabit_8 at hF
      refine lv_iload hx hb dX1_bestHabit_8 (lv_at hl 5 rfl) ?_
      refine lv_iconst (v := 3) hx hb dX1_bestHabit_10 (by decide) ?_
      refine lv_icmp_ge (tgt := 61) hx hb dX1_bestHabit_11 (by decide) (fun c_ => ?_) (fun c_ => ?_)
      · have hF := hF.1 c_
        refine lv_iload_n hx hb dX1_bestHabit_61 rfl (lv_at hl 3 rfl) ?_
        exact rt_i C hQ rfl hP hD hS ⟨w_habits, w_byLives, w_brought, w_reached, rfl, hF⟩ dX1_bestHabit_62
      · have hF := hF.2 c_
        refine lv_aload_n hx hb dX1_bestHabit_14 rfl (lv_at hl 0 rfl) ?_
        refine va_get (D := D) (ci := 1) (v := .ref h_habits) (C := RX1) (T := TX1) (N := 6) hx hb hts inTX1 hown hK.1 hP 0 rfl rfl 0 (by decide) (hts _ t1_132) (fun _ h9 => h9) rfl dX1_bestHabit_15 ?_
        refine lv_iload_n hx hb dX1_bestHabit_18 rfl (lv_at hl 2 rfl) ?_
        refine lv_iload hx hb dX1_bestHabit_19 (lv_at hl 5 rfl) ?_
        obtain ⟨hi1, hF⟩ := hF
        refine s_iast (j := (l2).toNatClampNeg) hx hb hK.1 hP hD hS 2 0 rfl rfl hi1 rfl dX1_bestHabit_21 (fun H locs hP hD hS => ?_)
        have hP : va_P D CL [(h_this, .inr (1, [.ref h_habits, .ref h_byLives, .ref h_brought, .int v_firstRest, .ref h_reached, x_means])), (h_a0, .inr (8, [.ref h_a0_people, x_a0_memories, x_a0_purses, x_a0_lives, .int (bz v_a0_there), .int v_a0_size, .int v_a0_date, .int (bz v_a0_evening), .int v_a0_well, .int v_a0_rights])), (h_habits, .inl (cy 0, 3, .inl (upd w_habits ((l2).toNatClampNeg) l6))), (h_byLives, .inl (cy 1, 5, .inr (.inl w_byLives))), (h_brought, .inl (cy 1, 3, .inr (.inl w_brought))), (h_reached, .inl (cy 1, 8, .inr (.inl w_reached))), (h_a0_people, .inl (cy 3, 3, .inr (.inr (.inr (.inr v_a0_people)))))] H := hP
        have hD : va_D A [(h_this, .inr (1, [.ref h_habits, .ref h_byLives, .ref h_brought, .int v_firstRest, .ref h_reached, x_means])), (h_a0, .inr (8, [.ref h_a0_people, x_a0_memories, x_a0_purses, x_a0_lives, .int (bz v_a0_there), .int v_a0_size, .int v_a0_date, .int (bz v_a0_evening), .int v_a0_well, .int v_a0_rights])), (h_habits, .inl (cy 0, 3, .inl (upd w_habits ((l2).toNatClampNeg) l6))), (h_byLives, .inl (cy 1, 5, .inr (.inl w_byLives))), (h_brought, .inl (cy 1, 3, .inr (.inl w_brought))), (h_reached, .inl (cy 1, 8, .inr (.inl w_reached))), (h_a0_people, .inl (cy 3, 3, .inr (.inr (.inr (.inr v_a0_people)))))] := hD
        refine lv_aload_n hx hb dX1_bestHabit_22 rfl (lv_at hl 0 rfl) ?_
        refine lv_aload_n hx hb dX1_bestHabit_23 rfl (lv_at hl 1 rfl) ?_
        refine cV_t (As := [.ref h_a0]) (wr := []) C hA hP hD hS mfX1_tell t3_83 t3_84 t3_144 (ccX1_tell l D cy pe h_this h_a0 h_byLives h_brought h_reached h_a0_people h_habits x_means x_a0_memories x_a0_purses x_a0_lives v_firstRest v_a0_there v_a0_size v_a0_date v_a0_evening v_a0_well v_a0_rights w_byLives w_brought w_reached v_a0_people (upd w_habits ((l2).toNatClampNeg) l6) _ hF) [0, 1, 3, 4, 5, 6, 2] [] rfl rfl (by decide) (by decide) (by decide) (hI.po hS hD [0, 1, 3, 4, 5, 6, 2] rfl) 0 1 rfl rfl rfl rfl hl.1 rfl (Nat.le_of_ble_eq_true rfl) dX1_bestHabit_24 ⟨Nat.le_of_ble_eq_true rfl, Nat.le_of_ble_eq_true rfl⟩ ⟨Nat.le_of_ble_eq_true rfl, Nat.le_of_ble_eq_true rfl⟩ ?_
        rintro ⟨⟩ w1 H locs ⟨u3_byLives, u4_brought, u5_reached, rfl, hF⟩ hP hD hS
        have hP : va_P D CL [(h_this, .inr (1, [.ref h_habits, .ref h_byLives, .ref h_brought, .int v_firstRest, .ref h_reached, x_means])), (h_a0, .inr (8, [.ref h_a0_people, x_a0_memories, x_a0_purses, x_a0_lives, .int (bz v_a0_there), .int v_a0_size, .int v_a0_date, .int (bz v_a0_evening), .int v_a0_well, .int v_a0_rights])), (h_byLives, .inl (cy 1, 5, .inr (.inl u3_byLives))), (h_brought, .inl (cy 1, 3, .inr (.inl u4_brought))), (h_reached, .inl (cy 1, 8, .inr (.inl u5_reached))), (h_a0_people, .inl (cy 3, 3, .inr (.inr (.inr (.inr v_a0_people))))), (h_habits, .inl (cy 0, 3, .inl (upd w_habits ((l2).toNatClampNeg) l6)))] H := hP
        have hD : va_D A [(h_this, .inr (1, [.ref h_habits, .ref h_byLives, .ref h_brought, .int v_firstRest, .ref h_reached, x_means])), (h_a0, .inr (8, [.ref h_a0_people, x_a0_memories, x_a0_purses, x_a0_lives, .int (bz v_a0_there), .int v_a0_size, .int v_a0_date, .int (bz v_a0_evening), .int v_a0_well, .int v_a0_rights])), (h_byLives, .inl (cy 1, 5, .inr (.inl u3_byLives))), (h_brought, .inl (cy 1, 3, .inr (.inl u4_brought))), (h_reached, .inl (cy 1, 8, .inr (.inl u5_reached))), (h_a0_people, .inl (cy 3, 3, .inr (.inr (.inr (.inr v_a0_people))))), (h_habits, .inl (cy 0, 3, .inl (upd w_habits ((l2).toNatClampNeg) l6)))] := hD
        refine W.eq (g2 := F0 m 27 ls []) rfl ?_
        refine lv_iload hx hb dX1_bestHabit_27 (lv_at hl 5 rfl) ?_
        refine lv_if_eq (tgt := 44) hx hb dX1_bestHabit_29 (by decide) (fun c_ => ?_) (fun c_ => ?_)
        · have hF := hF.1 c_
          exact J_44 l2 l6 (upd w_habits ((l2).toNatClampNeg) l6) u3_byLives u4_brought u5_reached _ _ ls  (hP.sub [0, 1, 6, 2, 3, 4, 5] rfl) (hD.sub [0, 1, 6, 2, 3, 4, 5] (by decide) rfl) hS (lv_sub hl [0, 1, 2, 5] rfl) hF
        · have hF := hF.2 c_
          refine lv_aload_n hx hb dX1_bestHabit_32 rfl (lv_at hl 0 rfl) ?_
          refine va_get (D := D) (ci := 1) (v := .ref h_brought) (C := RX1) (T := TX1) (N := 6) hx hb hts inTX1 hown hK.1 hP 0 rfl rfl 2 (by decide) (hts _ t1_136) (fun _ h9 => h9) rfl dX1_bestHabit_33 ?_
          refine lv_iload_n hx hb dX1_bestHabit_36 rfl (lv_at hl 2 rfl) ?_
          obtain ⟨hi6, hF⟩ := hF
          refine s_lald (j := (l2).toNatClampNeg) hx hb hK.1 hP 3 1 rfl rfl hi6 rfl dX1_bestHabit_37 ?_
          refine lv_lload hx hb dX1_bestHabit_38 (lv_at hl 4 rfl) ?_
          refine W.lcmp hx hb dX1_bestHabit_40 ?_
          refine lv_if_le (tgt := 55) hx hb dX1_bestHabit_41 (by decide) (fun c_ => ?_) (fun c_ => ?_)
          · have hF := hF.1 ((lg_cmp_le _ _).mp c_)
            exact J_55 l2 l3 l4 l6 (upd w_habits ((l2).toNatClampNeg) l6) u3_byLives u4_brought u5_reached _ _ ls  (hP.sub [0, 1, 6, 2, 3, 4, 5] rfl) (hD.sub [0, 1, 6, 2, 3, 4, 5] (by decide) rfl) hS (lv_sub hl [0, 1, 2, 3, 4, 5] rfl) hF
          · have hF := hF.2 (fun z9 => c_ ((lg_cmp_le _ _).mpr z9))
            exact J_44 l2 l6 (upd w_habits ((l2).toNatClampNeg) l6) u3_byLives u4_brought u5_reached _ _ ls  (hP.sub [0, 1, 6, 2, 3, 4, 5] rfl) (hD.sub [0, 1, 6, 2, 3, 4, 5] (by decide) rfl) hS (lv_sub hl [0, 1, 2, 5] rfl) hF
  unfold wpX1_bestHabit at hF
  refine lv_iconst (v := 0) hx hb dX1_bestHabit_0 (by decide) ?_
  refine lv_istore_n (lv' := [(3, .int 0), (0, .ref h_this), (1, .ref h_a0), (2, .int p1)]) hx hb dX1_bestHabit_1 rfl hl (by decide) rfl (fun ls hl => ?_)
  refine lv_lconst (v := 0) hx hb dX1_bestHabit_2 (by decide) ?_
  refine lv_lstore (lv' := [(4, .long 0), (3, .int 0), (0, .ref h_this), (1, .ref h_a0), (2, .int p1)]) hx hb dX1_bestHabit_3 hl (by decide) rfl (fun ls hl => ?_)
  refine lv_iconst (v := 0) hx hb dX1_bestHabit_5 (by decide) ?_
  refine lv_istore (lv' := [(6, .int 0), (4, .long 0), (3, .int 0), (0, .ref h_this), (1, .ref h_a0), (2, .int p1)]) hx hb dX1_bestHabit_6 hl (by decide) rfl (fun ls hl => ?_)
  exact L_8 fu p1 0 0 0 v_habits v_byLives v_brought v_reached _ _ ls  hP hD hS (lv_sub hl [3, 4, 5, 2, 1, 0] rfl) hF

def wlX1_stepOf_6 (post : Int32 → Prop) : Nat → Int32 → Int32 → Int32 → Prop
  | 0, _, _, _ => False
  | n + 1, l1, l2, l3 => (l1 ≤ l3 → (post l2)) ∧ (¬ l1 ≤ l3 → ((wlX1_stepOf_6 post n) l1 (l2 * 3) (l3 + 1)))
def wpX1_stepOf (p0 : Int32) (p1 : Int32) (post : Int32 → Prop) : Prop := wlX1_stepOf_6 post fu p1 1 (p0 + 1)
abbrev miX1_stepOf : MI := (yX1_stepOf, cX1_stepOf, 4, (some .int))
theorem mfX1_stepOf : MF miX1_stepOf 2 := ⟨t3_155, t1_6, by decide +kernel⟩
abbrev rmX1_stepOf : Room := { frames := 0, cells := 0, slots := 0, locals := 0 }
set_option maxHeartbeats 4000000 in
set_option maxRecDepth 100000 in
theorem ccX1_stepOf (l : Launch) (D : va_G) (cy : Nat → ClassId) (p0 : Int32) (p1 : Int32) (post : Int32 → Prop) (hF : wpX1_stepOf p0 p1 post) : Cr l D cy miX1_stepOf rmX1_stepOf emI NP [.int p0, .int p1] [] post := by
  refine Cr.of (by decide) (Nat.le_of_ble_eq_true rfl) ?_
  intro p e s m args below meth c ls Q C hQ hO hP hl
  obtain ⟨hx, hb, hr, hml, hown, hts, hK, hlk, hnm⟩ := id C
  have hb : c.code = cX1_stepOf := hb
  have hml : c.maxLocals = 4 := hml
  have hown : s.vm.findClass RX1 = some m.cls := hown
  have hl : lv_has ls 4 [(0, .int p0), (1, .int p1)] := hl
  have L_6 : ∀ (n_6 : Nat) (l1 : Int32) (l2 : Int32) (l3 : Int32) (ls : Array Slot), lv_has ls 4 [(1, .int l1), (2, .int l2), (3, .int l3)] → wlX1_stepOf_6 post n_6 l1 l2 l3 → W p l e rmX1_stepOf s m args below meth c s.heap [] 0 0 Q (F0 m 6 ls []) := by
    intro n_6
    induction n_6 with
    | zero =>
      intro l1 l2 l3 ls  hl hF
      simp only [wlX1_stepOf_6] at hF
    | succ n_6 ih_6 =>
      intro l1 l2 l3 ls  hl hF
      unfold wlX1_stepOf_6 at hF
      refine lv_iload_n hx hb dX1_stepOf_6 rfl (lv_at hl 2 rfl) ?_
      refine lv_iload_n hx hb dX1_stepOf_7 rfl (lv_at hl 0 rfl) ?_
      refine lv_icmp_ge (tgt := 21) hx hb dX1_stepOf_8 (by decide) (fun c_ => ?_) (fun c_ => ?_)
      · have hF := hF.1 c_
        refine lv_iload_n hx hb dX1_stepOf_21 rfl (lv_at hl 1 rfl) ?_
        exact rr_i C hQ rfl hF dX1_stepOf_22
      · have hF := hF.2 c_
        refine lv_iload_n hx hb dX1_stepOf_11 rfl (lv_at hl 1 rfl) ?_
        refine lv_iconst (v := 3) hx hb dX1_stepOf_12 (by decide) ?_
        refine lv_imul hx hb dX1_stepOf_13 ?_
        refine lv_istore_n (lv' := [(2, .int (l2 * 3)), (1, .int l1), (3, .int l3)]) hx hb dX1_stepOf_14 rfl hl (by decide) rfl (fun ls hl => ?_)
        refine lv_iinc (v := (l3 + 1)) (lv' := [(3, .int (l3 + 1)), (2, .int (l2 * 3)), (1, .int l1)]) hx hb dX1_stepOf_15 hl (k := 2) rfl rfl (by decide) rfl (fun ls hl => ?_)
        refine lv_goto (tgt := 6) hx hb dX1_stepOf_18 (by decide) ?_
        exact ih_6 l1 (l2 * 3) (l3 + 1) ls  (lv_sub hl [2, 1, 0] rfl) hF
  unfold wpX1_stepOf at hF
  refine lv_iconst (v := 1) hx hb dX1_stepOf_0 (by decide) ?_
  refine lv_istore_n (lv' := [(2, .int 1), (0, .int p0), (1, .int p1)]) hx hb dX1_stepOf_1 rfl hl (by decide) rfl (fun ls hl => ?_)
  refine lv_iload_n hx hb dX1_stepOf_2 rfl (lv_at hl 1 rfl) ?_
  refine lv_iconst (v := 1) hx hb dX1_stepOf_3 (by decide) ?_
  refine lv_iadd hx hb dX1_stepOf_4 ?_
  refine lv_istore_n (lv' := [(3, .int (p0 + 1)), (2, .int 1), (0, .int p0), (1, .int p1)]) hx hb dX1_stepOf_5 rfl hl (by decide) rfl (fun ls hl => ?_)
  exact L_6 fu p1 1 (p0 + 1) ls  (lv_sub hl [3, 1, 0] rfl) hF

def wpX1_habitIn (p0 : Int32) (p1 : Int32) (p2 : Int32) (post : Int32 → Prop) : Prop := wpX1_stepOf p1 p2 (fun r1 => ¬ r1 = 0 ∧ (post ((p0 / r1) - (p0 / r1) / 3 * 3)))
abbrev miX1_habitIn : MI := (yX1_habitIn, cX1_habitIn, 3, (some .int))
theorem mfX1_habitIn : MF miX1_habitIn 3 := ⟨t3_158, t1_6, by decide +kernel⟩
abbrev rmX1_habitIn : Room := { frames := 1, cells := 0, slots := 0, locals := 23 }
set_option maxHeartbeats 4000000 in
set_option maxRecDepth 100000 in
theorem ccX1_habitIn (l : Launch) (D : va_G) (cy : Nat → ClassId) (p0 : Int32) (p1 : Int32) (p2 : Int32) (post : Int32 → Prop) (hF : wpX1_habitIn p0 p1 p2 post) : Cr l D cy miX1_habitIn rmX1_habitIn emI NP [.int p0, .int p1, .int p2] [] post := by
  refine Cr.of (by decide) (Nat.le_of_ble_eq_true rfl) ?_
  intro p e s m args below meth c ls Q C hQ hO hP hl
  obtain ⟨hx, hb, hr, hml, hown, hts, hK, hlk, hnm⟩ := id C
  have hb : c.code = cX1_habitIn := hb
  have hml : c.maxLocals = 3 := hml
  have hown : s.vm.findClass RX1 = some m.cls := hown
  have hl : lv_has ls 3 [(0, .int p0), (1, .int p1), (2, .int p2)] := hl
  unfold wpX1_habitIn at hF
  refine lv_iload_n hx hb dX1_habitIn_0 rfl (lv_at hl 0 rfl) ?_
  refine lv_iload_n hx hb dX1_habitIn_1 rfl (lv_at hl 1 rfl) ?_
  refine lv_iload_n hx hb dX1_habitIn_2 rfl (lv_at hl 2 rfl) ?_
  refine cS_r (As := [.int p1, .int p2]) C mfX1_stepOf t3_154 t3_153 (ccX1_stepOf l D cy p1 p2 _ hF) rfl rfl (hP.sub [] rfl) PR.np rfl hl.1 rfl (Nat.le_of_ble_eq_true rfl) dX1_habitIn_3 ⟨Nat.le_of_ble_eq_true rfl, Nat.le_of_ble_eq_true rfl⟩ ⟨Nat.le_of_ble_eq_true rfl, Nat.le_of_ble_eq_true rfl⟩ ?_
  intro r1 hF
  refine W.eq (g2 := F0 m 6 ls [.int r1, .int p0]) rfl ?_
  obtain ⟨hz2, hF⟩ := hF
  refine lv_idiv hx hb dX1_habitIn_6 hz2 ?_
  refine lv_iconst (v := 3) hx hb dX1_habitIn_7 (by decide) ?_
  refine lv_irem hx hb dX1_habitIn_8 (by decide) ?_
  exact rr_i C hQ rfl hF dX1_habitIn_9

def wlX1_isRest_30 (v_means : Nat → Int64) (post : Bool → Prop) (K_2 : Int32 → Int32 → Int32 → Prop) : Nat → Int32 → Int32 → Int32 → Int32 → Int32 → Int32 → Prop
  | 0, _, _, _, _, _, _ => False
  | n + 1, l1, l2, l3, l4, l5, l6 => (3 ≤ l6 → (K_2 l1 l2 (l3 + 1))) ∧ (¬ 3 ≤ l6 → (vp_in (((l5 + (l6 * l4)) * 3) + l3) 81 ∧ (vp_in ((l1 * 3) + l3) 81 ∧ (((v_means (((((l5 + (l6 * l4)) * 3) + l3)).toNatClampNeg)) ≤ (v_means ((((l1 * 3) + l3)).toNatClampNeg)) → ((wlX1_isRest_30 v_means post K_2 n) l1 l2 l3 l4 l5 (l6 + 1))) ∧ (¬ (v_means (((((l5 + (l6 * l4)) * 3) + l3)).toNatClampNeg)) ≤ (v_means ((((l1 * 3) + l3)).toNatClampNeg)) → (post false))))))
def wlX1_isRest_2 (v_means : Nat → Int64) (post : Bool → Prop) : Nat → Int32 → Int32 → Int32 → Prop
  | 0, _, _, _ => False
  | n + 1, l1, l2, l3 => (l2 ≤ l3 → (post true)) ∧ (¬ l2 ≤ l3 → (wpX1_stepOf l3 l2 (fun r1 => wpX1_habitIn l1 l3 l2 (fun r2 => wlX1_isRest_30 v_means post (wlX1_isRest_2 v_means post n) fu l1 l2 l3 r1 (l1 - (r2 * r1)) 0))))
def wpX1_isRest (p0 : Int32) (p1 : Int32) (v_means : Nat → Int64) (post : Bool → Prop) : Prop := wlX1_isRest_2 v_means post fu p0 p1 0
abbrev miX1_isRest : MI := (yX1_isRest, cX1_isRest, 8, (some .boolean))
theorem mfX1_isRest : MF miX1_isRest 2 := ⟨t3_163, t1_6, by decide +kernel⟩
abbrev rmX1_isRest : Room := { frames := 2, cells := 0, slots := 0, locals := 45 }
set_option maxHeartbeats 4000000 in
set_option maxRecDepth 100000 in
theorem ccX1_isRest (l : Launch) (D : va_G) (cy : Nat → ClassId) (h_this : Nat) (h_means : Nat) (x_habits : Value) (x_byLives : Value) (x_brought : Value) (x_reached : Value) (v_firstRest : Int32) (v_means : Nat → Int64) (p0 : Int32) (p1 : Int32) (post : Bool → Prop) (hF : wpX1_isRest p0 p1 v_means post) : Cr l D cy miX1_isRest rmX1_isRest emB NP [.ref h_this, .int p0, .int p1] [(h_this, .inr (1, [x_habits, x_byLives, x_brought, .int v_firstRest, x_reached, .ref h_means])), (h_means, .inl (cy 1, 81, .inr (.inl v_means)))] post := by
  refine Cr.of (by decide) (Nat.le_of_ble_eq_true rfl) ?_
  intro p e s m args below meth c ls Q C hQ hO hP hl
  obtain ⟨hx, hb, hr, hml, hown, hts, hK, hlk, hnm⟩ := id C
  have hb : c.code = cX1_isRest := hb
  have hml : c.maxLocals = 8 := hml
  have hown : s.vm.findClass RX1 = some m.cls := hown
  have hl : lv_has ls 8 [(0, .ref h_this), (1, .int p0), (2, .int p1)] := hl
  have L_2 : ∀ (n_2 : Nat) (l1 : Int32) (l2 : Int32) (l3 : Int32) (ls : Array Slot), lv_has ls 8 [(0, .ref h_this), (1, .int l1), (2, .int l2), (3, .int l3)] → wlX1_isRest_2 v_means post n_2 l1 l2 l3 → W p l e rmX1_isRest s m args below meth c s.heap [] 0 0 Q (F0 m 2 ls []) := by
    intro n_2
    induction n_2 with
    | zero =>
      intro l1 l2 l3 ls  hl hF
      simp only [wlX1_isRest_2] at hF
    | succ n_2 ih_2 =>
      have L_30 : ∀ (n_30 : Nat) (l1 : Int32) (l2 : Int32) (l3 : Int32) (l4 : Int32) (l5 : Int32) (l6 : Int32) (ls : Array Slot), lv_has ls 8 [(0, .ref h_this), (1, .int l1), (2, .int l2), (3, .int l3), (4, .int l4), (5, .int l5), (6, .int l6)] → wlX1_isRest_30 v_means post (wlX1_isRest_2 v_means post n_2) n_30 l1 l2 l3 l4 l5 l6 → W p l e rmX1_isRest s m args below meth c s.heap [] 0 0 Q (F0 m 30 ls []) := by
        intro n_30
        induction n_30 with
        | zero =>
          intro l1 l2 l3 l4 l5 l6 ls  hl hF
          simp only [wlX1_isRest_30] at hF
        | succ n_30 ih_30 =>
          intro l1 l2 l3 l4 l5 l6 ls  hl hF
          unfold wlX1_isRest_30 at hF
          refine lv_iload hx hb dX1_isRest_30 (lv_at hl 6 rfl) ?_
          refine lv_iconst (v := 3) hx hb dX1_isRest_32 (by decide) ?_
          refine lv_icmp_ge (tgt := 79) hx hb dX1_isRest_33 (by decide) (fun c_ => ?_) (fun c_ => ?_)
          · have hF := hF.1 c_
            refine lv_iinc (v := (l3 + 1)) (lv' := [(3, .int (l3 + 1)), (0, .ref h_this), (1, .int l1), (2, .int l2), (4, .int l4), (5, .int l5), (6, .int l6)]) hx hb dX1_isRest_79 hl (k := 3) rfl rfl (by decide) rfl (fun ls hl => ?_)
            refine lv_goto (tgt := 2) hx hb dX1_isRest_82 (by decide) ?_
            exact ih_2 l1 l2 (l3 + 1) ls  (lv_sub hl [1, 2, 3, 0] rfl) hF
          · have hF := hF.2 c_
            refine lv_iload hx hb dX1_isRest_36 (lv_at hl 5 rfl) ?_
            refine lv_iload hx hb dX1_isRest_38 (lv_at hl 6 rfl) ?_
            refine lv_iload hx hb dX1_isRest_40 (lv_at hl 4 rfl) ?_
            refine lv_imul hx hb dX1_isRest_42 ?_
            refine lv_iadd hx hb dX1_isRest_43 ?_
            refine lv_istore (lv' := [(7, .int (l5 + (l6 * l4))), (0, .ref h_this), (1, .int l1), (2, .int l2), (3, .int l3), (4, .int l4), (5, .int l5), (6, .int l6)]) hx hb dX1_isRest_44 hl (by decide) rfl (fun ls hl => ?_)
            refine lv_aload_n hx hb dX1_isRest_46 rfl (lv_at hl 1 rfl) ?_
            refine va_get (D := D) (ci := 1) (v := .ref h_means) (C := RX1) (T := TX1) (N := 6) hx hb hts inTX1 hown hK.1 hP 0 rfl rfl 5 (by decide) (hts _ t1_141) (fun _ h9 => h9) rfl dX1_isRest_47 ?_
            refine lv_iload hx hb dX1_isRest_50 (lv_at hl 0 rfl) ?_
            refine lv_iconst (v := 3) hx hb dX1_isRest_52 (by decide) ?_
            refine lv_imul hx hb dX1_isRest_53 ?_
            refine lv_iload_n hx hb dX1_isRest_54 rfl (lv_at hl 4 rfl) ?_
            refine lv_iadd hx hb dX1_isRest_55 ?_
            obtain ⟨hi1, hF⟩ := hF
            refine s_lald (j := ((((l5 + (l6 * l4)) * 3) + l3)).toNatClampNeg) hx hb hK.1 hP 1 1 rfl rfl hi1 rfl dX1_isRest_56 ?_
            refine lv_aload_n hx hb dX1_isRest_57 rfl (lv_at hl 1 rfl) ?_
            refine va_get (D := D) (ci := 1) (v := .ref h_means) (C := RX1) (T := TX1) (N := 6) hx hb hts inTX1 hown hK.1 hP 0 rfl rfl 5 (by decide) (hts _ t1_141) (fun _ h9 => h9) rfl dX1_isRest_58 ?_
            refine lv_iload_n hx hb dX1_isRest_61 rfl (lv_at hl 2 rfl) ?_
            refine lv_iconst (v := 3) hx hb dX1_isRest_62 (by decide) ?_
            refine lv_imul hx hb dX1_isRest_63 ?_
            refine lv_iload_n hx hb dX1_isRest_64 rfl (lv_at hl 4 rfl) ?_
            refine lv_iadd hx hb dX1_isRest_65 ?_
            obtain ⟨hi2, hF⟩ := hF
            refine s_lald (j := (((l1 * 3) + l3)).toNatClampNeg) hx hb hK.1 hP 1 1 rfl rfl hi2 rfl dX1_isRest_66 ?_
            refine W.lcmp hx hb dX1_isRest_67 ?_
            refine lv_if_le (tgt := 73) hx hb dX1_isRest_68 (by decide) (fun c_ => ?_) (fun c_ => ?_)
            · have hF := hF.1 ((lg_cmp_le _ _).mp c_)
              refine lv_iinc (v := (l6 + 1)) (lv' := [(6, .int (l6 + 1)), (7, .int (l5 + (l6 * l4))), (0, .ref h_this), (1, .int l1), (2, .int l2), (3, .int l3), (4, .int l4), (5, .int l5)]) hx hb dX1_isRest_73 hl (k := 7) rfl rfl (by decide) rfl (fun ls hl => ?_)
              refine lv_goto (tgt := 30) hx hb dX1_isRest_76 (by decide) ?_
              exact ih_30 l1 l2 l3 l4 l5 (l6 + 1) ls  (lv_sub hl [2, 3, 4, 5, 6, 7, 0] rfl) hF
            · have hF := hF.2 (fun z9 => c_ ((lg_cmp_le _ _).mpr z9))
              refine lv_iconst (v := 0) hx hb dX1_isRest_71 (by decide) ?_
              refine W.eq (g2 := F0 m 72 ls [.int (bz false)]) rfl ?_
              exact rr_b C hQ rfl hF dX1_isRest_72
      intro l1 l2 l3 ls  hl hF
      unfold wlX1_isRest_2 at hF
      refine lv_iload_n hx hb dX1_isRest_2 rfl (lv_at hl 3 rfl) ?_
      refine lv_iload_n hx hb dX1_isRest_3 rfl (lv_at hl 2 rfl) ?_
      refine lv_icmp_ge (tgt := 85) hx hb dX1_isRest_4 (by decide) (fun c_ => ?_) (fun c_ => ?_)
      · have hF := hF.1 c_
        refine lv_iconst (v := 1) hx hb dX1_isRest_85 (by decide) ?_
        refine W.eq (g2 := F0 m 86 ls [.int (bz true)]) rfl ?_
        exact rr_b C hQ rfl hF dX1_isRest_86
      · have hF := hF.2 c_
        refine lv_iload_n hx hb dX1_isRest_7 rfl (lv_at hl 3 rfl) ?_
        refine lv_iload_n hx hb dX1_isRest_8 rfl (lv_at hl 2 rfl) ?_
        refine cS_r (As := [.int l3, .int l2]) C mfX1_stepOf t3_154 t3_153 (ccX1_stepOf l D cy l3 l2 _ hF) rfl rfl (hP.sub [] rfl) PR.np rfl hl.1 rfl (Nat.le_of_ble_eq_true rfl) dX1_isRest_9 ⟨Nat.le_of_ble_eq_true rfl, Nat.le_of_ble_eq_true rfl⟩ ⟨Nat.le_of_ble_eq_true rfl, Nat.le_of_ble_eq_true rfl⟩ ?_
        intro r1 hF
        refine W.eq (g2 := F0 m 12 ls [.int r1]) rfl ?_
        refine lv_istore (lv' := [(4, .int r1), (0, .ref h_this), (1, .int l1), (2, .int l2), (3, .int l3)]) hx hb dX1_isRest_12 hl (by decide) rfl (fun ls hl => ?_)
        refine lv_iload_n hx hb dX1_isRest_14 rfl (lv_at hl 2 rfl) ?_
        refine lv_iload_n hx hb dX1_isRest_15 rfl (lv_at hl 2 rfl) ?_
        refine lv_iload_n hx hb dX1_isRest_16 rfl (lv_at hl 4 rfl) ?_
        refine lv_iload_n hx hb dX1_isRest_17 rfl (lv_at hl 3 rfl) ?_
        refine cS_r (As := [.int l1, .int l3, .int l2]) C mfX1_habitIn t3_157 t3_156 (ccX1_habitIn l D cy l1 l3 l2 _ hF) rfl rfl (hP.sub [] rfl) PR.np rfl hl.1 rfl (Nat.le_of_ble_eq_true rfl) dX1_isRest_18 ⟨Nat.le_of_ble_eq_true rfl, Nat.le_of_ble_eq_true rfl⟩ ⟨Nat.le_of_ble_eq_true rfl, Nat.le_of_ble_eq_true rfl⟩ ?_
        intro r2 hF
        refine W.eq (g2 := F0 m 21 ls [.int r2, .int l1]) rfl ?_
        refine lv_iload hx hb dX1_isRest_21 (lv_at hl 0 rfl) ?_
        refine lv_imul hx hb dX1_isRest_23 ?_
        refine lv_isub hx hb dX1_isRest_24 ?_
        refine lv_istore (lv' := [(5, .int (l1 - (r2 * r1))), (4, .int r1), (0, .ref h_this), (1, .int l1), (2, .int l2), (3, .int l3)]) hx hb dX1_isRest_25 hl (by decide) rfl (fun ls hl => ?_)
        refine lv_iconst (v := 0) hx hb dX1_isRest_27 (by decide) ?_
        refine lv_istore (lv' := [(6, .int 0), (5, .int (l1 - (r2 * r1))), (4, .int r1), (0, .ref h_this), (1, .int l1), (2, .int l2), (3, .int l3)]) hx hb dX1_isRest_28 hl (by decide) rfl (fun ls hl => ?_)
        exact L_30 fu l1 l2 l3 r1 (l1 - (r2 * r1)) 0 ls  (lv_sub hl [3, 4, 5, 6, 2, 1, 0] rfl) hF
  unfold wpX1_isRest at hF
  refine lv_iconst (v := 0) hx hb dX1_isRest_0 (by decide) ?_
  refine lv_istore_n (lv' := [(3, .int 0), (0, .ref h_this), (1, .int p0), (2, .int p1)]) hx hb dX1_isRest_1 rfl hl (by decide) rfl (fun ls hl => ?_)
  exact L_2 fu p0 p1 0 ls  (lv_sub hl [1, 2, 3, 0] rfl) hF

def wjX1_findRests_112 (v_a0_size : Int32) (v_a0_rights : Int32) (v_a0_people : Nat → Option Nat) (pe : Pe) (post : Int32 → Int32 → (Nat → Int64) → (Nat → Int64) → (Nat → Int64) → (Nat → Int64) → (Nat → Int32) → Prop) (K_85 : Int32 → Int32 → Int32 → (Nat → Int64) → (Nat → Int64) → (Nat → Int64) → (Nat → Int64) → (Nat → Int32) → Prop) (l3 : Int32) (l4 : Int32) (w_firstRest : Int32) (w_means : Nat → Int64) (w_byLives : Nat → Int64) (w_brought : Nat → Int64) (w_reached : Nat → Int64) (w_habits : Nat → Int32) : Prop := K_85 l3 (l4 + (-1)) w_firstRest w_means w_byLives w_brought w_reached w_habits
def wlX1_findRests_85 (v_a0_size : Int32) (v_a0_rights : Int32) (v_a0_people : Nat → Option Nat) (pe : Pe) (post : Int32 → Int32 → (Nat → Int64) → (Nat → Int64) → (Nat → Int64) → (Nat → Int64) → (Nat → Int32) → Prop) : Nat → Int32 → Int32 → Int32 → (Nat → Int64) → (Nat → Int64) → (Nat → Int64) → (Nat → Int64) → (Nat → Int32) → Prop
  | 0, _, _, _, _, _, _, _, _ => False
  | n + 1, l3, l4, w_firstRest, w_means, w_byLives, w_brought, w_reached, w_habits => (l4 < 0 → (post l3 w_firstRest w_means w_byLives w_brought w_reached w_habits)) ∧ (¬ l4 < 0 → (wpX1_isRest l4 v_a0_size w_means (fun r1 => (r1 = false → (wjX1_findRests_112 v_a0_size v_a0_rights v_a0_people pe post (wlX1_findRests_85 v_a0_size v_a0_rights v_a0_people pe post n) l3 l4 w_firstRest w_means w_byLives w_brought w_reached w_habits)) ∧ (r1 = true → (wjX1_findRests_112 v_a0_size v_a0_rights v_a0_people pe post (wlX1_findRests_85 v_a0_size v_a0_rights v_a0_people pe post n) (l3 + 1) l4 l4 w_means w_byLives w_brought w_reached w_habits)))))
def wlX1_findRests_19 (v_a0_size : Int32) (v_a0_rights : Int32) (v_a0_people : Nat → Option Nat) (pe : Pe) (post : Int32 → Int32 → (Nat → Int64) → (Nat → Int64) → (Nat → Int64) → (Nat → Int64) → (Nat → Int32) → Prop) (K_11 : Int32 → Int32 → Int32 → (Nat → Int64) → (Nat → Int64) → (Nat → Int64) → (Nat → Int64) → (Nat → Int32) → Prop) : Nat → Int32 → Int32 → Int32 → Int32 → (Nat → Int64) → (Nat → Int64) → (Nat → Int64) → (Nat → Int64) → (Nat → Int32) → Prop
  | 0, _, _, _, _, _, _, _, _, _ => False
  | n + 1, l2, l3, l4, w_firstRest, w_means, w_byLives, w_brought, w_reached, w_habits => (v_a0_size ≤ l4 → (wpX1_tell v_a0_size v_a0_rights w_byLives w_brought w_reached v_a0_people w_habits pe (fun _ u2_byLives u3_brought u4_reached => ¬ (l3 * 3) < 0 ∧ ((l3 * 3) : Int32).toNatClampNeg + (3 : Int32).toNatClampNeg ≤ 81 ∧ (K_11 l2 (l3 + 1) w_firstRest (va_cpy u3_brought w_means (0 : Int32).toNatClampNeg ((l3 * 3) : Int32).toNatClampNeg (3 : Int32).toNatClampNeg) u2_byLives u3_brought u4_reached w_habits)))) ∧ (¬ v_a0_size ≤ l4 → (wpX1_habitIn l3 l4 v_a0_size (fun r7 => vp_in l4 3 ∧ ((wlX1_findRests_19 v_a0_size v_a0_rights v_a0_people pe post K_11 n) l2 l3 (l4 + 1) w_firstRest w_means w_byLives w_brought w_reached (upd w_habits ((l4).toNatClampNeg) r7)))))
def wlX1_findRests_11 (v_a0_size : Int32) (v_a0_rights : Int32) (v_a0_people : Nat → Option Nat) (pe : Pe) (post : Int32 → Int32 → (Nat → Int64) → (Nat → Int64) → (Nat → Int64) → (Nat → Int64) → (Nat → Int32) → Prop) : Nat → Int32 → Int32 → Int32 → (Nat → Int64) → (Nat → Int64) → (Nat → Int64) → (Nat → Int64) → (Nat → Int32) → Prop
  | 0, _, _, _, _, _, _, _, _ => False
  | n + 1, l2, l3, w_firstRest, w_means, w_byLives, w_brought, w_reached, w_habits => (l2 ≤ l3 → (wlX1_findRests_85 v_a0_size v_a0_rights v_a0_people pe post fu 0 (l2 - 1) w_firstRest w_means w_byLives w_brought w_reached w_habits)) ∧ (¬ l2 ≤ l3 → (wlX1_findRests_19 v_a0_size v_a0_rights v_a0_people pe post (wlX1_findRests_11 v_a0_size v_a0_rights v_a0_people pe post n) fu l2 l3 0 w_firstRest w_means w_byLives w_brought w_reached w_habits))
def wpX1_findRests (v_firstRest : Int32) (v_a0_size : Int32) (v_a0_rights : Int32) (v_means : Nat → Int64) (v_byLives : Nat → Int64) (v_brought : Nat → Int64) (v_reached : Nat → Int64) (v_a0_people : Nat → Option Nat) (v_habits : Nat → Int32) (pe : Pe) (post : Int32 → Int32 → (Nat → Int64) → (Nat → Int64) → (Nat → Int64) → (Nat → Int64) → (Nat → Int32) → Prop) : Prop := wpX1_stepOf (-1) v_a0_size (fun r1 => wlX1_findRests_11 v_a0_size v_a0_rights v_a0_people pe post fu r1 0 v_firstRest v_means v_byLives v_brought v_reached v_habits)
abbrev miX1_findRests : MI := (yX1_findRests, cX1_findRests, 5, (some .int))
theorem mfX1_findRests : MF miX1_findRests 1 := ⟨t3_152, t1_6, by decide +kernel⟩
abbrev rmX1_findRests : Room := { frames := 5, cells := 0, slots := 0, locals := 122 }
set_option maxHeartbeats 4000000 in
set_option maxRecDepth 100000 in
theorem ccX1_findRests (l : Launch) (D : va_G) (cy : Nat → ClassId) (pe : Pe) (h_this : Nat) (h_a0 : Nat) (h_means : Nat) (h_byLives : Nat) (h_brought : Nat) (h_reached : Nat) (h_a0_people : Nat) (h_habits : Nat) (x_a0_memories : Value) (x_a0_purses : Value) (x_a0_lives : Value) (v_firstRest : Int32) (v_a0_there : Bool) (v_a0_size : Int32) (v_a0_date : Int32) (v_a0_evening : Bool) (v_a0_well : Int32) (v_a0_rights : Int32) (v_means : Nat → Int64) (v_byLives : Nat → Int64) (v_brought : Nat → Int64) (v_reached : Nat → Int64) (v_a0_people : Nat → Option Nat) (v_habits : Nat → Int32) (post : Int32 → Int32 → (Nat → Int64) → (Nat → Int64) → (Nat → Int64) → (Nat → Int64) → (Nat → Int32) → Prop) (hF : wpX1_findRests v_firstRest v_a0_size v_a0_rights v_means v_byLives v_brought v_reached v_a0_people v_habits pe post) : Ct l D cy miX1_findRests rmX1_findRests emI pe [.ref h_this, .ref h_a0] [(h_this, .inr (1, [.ref h_habits, .ref h_byLives, .ref h_brought, .int v_firstRest, .ref h_reached, .ref h_means])), (h_a0, .inr (8, [.ref h_a0_people, x_a0_memories, x_a0_purses, x_a0_lives, .int (bz v_a0_there), .int v_a0_size, .int v_a0_date, .int (bz v_a0_evening), .int v_a0_well, .int v_a0_rights])), (h_means, .inl (cy 1, 81, .inr (.inl v_means))), (h_byLives, .inl (cy 1, 5, .inr (.inl v_byLives))), (h_brought, .inl (cy 1, 3, .inr (.inl v_brought))), (h_reached, .inl (cy 1, 8, .inr (.inl v_reached))), (h_a0_people, .inl (cy 3, 3, .inr (.inr (.inr (.inr v_a0_people))))), (h_habits, .inl (cy 0, 3, .inl v_habits))] (fun r w1 => ∃ (w_firstRest : Int32) (w_means : Nat → Int64) (w_byLives : Nat → Int64) (w_brought : Nat → Int64) (w_reached : Nat → Int64) (w_habits : Nat → Int32), w1 = [(h_this, .inr (1, [.ref h_habits, .ref h_byLives, .ref h_brought, .int w_firstRest, .ref h_reached, .ref h_means])), (h_a0, .inr (8, [.ref h_a0_people, x_a0_memories, x_a0_purses, x_a0_lives, .int (bz v_a0_there), .int v_a0_size, .int v_a0_date, .int (bz v_a0_evening), .int v_a0_well, .int v_a0_rights])), (h_means, .inl (cy 1, 81, .inr (.inl w_means))), (h_byLives, .inl (cy 1, 5, .inr (.inl w_byLives))), (h_brought, .inl (cy 1, 3, .inr (.inl w_brought))), (h_reached, .inl (cy 1, 8, .inr (.inl w_reached))), (h_a0_people, .inl (cy 3, 3, .inr (.inr (.inr (.inr v_a0_people))))), (h_habits, .inl (cy 0, 3, .inl w_habits))] ∧ post r w_firstRest w_means w_byLives w_brought w_reached w_habits) := by
  refine Ct.of (by decide) (Nat.le_of_ble_eq_true rfl) ?_
  intro p e s m args below meth c A ls Q C hQ hA hI hP hD hS hl
  obtain ⟨hx, hb, hr, hml, hown, hts, hK, hlk, hnm⟩ := id C
  have hb : c.code = cX1_findRests := hb
  have hml : c.maxLocals = 5 := hml
  have hown : s.vm.findClass RX1 = some m.cls := hown
  have hl : lv_has ls 5 [(0, .ref h_this), (1, .ref h_a0)] := hl
  have L_85 : ∀ (n_85 : Nat) (l3 : Int32) (l4 : Int32) (w_firstRest : Int32) (w_means : Nat → Int64) (w_byLives : Nat → Int64) (w_brought : Nat → Int64) (w_reached : Nat → Int64) (w_habits : Nat → Int32) (H : Heap) (locs : List Loc) (ls : Array Slot), va_P D CL [(h_this, .inr (1, [.ref h_habits, .ref h_byLives, .ref h_brought, .int w_firstRest, .ref h_reached, .ref h_means])), (h_a0, .inr (8, [.ref h_a0_people, x_a0_memories, x_a0_purses, x_a0_lives, .int (bz v_a0_there), .int v_a0_size, .int v_a0_date, .int (bz v_a0_evening), .int v_a0_well, .int v_a0_rights])), (h_means, .inl (cy 1, 81, .inr (.inl w_means))), (h_byLives, .inl (cy 1, 5, .inr (.inl w_byLives))), (h_brought, .inl (cy 1, 3, .inr (.inl w_brought))), (h_reached, .inl (cy 1, 8, .inr (.inl w_reached))), (h_a0_people, .inl (cy 3, 3, .inr (.inr (.inr (.inr v_a0_people))))), (h_habits, .inl (cy 0, 3, .inl w_habits))] H → va_D A [(h_this, .inr (1, [.ref h_habits, .ref h_byLives, .ref h_brought, .int w_firstRest, .ref h_reached, .ref h_means])), (h_a0, .inr (8, [.ref h_a0_people, x_a0_memories, x_a0_purses, x_a0_lives, .int (bz v_a0_there), .int v_a0_size, .int v_a0_date, .int (bz v_a0_evening), .int v_a0_well, .int v_a0_rights])), (h_means, .inl (cy 1, 81, .inr (.inl w_means))), (h_byLives, .inl (cy 1, 5, .inr (.inl w_byLives))), (h_brought, .inl (cy 1, 3, .inr (.inl w_brought))), (h_reached, .inl (cy 1, 8, .inr (.inl w_reached))), (h_a0_people, .inl (cy 3, 3, .inr (.inr (.inr (.inr v_a0_people))))), (h_habits, .inl (cy 0, 3, .inl w_habits))] → va_S A s.heap H locs → lv_has ls 5 [(0, .ref h_this), (1, .ref h_a0), (3, .int l3), (4, .int l4)] → wlX1_findRests_85 v_a0_size v_a0_rights v_a0_people pe post n_85 l3 l4 w_firstRest w_means w_byLives w_brought w_reached w_habits → W p l e rmX1_findRests s m args below meth c H locs 0 0 Q (F0 m 85 ls []) := by
    intro n_85
    induction n_85 with
    | zero =>
      intro l3 l4 w_firstRest w_means w_byLives w_brought w_reached w_habits H locs ls  hP hD hS hl hF
      simp only [wlX1_findRests_85] at hF
    | succ n_85 ih_85 =>
      have J_112 : ∀ (l3 : Int32) (l4 : Int32) (w_firstRest : Int32) (w_means : Nat → Int64) (w_byLives : Nat → Int64) (w_brought : Nat → Int64) (w_reached : Nat → Int64) (w_habits : Nat → Int32) (H : Heap) (locs : List Loc) (ls : Array Slot), va_P D CL [(h_this, .inr (1, [.ref h_habits, .ref h_byLives, .ref h_brought, .int w_firstRest, .ref h_reached, .ref h_means])), (h_a0, .inr (8, [.ref h_a0_people, x_a0_memories, x_a0_purses, x_a0_lives, .int (bz v_a0_there), .int v_a0_size, .int v_a0_date, .int (bz v_a0_evening), .int v_a0_well, .int v_a0_rights])), (h_means, .inl (cy 1, 81, .inr (.inl w_means))), (h_byLives, .inl (cy 1, 5, .inr (.inl w_byLives))), (h_brought, .inl (cy 1, 3, .inr (.inl w_brought))), (h_reached, .inl (cy 1, 8, .inr (.inl w_reached))), (h_a0_people, .inl (cy 3, 3, .inr (.inr (.inr (.inr v_a0_people))))), (h_habits, .inl (cy 0, 3, .inl w_habits))] H → va_D A [(h_this, .inr (1, [.ref h_habits, .ref h_byLives, .ref h_brought, .int w_firstRest, .ref h_reached, .ref h_means])), (h_a0, .inr (8, [.ref h_a0_people, x_a0_memories, x_a0_purses, x_a0_lives, .int (bz v_a0_there), .int v_a0_size, .int v_a0_date, .int (bz v_a0_evening), .int v_a0_well, .int v_a0_rights])), (h_means, .inl (cy 1, 81, .inr (.inl w_means))), (h_byLives, .inl (cy 1, 5, .inr (.inl w_byLives))), (h_brought, .inl (cy 1, 3, .inr (.inl w_brought))), (h_reached, .inl (cy 1, 8, .inr (.inl w_reached))), (h_a0_people, .inl (cy 3, 3, .inr (.inr (.inr (.inr v_a0_people))))), (h_habits, .inl (cy 0, 3, .inl w_habits))] → va_S A s.heap H locs → lv_has ls 5 [(0, .ref h_this), (1, .ref h_a0), (3, .int l3), (4, .int l4)] → wjX1_findRests_112 v_a0_size v_a0_rights v_a0_people pe post (wlX1_findRests_85 v_a0_size v_a0_rights v_a0_people pe post n_85) l3 l4 w_firstRest w_means w_byLives w_brought w_reached w_habits → W p l e rmX1_findRests s m args below meth c H locs 0 0 Q (F0 m 112 ls []) := by
        intro l3 l4 w_firstRest w_means w_byLives w_brought w_reached w_habits H locs ls  hP hD hS hl hF
        unfold wjX1_findRests_112 at hF
        refine lv_iinc (v := (l4 + (-1))) (lv' := [(4, .int (l4 + (-1))), (0, .ref h_this), (1, .ref h_a0), (3, .int l3)]) hx hb dX1_findRests_112 hl (k := 3) rfl rfl (by decide) rfl (fun ls hl => ?_)
        refine lv_goto (tgt := 85) hx hb dX1_findRests_115 (by decide) ?_
        exact ih_85 l3 (l4 + (-1)) w_firstRest w_means w_byLives w_brought w_reached w_habits _ _ ls  hP hD hS (lv_sub hl [1, 2, 3, 0] rfl) hF
      intro l3 l4 w_firstRest w_means w_byLives w_brought w_reached w_habits H locs ls  hP hD hS hl hF
      unfold wlX1_findRests_85 at hF
      refine lv_iload hx hb dX1_findRests_85 (lv_at hl 3 rfl) ?_
      refine lv_if_lt (tgt := 118) hx hb dX1_findRests_87 (by decide) (fun c_ => ?_) (fun c_ => ?_)
      · have hF := hF.1 c_
        refine lv_iload_n hx hb dX1_findRests_118 rfl (lv_at hl 2 rfl) ?_
        exact rt_i C hQ rfl hP hD hS ⟨w_firstRest, w_means, w_byLives, w_brought, w_reached, w_habits, rfl, hF⟩ dX1_findRests_119
      · have hF := hF.2 c_
        refine lv_aload_n hx hb dX1_findRests_90 rfl (lv_at hl 0 rfl) ?_
        refine lv_iload hx hb dX1_findRests_91 (lv_at hl 3 rfl) ?_
        refine lv_aload_n hx hb dX1_findRests_93 rfl (lv_at hl 1 rfl) ?_
        refine va_get (D := D) (ci := 8) (v := .int v_a0_size) (C := RX9) (T := TX9) (N := 10) hx hb hts inTX9 hown hK.1 hP 1 rfl rfl 5 (by decide) (hts _ t1_93) (fun _ h9 => h9) rfl dX1_findRests_94 ?_
        refine cV_r (As := [.int l4, .int v_a0_size]) C mfX1_isRest t3_162 ts_12 t3_160 (ccX1_isRest l D cy h_this h_means (.ref h_habits) (.ref h_byLives) (.ref h_brought) (.ref h_reached) w_firstRest w_means l4 v_a0_size _ hF) rfl rfl (hP.sub [0, 2] rfl) PR.np hP 0 1 rfl rfl rfl rfl hl.1 rfl (Nat.le_of_ble_eq_true rfl) dX1_findRests_97 ⟨Nat.le_of_ble_eq_true rfl, Nat.le_of_ble_eq_true rfl⟩ ⟨Nat.le_of_ble_eq_true rfl, Nat.le_of_ble_eq_true rfl⟩ ?_
        intro r1 hF
        refine W.eq (g2 := F0 m 100 ls [.int (bz r1)]) rfl ?_
        refine lv_if_eq (tgt := 112) hx hb dX1_findRests_100 (by decide) (fun c_ => ?_) (fun c_ => ?_)
        · have hF := hF.1 ((bz_0 _).mp c_)
          exact J_112 l3 l4 w_firstRest w_means w_byLives w_brought w_reached w_habits _ _ ls  hP hD hS (lv_sub hl [0, 1, 2, 3] rfl) hF
        · have hF := hF.2 ((bz_1 _).mp c_)
          refine lv_iinc (v := (l3 + 1)) (lv' := [(3, .int (l3 + 1)), (0, .ref h_this), (1, .ref h_a0), (4, .int l4)]) hx hb dX1_findRests_103 hl (k := 2) rfl rfl (by decide) rfl (fun ls hl => ?_)
          refine lv_aload_n hx hb dX1_findRests_106 rfl (lv_at hl 1 rfl) ?_
          refine lv_iload hx hb dX1_findRests_107 (lv_at hl 3 rfl) ?_
          refine va_put (D := D) (ci := 1) (v := .int l4) (ty := .int) (C := RX1) (T := TX1) (N := 6) hx hb hts inTX1 tyX1 tyX1_ok nmX1 hown hK.1 hP hD hS 0 rfl rfl 3 (by decide) (hts _ t1_138) (fun _ h9 => h9) rfl (tyX1_ok 3 (by decide)) rfl rfl (Nat.le_of_ble_eq_true rfl) dX1_findRests_109 (fun H locs hP hD hS => ?_)
          have hP : va_P D CL [(h_this, .inr (1, [.ref h_habits, .ref h_byLives, .ref h_brought, .int l4, .ref h_reached, .ref h_means])), (h_a0, .inr (8, [.ref h_a0_people, x_a0_memories, x_a0_purses, x_a0_lives, .int (bz v_a0_there), .int v_a0_size, .int v_a0_date, .int (bz v_a0_evening), .int v_a0_well, .int v_a0_rights])), (h_means, .inl (cy 1, 81, .inr (.inl w_means))), (h_byLives, .inl (cy 1, 5, .inr (.inl w_byLives))), (h_brought, .inl (cy 1, 3, .inr (.inl w_brought))), (h_reached, .inl (cy 1, 8, .inr (.inl w_reached))), (h_a0_people, .inl (cy 3, 3, .inr (.inr (.inr (.inr v_a0_people))))), (h_habits, .inl (cy 0, 3, .inl w_habits))] H := hP
          have hD : va_D A [(h_this, .inr (1, [.ref h_habits, .ref h_byLives, .ref h_brought, .int l4, .ref h_reached, .ref h_means])), (h_a0, .inr (8, [.ref h_a0_people, x_a0_memories, x_a0_purses, x_a0_lives, .int (bz v_a0_there), .int v_a0_size, .int v_a0_date, .int (bz v_a0_evening), .int v_a0_well, .int v_a0_rights])), (h_means, .inl (cy 1, 81, .inr (.inl w_means))), (h_byLives, .inl (cy 1, 5, .inr (.inl w_byLives))), (h_brought, .inl (cy 1, 3, .inr (.inl w_brought))), (h_reached, .inl (cy 1, 8, .inr (.inl w_reached))), (h_a0_people, .inl (cy 3, 3, .inr (.inr (.inr (.inr v_a0_people))))), (h_habits, .inl (cy 0, 3, .inl w_habits))] := hD
          exact J_112 (l3 + 1) l4 l4 w_means w_byLives w_brought w_reached w_habits _ _ ls  hP hD hS (lv_sub hl [1, 2, 0, 3] rfl) hF
  have L_11 : ∀ (n_11 : Nat) (l2 : Int32) (l3 : Int32) (w_firstRest : Int32) (w_means : Nat → Int64) (w_byLives : Nat → Int64) (w_brought : Nat → Int64) (w_reached : Nat → Int64) (w_habits : Nat → Int32) (H : Heap) (locs : List Loc) (ls : Array Slot), va_P D CL [(h_this, .inr (1, [.ref h_habits, .ref h_byLives, .ref h_brought, .int w_firstRest, .ref h_reached, .ref h_means])), (h_a0, .inr (8, [.ref h_a0_people, x_a0_memories, x_a0_purses, x_a0_lives, .int (bz v_a0_there), .int v_a0_size, .int v_a0_date, .int (bz v_a0_evening), .int v_a0_well, .int v_a0_rights])), (h_means, .inl (cy 1, 81, .inr (.inl w_means))), (h_byLives, .inl (cy 1, 5, .inr (.inl w_byLives))), (h_brought, .inl (cy 1, 3, .inr (.inl w_brought))), (h_reached, .inl (cy 1, 8, .inr (.inl w_reached))), (h_a0_people, .inl (cy 3, 3, .inr (.inr (.inr (.inr v_a0_people))))), (h_habits, .inl (cy 0, 3, .inl w_habits))] H → va_D A [(h_this, .inr (1, [.ref h_habits, .ref h_byLives, .ref h_brought, .int w_firstRest, .ref h_reached, .ref h_means])), (h_a0, .inr (8, [.ref h_a0_people, x_a0_memories, x_a0_purses, x_a0_lives, .int (bz v_a0_there), .int v_a0_size, .int v_a0_date, .int (bz v_a0_evening), .int v_a0_well, .int v_a0_rights])), (h_means, .inl (cy 1, 81, .inr (.inl w_means))), (h_byLives, .inl (cy 1, 5, .inr (.inl w_byLives))), (h_brought, .inl (cy 1, 3, .inr (.inl w_brought))), (h_reached, .inl (cy 1, 8, .inr (.inl w_reached))), (h_a0_people, .inl (cy 3, 3, .inr (.inr (.inr (.inr v_a0_people))))), (h_habits, .inl (cy 0, 3, .inl w_habits))] → va_S A s.heap H locs → lv_has ls 5 [(0, .ref h_this), (1, .ref h_a0), (2, .int l2), (3, .int l3)] → wlX1_findRests_11 v_a0_size v_a0_rights v_a0_people pe post n_11 l2 l3 w_firstRest w_means w_byLives w_brought w_reached w_habits → W p l e rmX1_findRests s m args below meth c H locs 0 0 Q (F0 m 11 ls []) := by
    intro n_11
    induction n_11 with
    | zero =>
      intro l2 l3 w_firstRest w_means w_byLives w_brought w_reached w_habits H locs ls  hP hD hS hl hF
      simp only [wlX1_findRests_11] at hF
    | succ n_11 ih_11 =>
      have L_19 : ∀ (n_19 : Nat) (l2 : Int32) (l3 : Int32) (l4 : Int32) (w_firstRest : Int32) (w_means : Nat → Int64) (w_byLives : Nat → Int64) (w_brought : Nat → Int64) (w_reached : Nat → Int64) (w_habits : Nat → Int32) (H : Heap) (locs : List Loc) (ls : Array Slot), va_P D CL [(h_this, .inr (1, [.ref h_habits, .ref h_byLives, .ref h_brought, .int w_firstRest, .ref h_reached, .ref h_means])), (h_a0, .inr (8, [.ref h_a0_people, x_a0_memories, x_a0_purses, x_a0_lives, .int (bz v_a0_there), .int v_a0_size, .int v_a0_date, .int (bz v_a0_evening), .int v_a0_well, .int v_a0_rights])), (h_means, .inl (cy 1, 81, .inr (.inl w_means))), (h_byLives, .inl (cy 1, 5, .inr (.inl w_byLives))), (h_brought, .inl (cy 1, 3, .inr (.inl w_brought))), (h_reached, .inl (cy 1, 8, .inr (.inl w_reached))), (h_a0_people, .inl (cy 3, 3, .inr (.inr (.inr (.inr v_a0_people))))), (h_habits, .inl (cy 0, 3, .inl w_habits))] H → va_D A [(h_this, .inr (1, [.ref h_habits, .ref h_byLives, .ref h_brought, .int w_firstRest, .ref h_reached, .ref h_means])), (h_a0, .inr (8, [.ref h_a0_people, x_a0_memories, x_a0_purses, x_a0_lives, .int (bz v_a0_there), .int v_a0_size, .int v_a0_date, .int (bz v_a0_evening), .int v_a0_well, .int v_a0_rights])), (h_means, .inl (cy 1, 81, .inr (.inl w_means))), (h_byLives, .inl (cy 1, 5, .inr (.inl w_byLives))), (h_brought, .inl (cy 1, 3, .inr (.inl w_brought))), (h_reached, .inl (cy 1, 8, .inr (.inl w_reached))), (h_a0_people, .inl (cy 3, 3, .inr (.inr (.inr (.inr v_a0_people))))), (h_habits, .inl (cy 0, 3, .inl w_habits))] → va_S A s.heap H locs → lv_has ls 5 [(0, .ref h_this), (1, .ref h_a0), (2, .int l2), (3, .int l3), (4, .int l4)] → wlX1_findRests_19 v_a0_size v_a0_rights v_a0_people pe post (wlX1_findRests_11 v_a0_size v_a0_rights v_a0_people pe post n_11) n_19 l2 l3 l4 w_firstRest w_means w_byLives w_brought w_reached w_habits → W p l e rmX1_findRests s m args below meth c H locs 0 0 Q (F0 m 19 ls []) := by
        intro n_19
        induction n_19 with
        | zero =>
          intro l2 l3 l4 w_firstRest w_means w_byLives w_brought w_reached w_habits H locs ls  hP hD hS hl hF
          simp only [wlX1_findRests_19] at hF
        | succ n_19 ih_19 =>
          intro l2 l3 l4 w_firstRest w_means w_byLives w_brought w_reached w_habits H locs ls  hP hD hS hl hF
          unfold wlX1_findRests_19 at hF
          refine lv_iload hx hb dX1_findRests_19 (lv_at hl 4 rfl) ?_
          refine lv_aload_n hx hb dX1_findRests_21 rfl (lv_at hl 1 rfl) ?_
          refine va_get (D := D) (ci := 8) (v := .int v_a0_size) (C := RX9) (T := TX9) (N := 10) hx hb hts inTX9 hown hK.1 hP 1 rfl rfl 5 (by decide) (hts _ t1_93) (fun _ h9 => h9) rfl dX1_findRests_22 ?_
          refine lv_icmp_ge (tgt := 51) hx hb dX1_findRests_25 (by decide) (fun c_ => ?_) (fun c_ => ?_)
          · have hF := hF.1 c_
            refine lv_aload_n hx hb dX1_findRests_51 rfl (lv_at hl 0 rfl) ?_
            refine lv_aload_n hx hb dX1_findRests_52 rfl (lv_at hl 1 rfl) ?_
            refine cV_t (As := [.ref h_a0]) (wr := [(h_means, .inl (cy 1, 81, .inr (.inl w_means)))]) C hA hP hD hS mfX1_tell t3_83 t3_84 t3_144 (ccX1_tell l D cy pe h_this h_a0 h_byLives h_brought h_reached h_a0_people h_habits (.ref h_means) x_a0_memories x_a0_purses x_a0_lives w_firstRest v_a0_there v_a0_size v_a0_date v_a0_evening v_a0_well v_a0_rights w_byLives w_brought w_reached v_a0_people w_habits _ hF) [0, 1, 3, 4, 5, 6, 7] [2] rfl rfl (by decide) (by decide) (by decide) (hI.po hS hD [0, 1, 3, 4, 5, 6, 7] rfl) 0 1 rfl rfl rfl rfl hl.1 rfl (Nat.le_of_ble_eq_true rfl) dX1_findRests_53 ⟨Nat.le_of_ble_eq_true rfl, Nat.le_of_ble_eq_true rfl⟩ ⟨Nat.le_of_ble_eq_true rfl, Nat.le_of_ble_eq_true rfl⟩ ?_
            rintro ⟨⟩ w1 H locs ⟨u2_byLives, u3_brought, u4_reached, rfl, hF⟩ hP hD hS
            have hP : va_P D CL [(h_means, .inl (cy 1, 81, .inr (.inl w_means))), (h_this, .inr (1, [.ref h_habits, .ref h_byLives, .ref h_brought, .int w_firstRest, .ref h_reached, .ref h_means])), (h_a0, .inr (8, [.ref h_a0_people, x_a0_memories, x_a0_purses, x_a0_lives, .int (bz v_a0_there), .int v_a0_size, .int v_a0_date, .int (bz v_a0_evening), .int v_a0_well, .int v_a0_rights])), (h_byLives, .inl (cy 1, 5, .inr (.inl u2_byLives))), (h_brought, .inl (cy 1, 3, .inr (.inl u3_brought))), (h_reached, .inl (cy 1, 8, .inr (.inl u4_reached))), (h_a0_people, .inl (cy 3, 3, .inr (.inr (.inr (.inr v_a0_people))))), (h_habits, .inl (cy 0, 3, .inl w_habits))] H := hP
            have hD : va_D A [(h_means, .inl (cy 1, 81, .inr (.inl w_means))), (h_this, .inr (1, [.ref h_habits, .ref h_byLives, .ref h_brought, .int w_firstRest, .ref h_reached, .ref h_means])), (h_a0, .inr (8, [.ref h_a0_people, x_a0_memories, x_a0_purses, x_a0_lives, .int (bz v_a0_there), .int v_a0_size, .int v_a0_date, .int (bz v_a0_evening), .int v_a0_well, .int v_a0_rights])), (h_byLives, .inl (cy 1, 5, .inr (.inl u2_byLives))), (h_brought, .inl (cy 1, 3, .inr (.inl u3_brought))), (h_reached, .inl (cy 1, 8, .inr (.inl u4_reached))), (h_a0_people, .inl (cy 3, 3, .inr (.inr (.inr (.inr v_a0_people))))), (h_habits, .inl (cy 0, 3, .inl w_habits))] := hD
            refine W.eq (g2 := F0 m 56 ls []) rfl ?_
            refine lv_aload_n hx hb dX1_findRests_56 rfl (lv_at hl 0 rfl) ?_
            refine va_get (D := D) (ci := 1) (v := .ref h_brought) (C := RX1) (T := TX1) (N := 6) hx hb hts inTX1 hown hK.1 hP 1 rfl rfl 2 (by decide) (hts _ t1_136) (fun _ h9 => h9) rfl dX1_findRests_57 ?_
            refine lv_iconst (v := 0) hx hb dX1_findRests_60 (by decide) ?_
            refine lv_aload_n hx hb dX1_findRests_61 rfl (lv_at hl 0 rfl) ?_
            refine va_get (D := D) (ci := 1) (v := .ref h_means) (C := RX1) (T := TX1) (N := 6) hx hb hts inTX1 hown hK.1 hP 1 rfl rfl 5 (by decide) (hts _ t1_141) (fun _ h9 => h9) rfl dX1_findRests_62 ?_
            refine lv_iload_n hx hb dX1_findRests_65 rfl (lv_at hl 3 rfl) ?_
            refine lv_iconst (v := 3) hx hb dX1_findRests_66 (by decide) ?_
            refine lv_imul hx hb dX1_findRests_67 ?_
            refine lv_iconst (v := 3) hx hb dX1_findRests_68 (by decide) ?_
            obtain ⟨hc5, hc6, hF⟩ := hF
            refine va_copyl hx hb (hml.trans hl.1.symm) hown (hts _ t3_159) (hts _ t2_25) (hts _ t2_24) (hts _ t1_9) hK.1 hP hD hS 4 0 1 1 rfl rfl rfl rfl rfl (by decide) hc5 (by decide) (by decide) hc6 (fun _ _ => rfl) (by decide) (Nat.le_of_ble_eq_true rfl) dX1_findRests_69 (fun H locs hP hD hS => ?_)
            have hP : va_P D CL [(h_means, .inl (cy 1, 81, .inr (.inl (va_cpy u3_brought w_means (0 : Int32).toNatClampNeg ((l3 * 3) : Int32).toNatClampNeg (3 : Int32).toNatClampNeg)))), (h_this, .inr (1, [.ref h_habits, .ref h_byLives, .ref h_brought, .int w_firstRest, .ref h_reached, .ref h_means])), (h_a0, .inr (8, [.ref h_a0_people, x_a0_memories, x_a0_purses, x_a0_lives, .int (bz v_a0_there), .int v_a0_size, .int v_a0_date, .int (bz v_a0_evening), .int v_a0_well, .int v_a0_rights])), (h_byLives, .inl (cy 1, 5, .inr (.inl u2_byLives))), (h_brought, .inl (cy 1, 3, .inr (.inl u3_brought))), (h_reached, .inl (cy 1, 8, .inr (.inl u4_reached))), (h_a0_people, .inl (cy 3, 3, .inr (.inr (.inr (.inr v_a0_people))))), (h_habits, .inl (cy 0, 3, .inl w_habits))] H := hP
            have hD : va_D A [(h_means, .inl (cy 1, 81, .inr (.inl (va_cpy u3_brought w_means (0 : Int32).toNatClampNeg ((l3 * 3) : Int32).toNatClampNeg (3 : Int32).toNatClampNeg)))), (h_this, .inr (1, [.ref h_habits, .ref h_byLives, .ref h_brought, .int w_firstRest, .ref h_reached, .ref h_means])), (h_a0, .inr (8, [.ref h_a0_people, x_a0_memories, x_a0_purses, x_a0_lives, .int (bz v_a0_there), .int v_a0_size, .int v_a0_date, .int (bz v_a0_evening), .int v_a0_well, .int v_a0_rights])), (h_byLives, .inl (cy 1, 5, .inr (.inl u2_byLives))), (h_brought, .inl (cy 1, 3, .inr (.inl u3_brought))), (h_reached, .inl (cy 1, 8, .inr (.inl u4_reached))), (h_a0_people, .inl (cy 3, 3, .inr (.inr (.inr (.inr v_a0_people))))), (h_habits, .inl (cy 0, 3, .inl w_habits))] := hD
            refine lv_iinc (v := (l3 + 1)) (lv' := [(3, .int (l3 + 1)), (0, .ref h_this), (1, .ref h_a0), (2, .int l2), (4, .int l4)]) hx hb dX1_findRests_72 hl (k := 3) rfl rfl (by decide) rfl (fun ls hl => ?_)
            refine lv_goto (tgt := 11) hx hb dX1_findRests_75 (by decide) ?_
            exact ih_11 l2 (l3 + 1) w_firstRest (va_cpy u3_brought w_means (0 : Int32).toNatClampNeg ((l3 * 3) : Int32).toNatClampNeg (3 : Int32).toNatClampNeg) u2_byLives u3_brought u4_reached w_habits _ _ ls  (hP.sub [1, 2, 0, 3, 4, 5, 6, 7] rfl) (hD.sub [1, 2, 0, 3, 4, 5, 6, 7] (by decide) rfl) hS (lv_sub hl [1, 2, 3, 0] rfl) hF
          · have hF := hF.2 c_
            refine lv_aload_n hx hb dX1_findRests_28 rfl (lv_at hl 0 rfl) ?_
            refine va_get (D := D) (ci := 1) (v := .ref h_habits) (C := RX1) (T := TX1) (N := 6) hx hb hts inTX1 hown hK.1 hP 0 rfl rfl 0 (by decide) (hts _ t1_132) (fun _ h9 => h9) rfl dX1_findRests_29 ?_
            refine lv_iload hx hb dX1_findRests_32 (lv_at hl 4 rfl) ?_
            refine lv_iload_n hx hb dX1_findRests_34 rfl (lv_at hl 3 rfl) ?_
            refine lv_iload hx hb dX1_findRests_35 (lv_at hl 4 rfl) ?_
            refine lv_aload_n hx hb dX1_findRests_37 rfl (lv_at hl 1 rfl) ?_
            refine va_get (D := D) (ci := 8) (v := .int v_a0_size) (C := RX9) (T := TX9) (N := 10) hx hb hts inTX9 hown hK.1 hP 1 rfl rfl 5 (by decide) (hts _ t1_93) (fun _ h9 => h9) rfl dX1_findRests_38 ?_
            refine cS_r (As := [.int l3, .int l4, .int v_a0_size]) C mfX1_habitIn t3_157 t3_156 (ccX1_habitIn l D cy l3 l4 v_a0_size _ hF) rfl rfl (hP.sub [] rfl) PR.np rfl hl.1 rfl (Nat.le_of_ble_eq_true rfl) dX1_findRests_41 ⟨Nat.le_of_ble_eq_true rfl, Nat.le_of_ble_eq_true rfl⟩ ⟨Nat.le_of_ble_eq_true rfl, Nat.le_of_ble_eq_true rfl⟩ ?_
            intro r7 hF
            refine W.eq (g2 := F0 m 44 ls [.int r7, .int l4, .ref h_habits]) rfl ?_
            obtain ⟨hi8, hF⟩ := hF
            refine s_iast (j := (l4).toNatClampNeg) hx hb hK.1 hP hD hS 7 0 rfl rfl hi8 rfl dX1_findRests_44 (fun H locs hP hD hS => ?_)
            have hP : va_P D CL [(h_this, .inr (1, [.ref h_habits, .ref h_byLives, .ref h_brought, .int w_firstRest, .ref h_reached, .ref h_means])), (h_a0, .inr (8, [.ref h_a0_people, x_a0_memories, x_a0_purses, x_a0_lives, .int (bz v_a0_there), .int v_a0_size, .int v_a0_date, .int (bz v_a0_evening), .int v_a0_well, .int v_a0_rights])), (h_means, .inl (cy 1, 81, .inr (.inl w_means))), (h_byLives, .inl (cy 1, 5, .inr (.inl w_byLives))), (h_brought, .inl (cy 1, 3, .inr (.inl w_brought))), (h_reached, .inl (cy 1, 8, .inr (.inl w_reached))), (h_a0_people, .inl (cy 3, 3, .inr (.inr (.inr (.inr v_a0_people))))), (h_habits, .inl (cy 0, 3, .inl (upd w_habits ((l4).toNatClampNeg) r7)))] H := hP
            have hD : va_D A [(h_this, .inr (1, [.ref h_habits, .ref h_byLives, .ref h_brought, .int w_firstRest, .ref h_reached, .ref h_means])), (h_a0, .inr (8, [.ref h_a0_people, x_a0_memories, x_a0_purses, x_a0_lives, .int (bz v_a0_there), .int v_a0_size, .int v_a0_date, .int (bz v_a0_evening), .int v_a0_well, .int v_a0_rights])), (h_means, .inl (cy 1, 81, .inr (.inl w_means))), (h_byLives, .inl (cy 1, 5, .inr (.inl w_byLives))), (h_brought, .inl (cy 1, 3, .inr (.inl w_brought))), (h_reached, .inl (cy 1, 8, .inr (.inl w_reached))), (h_a0_people, .inl (cy 3, 3, .inr (.inr (.inr (.inr v_a0_people))))), (h_habits, .inl (cy 0, 3, .inl (upd w_habits ((l4).toNatClampNeg) r7)))] := hD
            refine lv_iinc (v := (l4 + 1)) (lv' := [(4, .int (l4 + 1)), (0, .ref h_this), (1, .ref h_a0), (2, .int l2), (3, .int l3)]) hx hb dX1_findRests_45 hl (k := 4) rfl rfl (by decide) rfl (fun ls hl => ?_)
            refine lv_goto (tgt := 19) hx hb dX1_findRests_48 (by decide) ?_
            exact ih_19 l2 l3 (l4 + 1) w_firstRest w_means w_byLives w_brought w_reached (upd w_habits ((l4).toNatClampNeg) r7) _ _ ls  hP hD hS (lv_sub hl [1, 2, 3, 4, 0] rfl) hF
      intro l2 l3 w_firstRest w_means w_byLives w_brought w_reached w_habits H locs ls  hP hD hS hl hF
      unfold wlX1_findRests_11 at hF
      refine lv_iload_n hx hb dX1_findRests_11 rfl (lv_at hl 3 rfl) ?_
      refine lv_iload_n hx hb dX1_findRests_12 rfl (lv_at hl 2 rfl) ?_
      refine lv_icmp_ge (tgt := 78) hx hb dX1_findRests_13 (by decide) (fun c_ => ?_) (fun c_ => ?_)
      · have hF := hF.1 c_
        refine lv_iconst (v := 0) hx hb dX1_findRests_78 (by decide) ?_
        refine lv_istore_n (lv' := [(3, .int 0), (0, .ref h_this), (1, .ref h_a0), (2, .int l2)]) hx hb dX1_findRests_79 rfl hl (by decide) rfl (fun ls hl => ?_)
        refine lv_iload_n hx hb dX1_findRests_80 rfl (lv_at hl 3 rfl) ?_
        refine lv_iconst (v := 1) hx hb dX1_findRests_81 (by decide) ?_
        refine lv_isub hx hb dX1_findRests_82 ?_
        refine lv_istore (lv' := [(4, .int (l2 - 1)), (3, .int 0), (0, .ref h_this), (1, .ref h_a0), (2, .int l2)]) hx hb dX1_findRests_83 hl (by decide) rfl (fun ls hl => ?_)
        exact L_85 fu 0 (l2 - 1) w_firstRest w_means w_byLives w_brought w_reached w_habits _ _ ls  hP hD hS (lv_sub hl [2, 3, 1, 0] rfl) hF
      · have hF := hF.2 c_
        refine lv_iconst (v := 0) hx hb dX1_findRests_16 (by decide) ?_
        refine lv_istore (lv' := [(4, .int 0), (0, .ref h_this), (1, .ref h_a0), (2, .int l2), (3, .int l3)]) hx hb dX1_findRests_17 hl (by decide) rfl (fun ls hl => ?_)
        exact L_19 fu l2 l3 0 w_firstRest w_means w_byLives w_brought w_reached w_habits _ _ ls  hP hD hS (lv_sub hl [1, 2, 3, 4, 0] rfl) hF
  unfold wpX1_findRests at hF
  refine lv_iconst (v := (-1)) hx hb dX1_findRests_0 (by decide) ?_
  refine lv_aload_n hx hb dX1_findRests_1 rfl (lv_at hl 1 rfl) ?_
  refine va_get (D := D) (ci := 8) (v := .int v_a0_size) (C := RX9) (T := TX9) (N := 10) hx hb hts inTX9 hown hK.1 hP 1 rfl rfl 5 (by decide) (hts _ t1_93) (fun _ h9 => h9) rfl dX1_findRests_2 ?_
  refine cS_r (As := [.int (-1), .int v_a0_size]) C mfX1_stepOf t3_154 t3_153 (ccX1_stepOf l D cy (-1) v_a0_size _ hF) rfl rfl (hP.sub [] rfl) PR.np rfl hl.1 rfl (Nat.le_of_ble_eq_true rfl) dX1_findRests_5 ⟨Nat.le_of_ble_eq_true rfl, Nat.le_of_ble_eq_true rfl⟩ ⟨Nat.le_of_ble_eq_true rfl, Nat.le_of_ble_eq_true rfl⟩ ?_
  intro r1 hF
  refine W.eq (g2 := F0 m 8 ls [.int r1]) rfl ?_
  refine lv_istore_n (lv' := [(2, .int r1), (0, .ref h_this), (1, .ref h_a0)]) hx hb dX1_findRests_8 rfl hl (by decide) rfl (fun ls hl => ?_)
  refine lv_iconst (v := 0) hx hb dX1_findRests_9 (by decide) ?_
  refine lv_istore_n (lv' := [(3, .int 0), (2, .int r1), (0, .ref h_this), (1, .ref h_a0)]) hx hb dX1_findRests_10 rfl hl (by decide) rfl (fun ls hl => ?_)
  exact L_11 fu r1 0 v_firstRest v_means v_byLives v_brought v_reached v_habits _ _ ls  hP hD hS (lv_sub hl [2, 3, 1, 0] rfl) hF
