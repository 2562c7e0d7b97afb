def wlX9_takeFrom_50 (v_a0_there : Bool) (v_a0_size : Int32) (v_a0_date : Int32) (v_a0_evening : Bool) (v_a0_well : Int32) (v_a0_rights : Int32) (v_a0_lives : Nat → Int32) (v_a0_people : Nat → Option Nat) (v_a0_memories : Nat → Int32) (v_a0_purses : Nat → Int32) (pe : Pe) (post : Unit → Bool → Int32 → Int32 → Bool → Int32 → Int32 → (Nat → Int32) → (Nat → Option Nat) → (Nat → Int32) → (Nat → Int32) → Prop) : Nat → Int32 → Bool → Int32 → Int32 → Bool → Int32 → Int32 → (Nat → Int32) → (Nat → Option Nat) → (Nat → Int32) → (Nat → Int32) → Prop
  | 0, _, _, _, _, _, _, _, _, _, _, _ => False
  | n + 1, l2, w_there, w_size, w_date, w_evening, w_well, w_rights, w_lives, w_people, w_memories, w_purses => (3 ≤ l2 → (post () w_there w_size w_date w_evening w_well w_rights (va_cpy v_a0_lives w_lives (0 : Int32).toNatClampNeg (0 : Int32).toNatClampNeg (100 : Int32).toNatClampNeg) w_people w_memories w_purses)) ∧ (¬ 3 ≤ l2 → (vp_in l2 3 ∧ (((v_a0_people ((l2).toNatClampNeg)) = none → (vp_in l2 3 ∧ (vp_in l2 3 ∧ (vp_in l2 3 ∧ (vp_in l2 3 ∧ (vp_in l2 3 ∧ ((wlX9_takeFrom_50 v_a0_there v_a0_size v_a0_date v_a0_evening v_a0_well v_a0_rights v_a0_lives v_a0_people v_a0_memories v_a0_purses pe post n) (l2 + 1) w_there w_size w_date w_evening w_well w_rights w_lives (va_up w_people (l2).toNatClampNeg none) (upd w_memories ((l2).toNatClampNeg) (v_a0_memories ((l2).toNatClampNeg))) (upd w_purses ((l2).toNatClampNeg) (v_a0_purses ((l2).toNatClampNeg)))))))))) ∧ (∀ a2 : Nat, (v_a0_people ((l2).toNatClampNeg)) = some a2 → a2 ∈ pe.1 ∧ (vp_in l2 3 ∧ (vp_in l2 3 ∧ (vp_in l2 3 ∧ (vp_in l2 3 ∧ (vp_in l2 3 ∧ ((wlX9_takeFrom_50 v_a0_there v_a0_size v_a0_date v_a0_evening v_a0_well v_a0_rights v_a0_lives v_a0_people v_a0_memories v_a0_purses pe post n) (l2 + 1) w_there w_size w_date w_evening w_well w_rights w_lives (va_up w_people (l2).toNatClampNeg (some a2)) (upd w_memories ((l2).toNatClampNeg) (v_a0_memories ((l2).toNatClampNeg))) (upd w_purses ((l2).toNatClampNeg) (v_a0_purses ((l2).toNatClampNeg)))))))))))))
def wpX9_takeFrom (v_there : Bool) (v_size : Int32) (v_date : Int32) (v_evening : Bool) (v_well : Int32) (v_rights : Int32) (v_a0_there : Bool) (v_a0_size : Int32) (v_a0_date : Int32) (v_a0_evening : Bool) (v_a0_well : Int32) (v_a0_rights : Int32) (v_a0_lives : Nat → Int32) (v_lives : Nat → Int32) (v_people : Nat → Option Nat) (v_a0_people : Nat → Option Nat) (v_memories : Nat → Int32) (v_a0_memories : Nat → Int32) (v_purses : Nat → Int32) (v_a0_purses : Nat → Int32) (pe : Pe) (post : Unit → Bool → Int32 → Int32 → Bool → Int32 → Int32 → (Nat → Int32) → (Nat → Option Nat) → (Nat → Int32) → (Nat → Int32) → Prop) : Prop := wlX9_takeFrom_50 v_a0_there v_a0_size v_a0_date v_a0_evening v_a0_well v_a0_rights v_a0_lives v_a0_people v_a0_memories v_a0_purses pe post fu 0 v_a0_there v_a0_size v_a0_date v_a0_evening v_a0_well v_a0_rights v_lives v_people v_memories v_purses
abbrev miX9_takeFrom : MI := (yX9_takeFrom, cX9_takeFrom, 3, none)
theorem mfX9_takeFrom : MF miX9_takeFrom 1 := ⟨t3_221, t1_5, by decide +kernel⟩
abbrev rmX9_takeFrom : Room := { frames := 1, cells := 0, slots := 0, locals := 68 }
set_option maxHeartbeats 4000000 in
set_option maxRecDepth 100000 in
theorem ccX9_takeFrom (l : Launch) (D : va_G) (cy : Nat → ClassId) (pe : Pe) (h_this : Nat) (h_a0 : Nat) (h_a0_lives : Nat) (h_lives : Nat) (h_people : Nat) (h_a0_people : Nat) (h_memories : Nat) (h_a0_memories : Nat) (h_purses : Nat) (h_a0_purses : Nat) (v_there : Bool) (v_size : Int32) (v_date : Int32) (v_evening : Bool) (v_well : Int32) (v_rights : Int32) (v_a0_there : Bool) (v_a0_size : Int32) (v_a0_date : Int32) (v_a0_evening : Bool) (v_a0_well : Int32) (v_a0_rights : Int32) (v_a0_lives : Nat → Int32) (v_lives : Nat → Int32) (v_people : Nat → Option Nat) (v_a0_people : Nat → Option Nat) (v_memories : Nat → Int32) (v_a0_memories : Nat → Int32) (v_purses : Nat → Int32) (v_a0_purses : Nat → Int32) (post : Unit → Bool → Int32 → Int32 → Bool → Int32 → Int32 → (Nat → Int32) → (Nat → Option Nat) → (Nat → Int32) → (Nat → Int32) → Prop) (hF : wpX9_takeFrom v_there v_size v_date v_evening v_well v_rights v_a0_there v_a0_size v_a0_date v_a0_evening v_a0_well v_a0_rights v_a0_lives v_lives v_people v_a0_people v_memories v_a0_memories v_purses v_a0_purses pe post) : Ct l D cy miX9_takeFrom rmX9_takeFrom emV pe [.ref h_this, .ref h_a0] [(h_this, .inr (8, [.ref h_people, .ref h_memories, .ref h_purses, .ref h_lives, .int (bz v_there), .int v_size, .int v_date, .int (bz v_evening), .int v_well, .int v_rights])), (h_a0, .inr (8, [.ref h_a0_people, .ref h_a0_memories, .ref h_a0_purses, .ref h_a0_lives, .int (bz v_a0_there), .int v_a0_size, .int v_a0_date, .int (bz v_a0_evening), .int v_a0_well, .int v_a0_rights])), (h_a0_lives, .inl (cy 0, 100, .inl v_a0_lives)), (h_lives, .inl (cy 0, 100, .inl v_lives)), (h_people, .inl (cy 3, 3, .inr (.inr (.inr (.inr v_people))))), (h_a0_people, .inl (cy 3, 3, .inr (.inr (.inr (.inr v_a0_people))))), (h_memories, .inl (cy 0, 3, .inl v_memories)), (h_a0_memories, .inl (cy 0, 3, .inl v_a0_memories)), (h_purses, .inl (cy 0, 3, .inl v_purses)), (h_a0_purses, .inl (cy 0, 3, .inl v_a0_purses))] (fun r w1 => ∃ (w_there : Bool) (w_size : Int32) (w_date : Int32) (w_evening : Bool) (w_well : Int32) (w_rights : Int32) (w_lives : Nat → Int32) (w_people : Nat → Option Nat) (w_memories : Nat → Int32) (w_purses : Nat → Int32), w1 = [(h_this, .inr (8, [.ref h_people, .ref h_memories, .ref h_purses, .ref h_lives, .int (bz w_there), .int w_size, .int w_date, .int (bz w_evening), .int w_well, .int w_rights])), (h_a0, .inr (8, [.ref h_a0_people, .ref h_a0_memories, .ref h_a0_purses, .ref h_a0_lives, .int (bz v_a0_there), .int v_a0_size, .int v_a0_date, .int (bz v_a0_evening), .int v_a0_well, .int v_a0_rights])), (h_a0_lives, .inl (cy 0, 100, .inl v_a0_lives)), (h_lives, .inl (cy 0, 100, .inl w_lives)), (h_people, .inl (cy 3, 3, .inr (.inr (.inr (.inr w_people))))), (h_a0_people, .inl (cy 3, 3, .inr (.inr (.inr (.inr v_a0_people))))), (h_memories, .inl (cy 0, 3, .inl w_memories)), (h_a0_memories, .inl (cy 0, 3, .inl v_a0_memories)), (h_purses, .inl (cy 0, 3, .inl w_purses)), (h_a0_purses, .inl (cy 0, 3, .inl v_a0_purses))] ∧ post r w_there w_size w_date w_evening w_well w_rights w_lives w_people w_memories w_purses) := by
  refine Ct.of (by decide) (Nat.le_of_ble_eq_true rfl) ?_
  intro p e s m args below meth c A ls Q C hQ hA hI hP hD hS hl
  obtain ⟨hx, hb, hr, hml, hown, hts, hK, hlk, hnm⟩ := id C
  have hb : c.code = cX9_takeFrom := hb
  have hml : c.maxLocals = 3 := hml
  have hown : s.vm.findClass RX9 = some m.cls := hown
  have hl : lv_has ls 3 [(0, .ref h_this), (1, .ref h_a0)] := hl
  have L_50 : ∀ (n_50 : Nat) (l2 : Int32) (w_there : Bool) (w_size : Int32) (w_date : Int32) (w_evening : Bool) (w_well : Int32) (w_rights : Int32) (w_lives : Nat → Int32) (w_people : Nat → Option Nat) (w_memories : Nat → Int32) (w_purses : Nat → Int32) (H : Heap) (locs : List Loc) (ls : Array Slot), va_P D CL [(h_this, .inr (8, [.ref h_people, .ref h_memories, .ref h_purses, .ref h_lives, .int (bz w_there), .int w_size, .int w_date, .int (bz w_evening), .int w_well, .int w_rights])), (h_a0, .inr (8, [.ref h_a0_people, .ref h_a0_memories, .ref h_a0_purses, .ref h_a0_lives, .int (bz v_a0_there), .int v_a0_size, .int v_a0_date, .int (bz v_a0_evening), .int v_a0_well, .int v_a0_rights])), (h_a0_lives, .inl (cy 0, 100, .inl v_a0_lives)), (h_lives, .inl (cy 0, 100, .inl w_lives)), (h_people, .inl (cy 3, 3, .inr (.inr (.inr (.inr w_people))))), (h_a0_people, .inl (cy 3, 3, .inr (.inr (.inr (.inr v_a0_people))))), (h_memories, .inl (cy 0, 3, .inl w_memories)), (h_a0_memories, .inl (cy 0, 3, .inl v_a0_memories)), (h_purses, .inl (cy 0, 3, .inl w_purses)), (h_a0_purses, .inl (cy 0, 3, .inl v_a0_purses))] H → va_D A [(h_this, .inr (8, [.ref h_people, .ref h_memories, .ref h_purses, .ref h_lives, .int (bz w_there), .int w_size, .int w_date, .int (bz w_evening), .int w_well, .int w_rights])), (h_a0, .inr (8, [.ref h_a0_people, .ref h_a0_memories, .ref h_a0_purses, .ref h_a0_lives, .int (bz v_a0_there), .int v_a0_size, .int v_a0_date, .int (bz v_a0_evening), .int v_a0_well, .int v_a0_rights])), (h_a0_lives, .inl (cy 0, 100, .inl v_a0_lives)), (h_lives, .inl (cy 0, 100, .inl w_lives)), (h_people, .inl (cy 3, 3, .inr (.inr (.inr (.inr w_people))))), (h_a0_people, .inl (cy 3, 3, .inr (.inr (.inr (.inr v_a0_people))))), (h_memories, .inl (cy 0, 3, .inl w_memories)), (h_a0_memories, .inl (cy 0, 3, .inl v_a0_memories)), (h_purses, .inl (cy 0, 3, .inl w_purses)), (h_a0_purses, .inl (cy 0, 3, .inl v_a0_purses))] → va_S A s.heap H locs → lv_has ls 3 [(0, .ref h_this), (1, .ref h_a0), (2, .int l2)] → wlX9_takeFrom_50 v_a0_there v_a0_size v_a0_date v_a0_evening v_a0_well v_a0_rights v_a0_lives v_a0_people v_a0_memories v_a0_purses pe post n_50 l2 w_there w_size w_date w_evening w_well w_rights w_lives w_people w_memories w_purses → W p l e rmX9_takeFrom s m args below meth c H locs 0 0 Q (F0 m 50 ls []) := by
    intro n_50
    induction n_50 with
    | zero =>
      intro l2 w_there w_size w_date w_evening w_well w_rights w_lives w_people w_memories w_purses H locs ls  hP hD hS hl hF
      simp only [wlX9_takeFrom_50] at hF
    | succ n_50 ih_50 =>
      intro l2 w_there w_size w_date w_evening w_well w_rights w_lives w_people w_memories w_purses H locs ls  hP hD hS hl hF
      unfold wlX9_takeFrom_50 at hF
      refine lv_iload_n hx hb dX9_takeFrom_50 rfl (lv_at hl 2 rfl) ?_
      refine lv_iconst (v := 3) hx hb dX9_takeFrom_51 (by decide) ?_
      refine lv_icmp_ge (tgt := 97) hx hb dX9_takeFrom_52 (by decide) (fun c_ => ?_) (fun c_ => ?_)
      · have hF := hF.1 c_
        refine lv_aload_n hx hb dX9_takeFrom_97 rfl (lv_at hl 1 rfl) ?_
        refine va_get (D := D) (ci := 8) (v := .ref h_a0_lives) (C := RX9) (T := TX9) (N := 10) hx hb hts inTX9 hown hK.1 hP 1 rfl rfl 3 (by decide) (hts _ t1_88) (fun _ h9 => h9) rfl dX9_takeFrom_98 ?_
        refine lv_iconst (v := 0) hx hb dX9_takeFrom_101 (by decide) ?_
        refine lv_aload_n hx hb dX9_takeFrom_102 rfl (lv_at hl 0 rfl) ?_
        refine va_get (D := D) (ci := 8) (v := .ref h_lives) (C := RX9) (T := TX9) (N := 10) hx hb hts inTX9 hown hK.1 hP 0 rfl rfl 3 (by decide) (hts _ t1_88) (fun _ h9 => h9) rfl dX9_takeFrom_103 ?_
        refine lv_iconst (v := 0) hx hb dX9_takeFrom_106 (by decide) ?_
        refine lv_bipush (v := 100) hx hb dX9_takeFrom_107 (by decide) ?_
        refine va_copyi hx hb (hml.trans hl.1.symm) hown (hts _ t2_192) (hts _ t2_25) (hts _ t2_24) (hts _ t1_9) hK.1 hP hD hS 2 3 0 0 rfl rfl rfl rfl rfl (by decide) (by decide) (by decide) (by decide) (by decide) (fun _ _ => rfl) (by decide) (Nat.le_of_ble_eq_true rfl) dX9_takeFrom_109 (fun H locs hP hD hS => ?_)
        have hP : va_P D CL [(h_this, .inr (8, [.ref h_people, .ref h_memories, .ref h_purses, .ref h_lives, .int (bz w_there), .int w_size, .int w_date, .int (bz w_evening), .int w_well, .int w_rights])), (h_a0, .inr (8, [.ref h_a0_people, .ref h_a0_memories, .ref h_a0_purses, .ref h_a0_lives, .int (bz v_a0_there), .int v_a0_size, .int v_a0_date, .int (bz v_a0_evening), .int v_a0_well, .int v_a0_rights])), (h_a0_lives, .inl (cy 0, 100, .inl v_a0_lives)), (h_lives, .inl (cy 0, 100, .inl (va_cpy v_a0_lives w_lives (0 : Int32).toNatClampNeg (0 : Int32).toNatClampNeg (100 : Int32).toNatClampNeg))), (h_people, .inl (cy 3, 3, .inr (.inr (.inr (.inr w_people))))), (h_a0_people, .inl (cy 3, 3, .inr (.inr (.inr (.inr v_a0_people))))), (h_memories, .inl (cy 0, 3, .inl w_memories)), (h_a0_memories, .inl (cy 0, 3, .inl v_a0_memories)), (h_purses, .inl (cy 0, 3, .inl w_purses)), (h_a0_purses, .inl (cy 0, 3, .inl v_a0_purses))] H := hP
        have hD : va_D A [(h_this, .inr (8, [.ref h_people, .ref h_memories, .ref h_purses, .ref h_lives, .int (bz w_there), .int w_size, .int w_date, .int (bz w_evening), .int w_well, .int w_rights])), (h_a0, .inr (8, [.ref h_a0_people, .ref h_a0_memories, .ref h_a0_purses, .ref h_a0_lives, .int (bz v_a0_there), .int v_a0_size, .int v_a0_date, .int (bz v_a0_evening), .int v_a0_well, .int v_a0_rights])), (h_a0_lives, .inl (cy 0, 100, .inl v_a0_lives)), (h_lives, .inl (cy 0, 100, .inl (va_cpy v_a0_lives w_lives (0 : Int32).toNatClampNeg (0 : Int32).toNatClampNeg (100 : Int32).toNatClampNeg))), (h_people, .inl (cy 3, 3, .inr (.inr (.inr (.inr w_people))))), (h_a0_people, .inl (cy 3, 3, .inr (.inr (.inr (.inr v_a0_people))))), (h_memories, .inl (cy 0, 3, .inl w_memories)), (h_a0_memories, .inl (cy 0, 3, .inl v_a0_memories)), (h_purses, .inl (cy 0, 3, .inl w_purses)), (h_a0_purses, .inl (cy 0, 3, .inl v_a0_purses))] := hD
        exact rt_v C hQ rfl hP hD hS ⟨w_there, w_size, w_date, w_evening, w_well, w_rights, (va_cpy v_a0_lives w_lives (0 : Int32).toNatClampNeg (0 : Int32).toNatClampNeg (100 : Int32).toNatClampNeg), w_people, w_memories, w_purses, rfl, hF⟩ dX9_takeFrom_112
      · have hF := hF.2 c_
        refine lv_aload_n hx hb dX9_takeFrom_55 rfl (lv_at hl 0 rfl) ?_
        refine va_get (D := D) (ci := 8) (v := .ref h_people) (C := RX9) (T := TX9) (N := 10) hx hb hts inTX9 hown hK.1 hP 0 rfl rfl 0 (by decide) (hts _ t1_83) (fun _ h9 => h9) rfl dX9_takeFrom_56 ?_
        refine lv_iload_n hx hb dX9_takeFrom_59 rfl (lv_at hl 2 rfl) ?_
        refine lv_aload_n hx hb dX9_takeFrom_60 rfl (lv_at hl 1 rfl) ?_
        refine va_get (D := D) (ci := 8) (v := .ref h_a0_people) (C := RX9) (T := TX9) (N := 10) hx hb hts inTX9 hown hK.1 hP 1 rfl rfl 0 (by decide) (hts _ t1_83) (fun _ h9 => h9) rfl dX9_takeFrom_61 ?_
        refine lv_iload_n hx hb dX9_takeFrom_64 rfl (lv_at hl 2 rfl) ?_
        obtain ⟨hi1, hF⟩ := hF
        refine s_aldq (j := (l2).toNatClampNeg) hx hb hK.1 hP 5 3 rfl rfl hi1 rfl dX9_takeFrom_65 (fun hq => ?_) (fun a2 hq => ?_)
        · have hF := hF.1 hq
          obtain ⟨hi3, hF⟩ := hF
          refine va_astqN hx hb hK.1 hP hD hS 4 3 rfl rfl hi3 dX9_takeFrom_66 (fun H locs hP hD hS => ?_)
          have hP : va_P D CL [(h_this, .inr (8, [.ref h_people, .ref h_memories, .ref h_purses, .ref h_lives, .int (bz w_there), .int w_size, .int w_date, .int (bz w_evening), .int w_well, .int w_rights])), (h_a0, .inr (8, [.ref h_a0_people, .ref h_a0_memories, .ref h_a0_purses, .ref h_a0_lives, .int (bz v_a0_there), .int v_a0_size, .int v_a0_date, .int (bz v_a0_evening), .int v_a0_well, .int v_a0_rights])), (h_a0_lives, .inl (cy 0, 100, .inl v_a0_lives)), (h_lives, .inl (cy 0, 100, .inl w_lives)), (h_people, .inl (cy 3, 3, .inr (.inr (.inr (.inr (va_up w_people (l2).toNatClampNeg none)))))), (h_a0_people, .inl (cy 3, 3, .inr (.inr (.inr (.inr v_a0_people))))), (h_memories, .inl (cy 0, 3, .inl w_memories)), (h_a0_memories, .inl (cy 0, 3, .inl v_a0_memories)), (h_purses, .inl (cy 0, 3, .inl w_purses)), (h_a0_purses, .inl (cy 0, 3, .inl v_a0_purses))] H := hP
          have hD : va_D A [(h_this, .inr (8, [.ref h_people, .ref h_memories, .ref h_purses, .ref h_lives, .int (bz w_there), .int w_size, .int w_date, .int (bz w_evening), .int w_well, .int w_rights])), (h_a0, .inr (8, [.ref h_a0_people, .ref h_a0_memories, .ref h_a0_purses, .ref h_a0_lives, .int (bz v_a0_there), .int v_a0_size, .int v_a0_date, .int (bz v_a0_evening), .int v_a0_well, .int v_a0_rights])), (h_a0_lives, .inl (cy 0, 100, .inl v_a0_lives)), (h_lives, .inl (cy 0, 100, .inl w_lives)), (h_people, .inl (cy 3, 3, .inr (.inr (.inr (.inr (va_up w_people (l2).toNatClampNeg none)))))), (h_a0_people, .inl (cy 3, 3, .inr (.inr (.inr (.inr v_a0_people))))), (h_memories, .inl (cy 0, 3, .inl w_memories)), (h_a0_memories, .inl (cy 0, 3, .inl v_a0_memories)), (h_purses, .inl (cy 0, 3, .inl w_purses)), (h_a0_purses, .inl (cy 0, 3, .inl v_a0_purses))] := hD
          refine lv_aload_n hx hb dX9_takeFrom_67 rfl (lv_at hl 0 rfl) ?_
          refine va_get (D := D) (ci := 8) (v := .ref h_memories) (C := RX9) (T := TX9) (N := 10) hx hb hts inTX9 hown hK.1 hP 0 rfl rfl 1 (by decide) (hts _ t1_84) (fun _ h9 => h9) rfl dX9_takeFrom_68 ?_
          refine lv_iload_n hx hb dX9_takeFrom_71 rfl (lv_at hl 2 rfl) ?_
          refine lv_aload_n hx hb dX9_takeFrom_72 rfl (lv_at hl 1 rfl) ?_
          refine va_get (D := D) (ci := 8) (v := .ref h_a0_memories) (C := RX9) (T := TX9) (N := 10) hx hb hts inTX9 hown hK.1 hP 1 rfl rfl 1 (by decide) (hts _ t1_84) (fun _ h9 => h9) rfl dX9_takeFrom_73 ?_
          refine lv_iload_n hx hb dX9_takeFrom_76 rfl (lv_at hl 2 rfl) ?_
          obtain ⟨hi4, hF⟩ := hF
          refine s_iald (j := (l2).toNatClampNeg) hx hb hK.1 hP 7 0 rfl rfl hi4 rfl dX9_takeFrom_77 ?_
          obtain ⟨hi5, hF⟩ := hF
          refine s_iast (j := (l2).toNatClampNeg) hx hb hK.1 hP hD hS 6 0 rfl rfl hi5 rfl dX9_takeFrom_78 (fun H locs hP hD hS => ?_)
          have hP : va_P D CL [(h_this, .inr (8, [.ref h_people, .ref h_memories, .ref h_purses, .ref h_lives, .int (bz w_there), .int w_size, .int w_date, .int (bz w_evening), .int w_well, .int w_rights])), (h_a0, .inr (8, [.ref h_a0_people, .ref h_a0_memories, .ref h_a0_purses, .ref h_a0_lives, .int (bz v_a0_there), .int v_a0_size, .int v_a0_date, .int (bz v_a0_evening), .int v_a0_well, .int v_a0_rights])), (h_a0_lives, .inl (cy 0, 100, .inl v_a0_lives)), (h_lives, .inl (cy 0, 100, .inl w_lives)), (h_people, .inl (cy 3, 3, .inr (.inr (.inr (.inr (va_up w_people (l2).toNatClampNeg none)))))), (h_a0_people, .inl (cy 3, 3, .inr (.inr (.inr (.inr v_a0_people))))), (h_memories, .inl (cy 0, 3, .inl (upd w_memories ((l2).toNatClampNeg) (v_a0_memories ((l2).toNatClampNeg))))), (h_a0_memories, .inl (cy 0, 3, .inl v_a0_memories)), (h_purses, .inl (cy 0, 3, .inl w_purses)), (h_a0_purses, .inl (cy 0, 3, .inl v_a0_purses))] H := hP
          have hD : va_D A [(h_this, .inr (8, [.ref h_people, .ref h_memories, .ref h_purses, .ref h_lives, .int (bz w_there), .int w_size, .int w_date, .int (bz w_evening), .int w_well, .int w_rights])), (h_a0, .inr (8, [.ref h_a0_people, .ref h_a0_memories, .ref h_a0_purses, .ref h_a0_lives, .int (bz v_a0_there), .int v_a0_size, .int v_a0_date, .int (bz v_a0_evening), .int v_a0_well, .int v_a0_rights])), (h_a0_lives, .inl (cy 0, 100, .inl v_a0_lives)), (h_lives, .inl (cy 0, 100, .inl w_lives)), (h_people, .inl (cy 3, 3, .inr (.inr (.inr (.inr (va_up w_people (l2).toNatClampNeg none)))))), (h_a0_people, .inl (cy 3, 3, .inr (.inr (.inr (.inr v_a0_people))))), (h_memories, .inl (cy 0, 3, .inl (upd w_memories ((l2).toNatClampNeg) (v_a0_memories ((l2).toNatClampNeg))))), (h_a0_memories, .inl (cy 0, 3, .inl v_a0_memories)), (h_purses, .inl (cy 0, 3, .inl w_purses)), (h_a0_purses, .inl (cy 0, 3, .inl v_a0_purses))] := hD
          refine lv_aload_n hx hb dX9_takeFrom_79 rfl (lv_at hl 0 rfl) ?_
          refine va_get (D := D) (ci := 8) (v := .ref h_purses) (C := RX9) (T := TX9) (N := 10) hx hb hts inTX9 hown hK.1 hP 0 rfl rfl 2 (by decide) (hts _ t1_86) (fun _ h9 => h9) rfl dX9_takeFrom_80 ?_
          refine lv_iload_n hx hb dX9_takeFrom_83 rfl (lv_at hl 2 rfl) ?_
          refine lv_aload_n hx hb dX9_takeFrom_84 rfl (lv_at hl 1 rfl) ?_
          refine va_get (D := D) (ci := 8) (v := .ref h_a0_purses) (C := RX9) (T := TX9) (N := 10) hx hb hts inTX9 hown hK.1 hP 1 rfl rfl 2 (by decide) (hts _ t1_86) (fun _ h9 => h9) rfl dX9_takeFrom_85 ?_
          refine lv_iload_n hx hb dX9_takeFrom_88 rfl (lv_at hl 2 rfl) ?_
          obtain ⟨hi6, hF⟩ := hF
          refine s_iald (j := (l2).toNatClampNeg) hx hb hK.1 hP 9 0 rfl rfl hi6 rfl dX9_takeFrom_89 ?_
          obtain ⟨hi7, hF⟩ := hF
          refine s_iast (j := (l2).toNatClampNeg) hx hb hK.1 hP hD hS 8 0 rfl rfl hi7 rfl dX9_takeFrom_90 (fun H locs hP hD hS => ?_)
          have hP : va_P D CL [(h_this, .inr (8, [.ref h_people, .ref h_memories, .ref h_purses, .ref h_lives, .int (bz w_there), .int w_size, .int w_date, .int (bz w_evening), .int w_well, .int w_rights])), (h_a0, .inr (8, [.ref h_a0_people, .ref h_a0_memories, .ref h_a0_purses, .ref h_a0_lives, .int (bz v_a0_there), .int v_a0_size, .int v_a0_date, .int (bz v_a0_evening), .int v_a0_well, .int v_a0_rights])), (h_a0_lives, .inl (cy 0, 100, .inl v_a0_lives)), (h_lives, .inl (cy 0, 100, .inl w_lives)), (h_people, .inl (cy 3, 3, .inr (.inr (.inr (.inr (va_up w_people (l2).toNatClampNeg none)))))), (h_a0_people, .inl (cy 3, 3, .inr (.inr (.inr (.inr v_a0_people))))), (h_memories, .inl (cy 0, 3, .inl (upd w_memories ((l2).toNatClampNeg) (v_a0_memories ((l2).toNatClampNeg))))), (h_a0_memories, .inl (cy 0, 3, .inl v_a0_memories)), (h_purses, .inl (cy 0, 3, .inl (upd w_purses ((l2).toNatClampNeg) (v_a0_purses ((l2).toNatClampNeg))))), (h_a0_purses, .inl (cy 0, 3, .inl v_a0_purses))] H := hP
          have hD : va_D A [(h_this, .inr (8, [.ref h_people, .ref h_memories, .ref h_purses, .ref h_lives, .int (bz w_there), .int w_size, .int w_date, .int (bz w_evening), .int w_well, .int w_rights])), (h_a0, .inr (8, [.ref h_a0_people, .ref h_a0_memories, .ref h_a0_purses, .ref h_a0_lives, .int (bz v_a0_there), .int v_a0_size, .int v_a0_date, .int (bz v_a0_evening), .int v_a0_well, .int v_a0_rights])), (h_a0_lives, .inl (cy 0, 100, .inl v_a0_lives)), (h_lives, .inl (cy 0, 100, .inl w_lives)), (h_people, .inl (cy 3, 3, .inr (.inr (.inr (.inr (va_up w_people (l2).toNatClampNeg none)))))), (h_a0_people, .inl (cy 3, 3, .inr (.inr (.inr (.inr v_a0_people))))), (h_memories, .inl (cy 0, 3, .inl (upd w_memories ((l2).toNatClampNeg) (v_a0_memories ((l2).toNatClampNeg))))), (h_a0_memories, .inl (cy 0, 3, .inl v_a0_memories)), (h_purses, .inl (cy 0, 3, .inl (upd w_purses ((l2).toNatClampNeg) (v_a0_purses ((l2).toNatClampNeg))))), (h_a0_purses, .inl (cy 0, 3, .inl v_a0_purses))] := hD
          refine lv_iinc (v := (l2 + 1)) (lv' := [(2, .int (l2 + 1)), (0, .ref h_this), (1, .ref h_a0)]) hx hb dX9_takeFrom_91 hl (k := 2) rfl rfl (by decide) rfl (fun ls hl => ?_)
          refine lv_goto (tgt := 50) hx hb dX9_takeFrom_94 (by decide) ?_
          exact ih_50 (l2 + 1) w_there w_size w_date w_evening w_well w_rights w_lives (va_up w_people (l2).toNatClampNeg none) (upd w_memories ((l2).toNatClampNeg) (v_a0_memories ((l2).toNatClampNeg))) (upd w_purses ((l2).toNatClampNeg) (v_a0_purses ((l2).toNatClampNeg))) _ _ ls  hP hD hS (lv_sub hl [1, 2, 0] rfl) hF
        · obtain ⟨ha_a2, hF⟩ := hF.2 a2 hq
          obtain ⟨hi8, hF⟩ := hF
          refine va_astqM hx hb hK.1 hP hD hS 4 3 rfl rfl (pe_any hK (hI.at hS) ha_a2) hi8 dX9_takeFrom_66 (fun H locs hP hD hS => ?_)
          have hP : va_P D CL [(h_this, .inr (8, [.ref h_people, .ref h_memories, .ref h_purses, .ref h_lives, .int (bz w_there), .int w_size, .int w_date, .int (bz w_evening), .int w_well, .int w_rights])), (h_a0, .inr (8, [.ref h_a0_people, .ref h_a0_memories, .ref h_a0_purses, .ref h_a0_lives, .int (bz v_a0_there), .int v_a0_size, .int v_a0_date, .int (bz v_a0_evening), .int v_a0_well, .int v_a0_rights])), (h_a0_lives, .inl (cy 0, 100, .inl v_a0_lives)), (h_lives, .inl (cy 0, 100, .inl w_lives)), (h_people, .inl (cy 3, 3, .inr (.inr (.inr (.inr (va_up w_people (l2).toNatClampNeg (some a2))))))), (h_a0_people, .inl (cy 3, 3, .inr (.inr (.inr (.inr v_a0_people))))), (h_memories, .inl (cy 0, 3, .inl w_memories)), (h_a0_memories, .inl (cy 0, 3, .inl v_a0_memories)), (h_purses, .inl (cy 0, 3, .inl w_purses)), (h_a0_purses, .inl (cy 0, 3, .inl v_a0_purses))] H := hP
          have hD : va_D A [(h_this, .inr (8, [.ref h_people, .ref h_memories, .ref h_purses, .ref h_lives, .int (bz w_there), .int w_size, .int w_date, .int (bz w_evening), .int w_well, .int w_rights])), (h_a0, .inr (8, [.ref h_a0_people, .ref h_a0_memories, .ref h_a0_purses, .ref h_a0_lives, .int (bz v_a0_there), .int v_a0_size, .int v_a0_date, .int (bz v_a0_evening), .int v_a0_well, .int v_a0_rights])), (h_a0_lives, .inl (cy 0, 100, .inl v_a0_lives)), (h_lives, .inl (cy 0, 100, .inl w_lives)), (h_people, .inl (cy 3, 3, .inr (.inr (.inr (.inr (va_up w_people (l2).toNatClampNeg (some a2))))))), (h_a0_people, .inl (cy 3, 3, .inr (.inr (.inr (.inr v_a0_people))))), (h_memories, .inl (cy 0, 3, .inl w_memories)), (h_a0_memories, .inl (cy 0, 3, .inl v_a0_memories)), (h_purses, .inl (cy 0, 3, .inl w_purses)), (h_a0_purses, .inl (cy 0, 3, .inl v_a0_purses))] := hD
          refine lv_aload_n hx hb dX9_takeFrom_67 rfl (lv_at hl 0 rfl) ?_
          refine va_get (D := D) (ci := 8) (v := .ref h_memories) (C := RX9) (T := TX9) (N := 10) hx hb hts inTX9 hown hK.1 hP 0 rfl rfl 1 (by decide) (hts _ t1_84) (fun _ h9 => h9) rfl dX9_takeFrom_68 ?_
          refine lv_iload_n hx hb dX9_takeFrom_71 rfl (lv_at hl 2 rfl) ?_
          refine lv_aload_n hx hb dX9_takeFrom_72 rfl (lv_at hl 1 rfl) ?_
          refine va_get (D := D) (ci := 8) (v := .ref h_a0_memories) (C := RX9) (T := TX9) (N := 10) hx hb hts inTX9 hown hK.1 hP 1 rfl rfl 1 (by decide) (hts _ t1_84) (fun _ h9 => h9) rfl dX9_takeFrom_73 ?_
          refine lv_iload_n hx hb dX9_takeFrom_76 rfl (lv_at hl 2 rfl) ?_
          obtain ⟨hi9, hF⟩ := hF
          refine s_iald (j := (l2).toNatClampNeg) hx hb hK.1 hP 7 0 rfl rfl hi9 rfl dX9_takeFrom_77 ?_
          obtain ⟨hi10, hF⟩ := hF
          refine s_iast (j := (l2).toNatClampNeg) hx hb hK.1 hP hD hS 6 0 rfl rfl hi10 rfl dX9_takeFrom_78 (fun H locs hP hD hS => ?_)
          have hP : va_P D CL [(h_this, .inr (8, [.ref h_people, .ref h_memories, .ref h_purses, .ref h_lives, .int (bz w_there), .int w_size, .int w_date, .int (bz w_evening), .int w_well, .int w_rights])), (h_a0, .inr (8, [.ref h_a0_people, .ref h_a0_memories, .ref h_a0_purses, .ref h_a0_lives, .int (bz v_a0_there), .int v_a0_size, .int v_a0_date, .int (bz v_a0_evening), .int v_a0_well, .int v_a0_rights])), (h_a0_lives, .inl (cy 0, 100, .inl v_a0_lives)), (h_lives, .inl (cy 0, 100, .inl w_lives)), (h_people, .inl (cy 3, 3, .inr (.inr (.inr (.inr (va_up w_people (l2).toNatClampNeg (some a2))))))), (h_a0_people, .inl (cy 3, 3, .inr (.inr (.inr (.inr v_a0_people))))), (h_memories, .inl (cy 0, 3, .inl (upd w_memories ((l2).toNatClampNeg) (v_a0_memories ((l2).toNatClampNeg))))), (h_a0_memories, .inl (cy 0, 3, .inl v_a0_memories)), (h_purses, .inl (cy 0, 3, .inl w_purses)), (h_a0_purses, .inl (cy 0, 3, .inl v_a0_purses))] H := hP
          have hD : va_D A [(h_this, .inr (8, [.ref h_people, .ref h_memories, .ref h_purses, .ref h_lives, .int (bz w_there), .int w_size, .int w_date, .int (bz w_evening), .int w_well, .int w_rights])), (h_a0, .inr (8, [.ref h_a0_people, .ref h_a0_memories, .ref h_a0_purses, .ref h_a0_lives, .int (bz v_a0_there), .int v_a0_size, .int v_a0_date, .int (bz v_a0_evening), .int v_a0_well, .int v_a0_rights])), (h_a0_lives, .inl (cy 0, 100, .inl v_a0_lives)), (h_lives, .inl (cy 0, 100, .inl w_lives)), (h_people, .inl (cy 3, 3, .inr (.inr (.inr (.inr (va_up w_people (l2).toNatClampNeg (some a2))))))), (h_a0_people, .inl (cy 3, 3, .inr (.inr (.inr (.inr v_a0_people))))), (h_memories, .inl (cy 0, 3, .inl (upd w_memories ((l2).toNatClampNeg) (v_a0_memories ((l2).toNatClampNeg))))), (h_a0_memories, .inl (cy 0, 3, .inl v_a0_memories)), (h_purses, .inl (cy 0, 3, .inl w_purses)), (h_a0_purses, .inl (cy 0, 3, .inl v_a0_purses))] := hD
          refine lv_aload_n hx hb dX9_takeFrom_79 rfl (lv_at hl 0 rfl) ?_
          refine va_get (D := D) (ci := 8) (v := .ref h_purses) (C := RX9) (T := TX9) (N := 10) hx hb hts inTX9 hown hK.1 hP 0 rfl rfl 2 (by decide) (hts _ t1_86) (fun _ h9 => h9) rfl dX9_takeFrom_80 ?_
          refine lv_iload_n hx hb dX9_takeFrom_83 rfl (lv_at hl 2 rfl) ?_
          refine lv_aload_n hx hb dX9_takeFrom_84 rfl (lv_at hl 1 rfl) ?_
          refine va_get (D := D) (ci := 8) (v := .ref h_a0_purses) (C := RX9) (T := TX9) (N := 10) hx hb hts inTX9 hown hK.1 hP 1 rfl rfl 2 (by decide) (hts _ t1_86) (fun _ h9 => h9) rfl dX9_takeFrom_85 ?_
          refine lv_iload_n hx hb dX9_takeFrom_88 rfl (lv_at hl 2 rfl) ?_
          obtain ⟨hi11, hF⟩ := hF
          refine s_iald (j := (l2).toNatClampNeg) hx hb hK.1 hP 9 0 rfl rfl hi11 rfl dX9_takeFrom_89 ?_
          obtain ⟨hi12, hF⟩ := hF
          refine s_iast (j := (l2).toNatClampNeg) hx hb hK.1 hP hD hS 8 0 rfl rfl hi12 rfl dX9_takeFrom_90 (fun H locs hP hD hS => ?_)
          have hP : va_P D CL [(h_this, .inr (8, [.ref h_people, .ref h_memories, .ref h_purses, .ref h_lives, .int (bz w_there), .int w_size, .int w_date, .int (bz w_evening), .int w_well, .int w_rights])), (h_a0, .inr (8, [.ref h_a0_people, .ref h_a0_memories, .ref h_a0_purses, .ref h_a0_lives, .int (bz v_a0_there), .int v_a0_size, .int v_a0_date, .int (bz v_a0_evening), .int v_a0_well, .int v_a0_rights])), (h_a0_lives, .inl (cy 0, 100, .inl v_a0_lives)), (h_lives, .inl (cy 0, 100, .inl w_lives)), (h_people, .inl (cy 3, 3, .inr (.inr (.inr (.inr (va_up w_people (l2).toNatClampNeg (some a2))))))), (h_a0_people, .inl (cy 3, 3, .inr (.inr (.inr (.inr v_a0_people))))), (h_memories, .inl (cy 0, 3, .inl (upd w_memories ((l2).toNatClampNeg) (v_a0_memories ((l2).toNatClampNeg))))), (h_a0_memories, .inl (cy 0, 3, .inl v_a0_memories)), (h_purses, .inl (cy 0, 3, .inl (upd w_purses ((l2).toNatClampNeg) (v_a0_purses ((l2).toNatClampNeg))))), (h_a0_purses, .inl (cy 0, 3, .inl v_a0_purses))] H := hP
          have hD : va_D A [(h_this, .inr (8, [.ref h_people, .ref h_memories, .ref h_purses, .ref h_lives, .int (bz w_there), .int w_size, .int w_date, .int (bz w_evening), .int w_well, .int w_rights])), (h_a0, .inr (8, [.ref h_a0_people, .ref h_a0_memories, .ref h_a0_purses, .ref h_a0_lives, .int (bz v_a0_there), .int v_a0_size, .int v_a0_date, .int (bz v_a0_evening), .int v_a0_well, .int v_a0_rights])), (h_a0_lives, .inl (cy 0, 100, .inl v_a0_lives)), (h_lives, .inl (cy 0, 100, .inl w_lives)), (h_people, .inl (cy 3, 3, .inr (.inr (.inr (.inr (va_up w_people (l2).toNatClampNeg (some a2))))))), (h_a0_people, .inl (cy 3, 3, .inr (.inr (.inr (.inr v_a0_people))))), (h_memories, .inl (cy 0, 3, .inl (upd w_memories ((l2).toNatClampNeg) (v_a0_memories ((l2).toNatClampNeg))))), (h_a0_memories, .inl (cy 0, 3, .inl v_a0_memories)), (h_purses, .inl (cy 0, 3, .inl (upd w_purses ((l2).toNatClampNeg) (v_a0_purses ((l2).toNatClampNeg))))), (h_a0_purses, .inl (cy 0, 3, .inl v_a0_purses))] := hD
          refine lv_iinc (v := (l2 + 1)) (lv' := [(2, .int (l2 + 1)), (0, .ref h_this), (1, .ref h_a0)]) hx hb dX9_takeFrom_91 hl (k := 2) rfl rfl (by decide) rfl (fun ls hl => ?_)
          refine lv_goto (tgt := 50) hx hb dX9_takeFrom_94 (by decide) ?_
          exact ih_50 (l2 + 1) w_there w_size w_date w_evening w_well w_rights w_lives (va_up w_people (l2).toNatClampNeg (some a2)) (upd w_memories ((l2).toNatClampNeg) (v_a0_memories ((l2).toNatClampNeg))) (upd w_purses ((l2).toNatClampNeg) (v_a0_purses ((l2).toNatClampNeg))) _ _ ls  hP hD hS (lv_sub hl [1, 2, 0] rfl) hF
  unfold wpX9_takeFrom at hF
  refine lv_aload_n hx hb dX9_takeFrom_0 rfl (lv_at hl 0 rfl) ?_
  refine lv_aload_n hx hb dX9_takeFrom_1 rfl (lv_at hl 1 rfl) ?_
  refine va_get (D := D) (ci := 8) (v := .int (bz v_a0_there)) (C := RX9) (T := TX9) (N := 10) hx hb hts inTX9 hown hK.1 hP 1 rfl rfl 4 (by decide) (hts _ t1_90) (fun _ h9 => h9) rfl dX9_takeFrom_2 ?_
  refine va_put (D := D) (ci := 8) (v := .int (bz v_a0_there)) (ty := .boolean) (C := RX9) (T := TX9) (N := 10) hx hb hts inTX9 tyX9 tyX9_ok nmX9 hown hK.1 hP hD hS 0 rfl rfl 4 (by decide) (hts _ t1_90) (fun _ h9 => h9) rfl (tyX9_ok 4 (by decide)) (nr_bz _) (ft_bz _) (Nat.le_of_ble_eq_true rfl) dX9_takeFrom_5 (fun H locs hP hD hS => ?_)
  have hP : va_P D CL [(h_this, .inr (8, [.ref h_people, .ref h_memories, .ref h_purses, .ref h_lives, .int (bz v_a0_there), .int v_size, .int v_date, .int (bz v_evening), .int v_well, .int v_rights])), (h_a0, .inr (8, [.ref h_a0_people, .ref h_a0_memories, .ref h_a0_purses, .ref h_a0_lives, .int (bz v_a0_there), .int v_a0_size, .int v_a0_date, .int (bz v_a0_evening), .int v_a0_well, .int v_a0_rights])), (h_a0_lives, .inl (cy 0, 100, .inl v_a0_lives)), (h_lives, .inl (cy 0, 100, .inl v_lives)), (h_people, .inl (cy 3, 3, .inr (.inr (.inr (.inr v_people))))), (h_a0_people, .inl (cy 3, 3, .inr (.inr (.inr (.inr v_a0_people))))), (h_memories, .inl (cy 0, 3, .inl v_memories)), (h_a0_memories, .inl (cy 0, 3, .inl v_a0_memories)), (h_purses, .inl (cy 0, 3, .inl v_purses)), (h_a0_purses, .inl (cy 0, 3, .inl v_a0_purses))] H := hP
  have hD : va_D A [(h_this, .inr (8, [.ref h_people, .ref h_memories, .ref h_purses, .ref h_lives, .int (bz v_a0_there), .int v_size, .int v_date, .int (bz v_evening), .int v_well, .int v_rights])), (h_a0, .inr (8, [.ref h_a0_people, .ref h_a0_memories, .ref h_a0_purses, .ref h_a0_lives, .int (bz v_a0_there), .int v_a0_size, .int v_a0_date, .int (bz v_a0_evening), .int v_a0_well, .int v_a0_rights])), (h_a0_lives, .inl (cy 0, 100, .inl v_a0_lives)), (h_lives, .inl (cy 0, 100, .inl v_lives)), (h_people, .inl (cy 3, 3, .inr (.inr (.inr (.inr v_people))))), (h_a0_people, .inl (cy 3, 3, .inr (.inr (.inr (.inr v_a0_people))))), (h_memories, .inl (cy 0, 3, .inl v_memories)), (h_a0_memories, .inl (cy 0, 3, .inl v_a0_memories)), (h_purses, .inl (cy 0, 3, .inl v_purses)), (h_a0_purses, .inl (cy 0, 3, .inl v_a0_purses))] := hD
  refine lv_aload_n hx hb dX9_takeFrom_8 rfl (lv_at hl 0 rfl) ?_
  refine lv_aload_n hx hb dX9_takeFrom_9 rfl (lv_at hl 1 rfl) ?_
  refine va_get (D := D) (ci := 8) (v := .int v_a0_size) (C := RX9) (T := TX9) (N := 10) hx hb hts inTX9 hown hK.1 hP 1 rfl rfl 5 (by decide) (hts _ t1_92) (fun _ h9 => h9) rfl dX9_takeFrom_10 ?_
  refine va_put (D := D) (ci := 8) (v := .int v_a0_size) (ty := .int) (C := RX9) (T := TX9) (N := 10) hx hb hts inTX9 tyX9 tyX9_ok nmX9 hown hK.1 hP hD hS 0 rfl rfl 5 (by decide) (hts _ t1_92) (fun _ h9 => h9) rfl (tyX9_ok 5 (by decide)) rfl rfl (Nat.le_of_ble_eq_true rfl) dX9_takeFrom_13 (fun H locs hP hD hS => ?_)
  have hP : va_P D CL [(h_this, .inr (8, [.ref h_people, .ref h_memories, .ref h_purses, .ref h_lives, .int (bz v_a0_there), .int v_a0_size, .int v_date, .int (bz v_evening), .int v_well, .int v_rights])), (h_a0, .inr (8, [.ref h_a0_people, .ref h_a0_memories, .ref h_a0_purses, .ref h_a0_lives, .int (bz v_a0_there), .int v_a0_size, .int v_a0_date, .int (bz v_a0_evening), .int v_a0_well, .int v_a0_rights])), (h_a0_lives, .inl (cy 0, 100, .inl v_a0_lives)), (h_lives, .inl (cy 0, 100, .inl v_lives)), (h_people, .inl (cy 3, 3, .inr (.inr (.inr (.inr v_people))))), (h_a0_people, .inl (cy 3, 3, .inr (.inr (.inr (.inr v_a0_people))))), (h_memories, .inl (cy 0, 3, .inl v_memories)), (h_a0_memories, .inl (cy 0, 3, .inl v_a0_memories)), (h_purses, .inl (cy 0, 3, .inl v_purses)), (h_a0_purses, .inl (cy 0, 3, .inl v_a0_purses))] H := hP
  have hD : va_D A [(h_this, .inr (8, [.ref h_people, .ref h_memories, .ref h_purses, .ref h_lives, .int (bz v_a0_there), .int v_a0_size, .int v_date, .int (bz v_evening), .int v_well, .int v_rights])), (h_a0, .inr (8, [.ref h_a0_people, .ref h_a0_memories, .ref h_a0_purses, .ref h_a0_lives, .int (bz v_a0_there), .int v_a0_size, .int v_a0_date, .int (bz v_a0_evening), .int v_a0_well, .int v_a0_rights])), (h_a0_lives, .inl (cy 0, 100, .inl v_a0_lives)), (h_lives, .inl (cy 0, 100, .inl v_lives)), (h_people, .inl (cy 3, 3, .inr (.inr (.inr (.inr v_people))))), (h_a0_people, .inl (cy 3, 3, .inr (.inr (.inr (.inr v_a0_people))))), (h_memories, .inl (cy 0, 3, .inl v_memories)), (h_a0_memories, .inl (cy 0, 3, .inl v_a0_memories)), (h_purses, .inl (cy 0, 3, .inl v_purses)), (h_a0_purses, .inl (cy 0, 3, .inl v_a0_purses))] := hD
  refine lv_aload_n hx hb dX9_takeFrom_16 rfl (lv_at hl 0 rfl) ?_
  refine lv_aload_n hx hb dX9_takeFrom_17 rfl (lv_at hl 1 rfl) ?_
  refine va_get (D := D) (ci := 8) (v := .int v_a0_date) (C := RX9) (T := TX9) (N := 10) hx hb hts inTX9 hown hK.1 hP 1 rfl rfl 6 (by decide) (hts _ t1_95) (fun _ h9 => h9) rfl dX9_takeFrom_18 ?_
  refine va_put (D := D) (ci := 8) (v := .int v_a0_date) (ty := .int) (C := RX9) (T := TX9) (N := 10) hx hb hts inTX9 tyX9 tyX9_ok nmX9 hown hK.1 hP hD hS 0 rfl rfl 6 (by decide) (hts _ t1_95) (fun _ h9 => h9) rfl (tyX9_ok 6 (by decide)) rfl rfl (Nat.le_of_ble_eq_true rfl) dX9_takeFrom_21 (fun H locs hP hD hS => ?_)
  have hP : va_P D CL [(h_this, .inr (8, [.ref h_people, .ref h_memories, .ref h_purses, .ref h_lives, .int (bz v_a0_there), .int v_a0_size, .int v_a0_date, .int (bz v_evening), .int v_well, .int v_rights])), (h_a0, .inr (8, [.ref h_a0_people, .ref h_a0_memories, .ref h_a0_purses, .ref h_a0_lives, .int (bz v_a0_there), .int v_a0_size, .int v_a0_date, .int (bz v_a0_evening), .int v_a0_well, .int v_a0_rights])), (h_a0_lives, .inl (cy 0, 100, .inl v_a0_lives)), (h_lives, .inl (cy 0, 100, .inl v_lives)), (h_people, .inl (cy 3, 3, .inr (.inr (.inr (.inr v_people))))), (h_a0_people, .inl (cy 3, 3, .inr (.inr (.inr (.inr v_a0_people))))), (h_memories, .inl (cy 0, 3, .inl v_memories)), (h_a0_memories, .inl (cy 0, 3, .inl v_a0_memories)), (h_purses, .inl (cy 0, 3, .inl v_purses)), (h_a0_purses, .inl (cy 0, 3, .inl v_a0_purses))] H := hP
  have hD : va_D A [(h_this, .inr (8, [.ref h_people, .ref h_memories, .ref h_purses, .ref h_lives, .int (bz v_a0_there), .int v_a0_size, .int v_a0_date, .int (bz v_evening), .int v_well, .int v_rights])), (h_a0, .inr (8, [.ref h_a0_people, .ref h_a0_memories, .ref h_a0_purses, .ref h_a0_lives, .int (bz v_a0_there), .int v_a0_size, .int v_a0_date, .int (bz v_a0_evening), .int v_a0_well, .int v_a0_rights])), (h_a0_lives, .inl (cy 0, 100, .inl v_a0_lives)), (h_lives, .inl (cy 0, 100, .inl v_lives)), (h_people, .inl (cy 3, 3, .inr (.inr (.inr (.inr v_people))))), (h_a0_people, .inl (cy 3, 3, .inr (.inr (.inr (.inr v_a0_people))))), (h_memories, .inl (cy 0, 3, .inl v_memories)), (h_a0_memories, .inl (cy 0, 3, .inl v_a0_memories)), (h_purses, .inl (cy 0, 3, .inl v_purses)), (h_a0_purses, .inl (cy 0, 3, .inl v_a0_purses))] := hD
  refine lv_aload_n hx hb dX9_takeFrom_24 rfl (lv_at hl 0 rfl) ?_
  refine lv_aload_n hx hb dX9_takeFrom_25 rfl (lv_at hl 1 rfl) ?_
  refine va_get (D := D) (ci := 8) (v := .int (bz v_a0_evening)) (C := RX9) (T := TX9) (N := 10) hx hb hts inTX9 hown hK.1 hP 1 rfl rfl 7 (by decide) (hts _ t1_97) (fun _ h9 => h9) rfl dX9_takeFrom_26 ?_
  refine va_put (D := D) (ci := 8) (v := .int (bz v_a0_evening)) (ty := .boolean) (C := RX9) (T := TX9) (N := 10) hx hb hts inTX9 tyX9 tyX9_ok nmX9 hown hK.1 hP hD hS 0 rfl rfl 7 (by decide) (hts _ t1_97) (fun _ h9 => h9) rfl (tyX9_ok 7 (by decide)) (nr_bz _) (ft_bz _) (Nat.le_of_ble_eq_true rfl) dX9_takeFrom_29 (fun H locs hP hD hS => ?_)
  have hP : va_P D CL [(h_this, .inr (8, [.ref h_people, .ref h_memories, .ref h_purses, .ref h_lives, .int (bz v_a0_there), .int v_a0_size, .int v_a0_date, .int (bz v_a0_evening), .int v_well, .int v_rights])), (h_a0, .inr (8, [.ref h_a0_people, .ref h_a0_memories, .ref h_a0_purses, .ref h_a0_lives, .int (bz v_a0_there), .int v_a0_size, .int v_a0_date, .int (bz v_a0_evening), .int v_a0_well, .int v_a0_rights])), (h_a0_lives, .inl (cy 0, 100, .inl v_a0_lives)), (h_lives, .inl (cy 0, 100, .inl v_lives)), (h_people, .inl (cy 3, 3, .inr (.inr (.inr (.inr v_people))))), (h_a0_people, .inl (cy 3, 3, .inr (.inr (.inr (.inr v_a0_people))))), (h_memories, .inl (cy 0, 3, .inl v_memories)), (h_a0_memories, .inl (cy 0, 3, .inl v_a0_memories)), (h_purses, .inl (cy 0, 3, .inl v_purses)), (h_a0_purses, .inl (cy 0, 3, .inl v_a0_purses))] H := hP
  have hD : va_D A [(h_this, .inr (8, [.ref h_people, .ref h_memories, .ref h_purses, .ref h_lives, .int (bz v_a0_there), .int v_a0_size, .int v_a0_date, .int (bz v_a0_evening), .int v_well, .int v_rights])), (h_a0, .inr (8, [.ref h_a0_people, .ref h_a0_memories, .ref h_a0_purses, .ref h_a0_lives, .int (bz v_a0_there), .int v_a0_size, .int v_a0_date, .int (bz v_a0_evening), .int v_a0_well, .int v_a0_rights])), (h_a0_lives, .inl (cy 0, 100, .inl v_a0_lives)), (h_lives, .inl (cy 0, 100, .inl v_lives)), (h_people, .inl (cy 3, 3, .inr (.inr (.inr (.inr v_people))))), (h_a0_people, .inl (cy 3, 3, .inr (.inr (.inr (.inr v_a0_people))))), (h_memories, .inl (cy 0, 3, .inl v_memories)), (h_a0_memories, .inl (cy 0, 3, .inl v_a0_memories)), (h_purses, .inl (cy 0, 3, .inl v_purses)), (h_a0_purses, .inl (cy 0, 3, .inl v_a0_purses))] := hD
  refine lv_aload_n hx hb dX9_takeFrom_32 rfl (lv_at hl 0 rfl) ?_
  refine lv_aload_n hx hb dX9_takeFrom_33 rfl (lv_at hl 1 rfl) ?_
  refine va_get (D := D) (ci := 8) (v := .int v_a0_well) (C := RX9) (T := TX9) (N := 10) hx hb hts inTX9 hown hK.1 hP 1 rfl rfl 8 (by decide) (hts _ t1_99) (fun _ h9 => h9) rfl dX9_takeFrom_34 ?_
  refine va_put (D := D) (ci := 8) (v := .int v_a0_well) (ty := .int) (C := RX9) (T := TX9) (N := 10) hx hb hts inTX9 tyX9 tyX9_ok nmX9 hown hK.1 hP hD hS 0 rfl rfl 8 (by decide) (hts _ t1_99) (fun _ h9 => h9) rfl (tyX9_ok 8 (by decide)) rfl rfl (Nat.le_of_ble_eq_true rfl) dX9_takeFrom_37 (fun H locs hP hD hS => ?_)
  have hP : va_P D CL [(h_this, .inr (8, [.ref h_people, .ref h_memories, .ref h_purses, .ref h_lives, .int (bz v_a0_there), .int v_a0_size, .int v_a0_date, .int (bz v_a0_evening), .int v_a0_well, .int v_rights])), (h_a0, .inr (8, [.ref h_a0_people, .ref h_a0_memories, .ref h_a0_purses, .ref h_a0_lives, .int (bz v_a0_there), .int v_a0_size, .int v_a0_date, .int (bz v_a0_evening), .int v_a0_well, .int v_a0_rights])), (h_a0_lives, .inl (cy 0, 100, .inl v_a0_lives)), (h_lives, .inl (cy 0, 100, .inl v_lives)), (h_people, .inl (cy 3, 3, .inr (.inr (.inr (.inr v_people))))), (h_a0_people, .inl (cy 3, 3, .inr (.inr (.inr (.inr v_a0_people))))), (h_memories, .inl (cy 0, 3, .inl v_memories)), (h_a0_memories, .inl (cy 0, 3, .inl v_a0_memories)), (h_purses, .inl (cy 0, 3, .inl v_purses)), (h_a0_purses, .inl (cy 0, 3, .inl v_a0_purses))] H := hP
  have hD : va_D A [(h_this, .inr (8, [.ref h_people, .ref h_memories, .ref h_purses, .ref h_lives, .int (bz v_a0_there), .int v_a0_size, .int v_a0_date, .int (bz v_a0_evening), .int v_a0_well, .int v_rights])), (h_a0, .inr (8, [.ref h_a0_people, .ref h_a0_memories, .ref h_a0_purses, .ref h_a0_lives, .int (bz v_a0_there), .int v_a0_size, .int v_a0_date, .int (bz v_a0_evening), .int v_a0_well, .int v_a0_rights])), (h_a0_lives, .inl (cy 0, 100, .inl v_a0_lives)), (h_lives, .inl (cy 0, 100, .inl v_lives)), (h_people, .inl (cy 3, 3, .inr (.inr (.inr (.inr v_people))))), (h_a0_people, .inl (cy 3, 3, .inr (.inr (.inr (.inr v_a0_people))))), (h_memories, .inl (cy 0, 3, .inl v_memories)), (h_a0_memories, .inl (cy 0, 3, .inl v_a0_memories)), (h_purses, .inl (cy 0, 3, .inl v_purses)), (h_a0_purses, .inl (cy 0, 3, .inl v_a0_purses))] := hD
  refine lv_aload_n hx hb dX9_takeFrom_40 rfl (lv_at hl 0 rfl) ?_
  refine lv_aload_n hx hb dX9_takeFrom_41 rfl (lv_at hl 1 rfl) ?_
  refine va_get (D := D) (ci := 8) (v := .int v_a0_rights) (C := RX9) (T := TX9) (N := 10) hx hb hts inTX9 hown hK.1 hP 1 rfl rfl 9 (by decide) (hts _ t1_101) (fun _ h9 => h9) rfl dX9_takeFrom_42 ?_
  refine va_put (D := D) (ci := 8) (v := .int v_a0_rights) (ty := .int) (C := RX9) (T := TX9) (N := 10) hx hb hts inTX9 tyX9 tyX9_ok nmX9 hown hK.1 hP hD hS 0 rfl rfl 9 (by decide) (hts _ t1_101) (fun _ h9 => h9) rfl (tyX9_ok 9 (by decide)) rfl rfl (Nat.le_of_ble_eq_true rfl) dX9_takeFrom_45 (fun H locs hP hD hS => ?_)
  have hP : va_P D CL [(h_this, .inr (8, [.ref h_people, .ref h_memories, .ref h_purses, .ref h_lives, .int (bz v_a0_there), .int v_a0_size, .int v_a0_date, .int (bz v_a0_evening), .int v_a0_well, .int v_a0_rights])), (h_a0, .inr (8, [.ref h_a0_people, .ref h_a0_memories, .ref h_a0_purses, .ref h_a0_lives, .int (bz v_a0_there), .int v_a0_size, .int v_a0_date, .int (bz v_a0_evening), .int v_a0_well, .int v_a0_rights])), (h_a0_lives, .inl (cy 0, 100, .inl v_a0_lives)), (h_lives, .inl (cy 0, 100, .inl v_lives)), (h_people, .inl (cy 3, 3, .inr (.inr (.inr (.inr v_people))))), (h_a0_people, .inl (cy 3, 3, .inr (.inr (.inr (.inr v_a0_people))))), (h_memories, .inl (cy 0, 3, .inl v_memories)), (h_a0_memories, .inl (cy 0, 3, .inl v_a0_memories)), (h_purses, .inl (cy 0, 3, .inl v_purses)), (h_a0_purses, .inl (cy 0, 3, .inl v_a0_purses))] H := hP
  have hD : va_D A [(h_this, .inr (8, [.ref h_people, .ref h_memories, .ref h_purses, .ref h_lives, .int (bz v_a0_there), .int v_a0_size, .int v_a0_date, .int (bz v_a0_evening), .int v_a0_well, .int v_a0_rights])), (h_a0, .inr (8, [.ref h_a0_people, .ref h_a0_memories, .ref h_a0_purses, .ref h_a0_lives, .int (bz v_a0_there), .int v_a0_size, .int v_a0_date, .int (bz v_a0_evening), .int v_a0_well, .int v_a0_rights])), (h_a0_lives, .inl (cy 0, 100, .inl v_a0_lives)), (h_lives, .inl (cy 0, 100, .inl v_lives)), (h_people, .inl (cy 3, 3, .inr (.inr (.inr (.inr v_people))))), (h_a0_people, .inl (cy 3, 3, .inr (.inr (.inr (.inr v_a0_people))))), (h_memories, .inl (cy 0, 3, .inl v_memories)), (h_a0_memories, .inl (cy 0, 3, .inl v_a0_memories)), (h_purses, .inl (cy 0, 3, .inl v_purses)), (h_a0_purses, .inl (cy 0, 3, .inl v_a0_purses))] := hD
  refine lv_iconst (v := 0) hx hb dX9_takeFrom_48 (by decide) ?_
  refine lv_istore_n (lv' := [(2, .int 0), (0, .ref h_this), (1, .ref h_a0)]) hx hb dX9_takeFrom_49 rfl hl (by decide) rfl (fun ls hl => ?_)
  exact L_50 fu 0 v_a0_there v_a0_size v_a0_date v_a0_evening v_a0_well v_a0_rights v_lives v_people v_memories v_purses _ _ ls  hP hD hS (lv_sub hl [1, 2, 0] rfl) hF

def wjX9_keepIn_23 (v_date : Int32) (v_evening : Bool) (v_well : Int32) (v_rights : Int32) (v_lives : Nat → Int32) (v_memories : Nat → Int32) (v_purses : Nat → Int32) (post : Unit → (Nat → Int32) → Prop) (l2 : Int32) (k0 : Bool) (k1 : Int32) (w_a0 : Nat → Int32) : Prop := vp_in k1 264 ∧ (vp_in (l2 + 2) 264 ∧ (vp_in (l2 + 3) 264 ∧ (vp_in v_date 100 ∧ (vp_in (l2 + 4) 264 ∧ (¬ (l2 + 5) < 0 ∧ ((l2 + 5) : Int32).toNatClampNeg + (3 : Int32).toNatClampNeg ≤ 264 ∧ (¬ ((l2 + 5) + 3) < 0 ∧ (((l2 + 5) + 3) : Int32).toNatClampNeg + (3 : Int32).toNatClampNeg ≤ 264 ∧ (post () (va_cpy v_purses (va_cpy v_memories (upd (upd (upd (upd w_a0 ((k1).toNatClampNeg) (bz k0)) (((l2 + 2)).toNatClampNeg) v_well) (((l2 + 3)).toNatClampNeg) v_rights) (((l2 + 4)).toNatClampNeg) (v_lives ((v_date).toNatClampNeg))) (0 : Int32).toNatClampNeg ((l2 + 5) : Int32).toNatClampNeg (3 : Int32).toNatClampNeg) (0 : Int32).toNatClampNeg (((l2 + 5) + 3) : Int32).toNatClampNeg (3 : Int32).toNatClampNeg))))))))
def wpX9_keepIn (p1 : Int32) (v_date : Int32) (v_evening : Bool) (v_well : Int32) (v_rights : Int32) (v_a0 : Nat → Int32) (v_lives : Nat → Int32) (v_memories : Nat → Int32) (v_purses : Nat → Int32) (post : Unit → (Nat → Int32) → Prop) : Prop := vp_in p1 264 ∧ ((v_evening = false → (wjX9_keepIn_23 v_date v_evening v_well v_rights v_lives v_memories v_purses post p1 false (p1 + 1) (upd v_a0 ((p1).toNatClampNeg) v_date))) ∧ (v_evening = true → (wjX9_keepIn_23 v_date v_evening v_well v_rights v_lives v_memories v_purses post p1 true (p1 + 1) (upd v_a0 ((p1).toNatClampNeg) v_date))))
abbrev miX9_keepIn : MI := (yX9_keepIn, cX9_keepIn, 3, none)
theorem mfX9_keepIn : MF miX9_keepIn 2 := ⟨t2_191, t1_5, by decide +kernel⟩
abbrev rmX9_keepIn : Room := { frames := 1, cells := 0, slots := 0, locals := 68 }
set_option maxHeartbeats 4000000 in
set_option maxRecDepth 100000 in
theorem ccX9_keepIn (l : Launch) (D : va_G) (cy : Nat → ClassId) (h_this : Nat) (h_a0 : Nat) (h_lives : Nat) (h_memories : Nat) (h_purses : Nat) (x_people : Value) (v_there : Bool) (v_size : Int32) (v_date : Int32) (v_evening : Bool) (v_well : Int32) (v_rights : Int32) (v_a0 : Nat → Int32) (v_lives : Nat → Int32) (v_memories : Nat → Int32) (v_purses : Nat → Int32) (p1 : Int32) (post : Unit → (Nat → Int32) → Prop) (hF : wpX9_keepIn p1 v_date v_evening v_well v_rights v_a0 v_lives v_memories v_purses post) : Ct l D cy miX9_keepIn rmX9_keepIn emV NP [.ref h_this, .ref h_a0, .int p1] [(h_this, .inr (8, [x_people, .ref h_memories, .ref h_purses, .ref h_lives, .int (bz v_there), .int v_size, .int v_date, .int (bz v_evening), .int v_well, .int v_rights])), (h_a0, .inl (cy 0, 264, .inl v_a0)), (h_lives, .inl (cy 0, 100, .inl v_lives)), (h_memories, .inl (cy 0, 3, .inl v_memories)), (h_purses, .inl (cy 0, 3, .inl v_purses))] (fun r w1 => ∃ (w_a0 : Nat → Int32), w1 = [(h_this, .inr (8, [x_people, .ref h_memories, .ref h_purses, .ref h_lives, .int (bz v_there), .int v_size, .int v_date, .int (bz v_evening), .int v_well, .int v_rights])), (h_a0, .inl (cy 0, 264, .inl w_a0)), (h_lives, .inl (cy 0, 100, .inl v_lives)), (h_memories, .inl (cy 0, 3, .inl v_memories)), (h_purses, .inl (cy 0, 3, .inl v_purses))] ∧ post r w_a0) := by
  refine Ct.of (by decide) (Nat.le_of_ble_eq_true rfl) ?_
  intro p e s m args below meth c A ls Q C hQ hA hI hP hD hS hl
  obtain ⟨hx, hb, hr, hml, hown, hts, hK, hlk, hnm⟩ := id C
  have hb : c.code = cX9_keepIn := hb
  have hml : c.maxLocals = 3 := hml
  have hown : s.vm.findClass RX9 = some m.cls := hown
  have hl : lv_has ls 3 [(0, .ref h_this), (1, .ref h_a0), (2, .int p1)] := hl
  have J_23 : ∀ (l2 : Int32) (k0 : Bool) (k1 : Int32) (w_a0 : Nat → Int32) (H : Heap) (locs : List Loc) (ls : Array Slot), va_P D CL [(h_this, .inr (8, [x_people, .ref h_memories, .ref h_purses, .ref h_lives, .int (bz v_there), .int v_size, .int v_date, .int (bz v_evening), .int v_well, .int v_rights])), (h_a0, .inl (cy 0, 264, .inl w_a0)), (h_lives, .inl (cy 0, 100, .inl v_lives)), (h_memories, .inl (cy 0, 3, .inl v_memories)), (h_purses, .inl (cy 0, 3, .inl v_purses))] H → va_D A [(h_this, .inr (8, [x_people, .ref h_memories, .ref h_purses, .ref h_lives, .int (bz v_there), .int v_size, .int v_date, .int (bz v_evening), .int v_well, .int v_rights])), (h_a0, .inl (cy 0, 264, .inl w_a0)), (h_lives, .inl (cy 0, 100, .inl v_lives)), (h_memories, .inl (cy 0, 3, .inl v_memories)), (h_purses, .inl (cy 0, 3, .inl v_purses))] → va_S A s.heap H locs → lv_has ls 3 [(0, .ref h_this), (1, .ref h_a0), (2, .int l2)] → wjX9_keepIn_23 v_date v_evening v_well v_rights v_lives v_memories v_purses post l2 k0 k1 w_a0 → W p l e rmX9_keepIn s m args below meth c H locs 0 0 Q (F0 m 23 ls [.int (bz k0), .int k1, .ref h_a0]) := by
    intro l2 k0 k1 w_a0 H locs ls  hP hD hS hl hF
    unfold wjX9_keepIn_23 at hF
    obtain ⟨hi1, hF⟩ := hF
    refine s_iast (j := (k1).toNatClampNeg) hx hb hK.1 hP hD hS 1 0 rfl rfl hi1 rfl dX9_keepIn_23 (fun H locs hP hD hS => ?_)
    have hP : va_P D CL [(h_this, .inr (8, [x_people, .ref h_memories, .ref h_purses, .ref h_lives, .int (bz v_there), .int v_size, .int v_date, .int (bz v_evening), .int v_well, .int v_rights])), (h_a0, .inl (cy 0, 264, .inl (upd w_a0 ((k1).toNatClampNeg) (bz k0)))), (h_lives, .inl (cy 0, 100, .inl v_lives)), (h_memories, .inl (cy 0, 3, .inl v_memories)), (h_purses, .inl (cy 0, 3, .inl v_purses))] H := hP
    have hD : va_D A [(h_this, .inr (8, [x_people, .ref h_memories, .ref h_purses, .ref h_lives, .int (bz v_there), .int v_size, .int v_date, .int (bz v_evening), .int v_well, .int v_rights])), (h_a0, .inl (cy 0, 264, .inl (upd w_a0 ((k1).toNatClampNeg) (bz k0)))), (h_lives, .inl (cy 0, 100, .inl v_lives)), (h_memories, .inl (cy 0, 3, .inl v_memories)), (h_purses, .inl (cy 0, 3, .inl v_purses))] := hD
    refine lv_aload_n hx hb dX9_keepIn_24 rfl (lv_at hl 1 rfl) ?_
    refine lv_iload_n hx hb dX9_keepIn_25 rfl (lv_at hl 2 rfl) ?_
    refine lv_iconst (v := 2) hx hb dX9_keepIn_26 (by decide) ?_
    refine lv_iadd hx hb dX9_keepIn_27 ?_
    refine lv_aload_n hx hb dX9_keepIn_28 rfl (lv_at hl 0 rfl) ?_
    refine va_get (D := D) (ci := 8) (v := .int v_well) (C := RX9) (T := TX9) (N := 10) hx hb hts inTX9 hown hK.1 hP 0 rfl rfl 8 (by decide) (hts _ t1_99) (fun _ h9 => h9) rfl dX9_keepIn_29 ?_
    obtain ⟨hi2, hF⟩ := hF
    refine s_iast (j := ((l2 + 2)).toNatClampNeg) hx hb hK.1 hP hD hS 1 0 rfl rfl hi2 rfl dX9_keepIn_32 (fun H locs hP hD hS => ?_)
    have hP : va_P D CL [(h_this, .inr (8, [x_people, .ref h_memories, .ref h_purses, .ref h_lives, .int (bz v_there), .int v_size, .int v_date, .int (bz v_evening), .int v_well, .int v_rights])), (h_a0, .inl (cy 0, 264, .inl (upd (upd w_a0 ((k1).toNatClampNeg) (bz k0)) (((l2 + 2)).toNatClampNeg) v_well))), (h_lives, .inl (cy 0, 100, .inl v_lives)), (h_memories, .inl (cy 0, 3, .inl v_memories)), (h_purses, .inl (cy 0, 3, .inl v_purses))] H := hP
    have hD : va_D A [(h_this, .inr (8, [x_people, .ref h_memories, .ref h_purses, .ref h_lives, .int (bz v_there), .int v_size, .int v_date, .int (bz v_evening), .int v_well, .int v_rights])), (h_a0, .inl (cy 0, 264, .inl (upd (upd w_a0 ((k1).toNatClampNeg) (bz k0)) (((l2 + 2)).toNatClampNeg) v_well))), (h_lives, .inl (cy 0, 100, .inl v_lives)), (h_memories, .inl (cy 0, 3, .inl v_memories)), (h_purses, .inl (cy 0, 3, .inl v_purses))] := hD
    refine lv_aload_n hx hb dX9_keepIn_33 rfl (lv_at hl 1 rfl) ?_
    refine lv_iload_n hx hb dX9_keepIn_34 rfl (lv_at hl 2 rfl) ?_
    refine lv_iconst (v := 3) hx hb dX9_keepIn_35 (by decide) ?_
    refine lv_iadd hx hb dX9_keepIn_36 ?_
    refine lv_aload_n hx hb dX9_keepIn_37 rfl (lv_at hl 0 rfl) ?_
    refine va_get (D := D) (ci := 8) (v := .int v_rights) (C := RX9) (T := TX9) (N := 10) hx hb hts inTX9 hown hK.1 hP 0 rfl rfl 9 (by decide) (hts _ t1_101) (fun _ h9 => h9) rfl dX9_keepIn_38 ?_
    obtain ⟨hi3, hF⟩ := hF
    refine s_iast (j := ((l2 + 3)).toNatClampNeg) hx hb hK.1 hP hD hS 1 0 rfl rfl hi3 rfl dX9_keepIn_41 (fun H locs hP hD hS => ?_)
    have hP : va_P D CL [(h_this, .inr (8, [x_people, .ref h_memories, .ref h_purses, .ref h_lives, .int (bz v_there), .int v_size, .int v_date, .int (bz v_evening), .int v_well, .int v_rights])), (h_a0, .inl (cy 0, 264, .inl (upd (upd (upd w_a0 ((k1).toNatClampNeg) (bz k0)) (((l2 + 2)).toNatClampNeg) v_well) (((l2 + 3)).toNatClampNeg) v_rights))), (h_lives, .inl (cy 0, 100, .inl v_lives)), (h_memories, .inl (cy 0, 3, .inl v_memories)), (h_purses, .inl (cy 0, 3, .inl v_purses))] H := hP
    have hD : va_D A [(h_this, .inr (8, [x_people, .ref h_memories, .ref h_purses, .ref h_lives, .int (bz v_there), .int v_size, .int v_date, .int (bz v_evening), .int v_well, .int v_rights])), (h_a0, .inl (cy 0, 264, .inl (upd (upd (upd w_a0 ((k1).toNatClampNeg) (bz k0)) (((l2 + 2)).toNatClampNeg) v_well) (((l2 + 3)).toNatClampNeg) v_rights))), (h_lives, .inl (cy 0, 100, .inl v_lives)), (h_memories, .inl (cy 0, 3, .inl v_memories)), (h_purses, .inl (cy 0, 3, .inl v_purses))] := hD
    refine lv_aload_n hx hb dX9_keepIn_42 rfl (lv_at hl 1 rfl) ?_
    refine lv_iload_n hx hb dX9_keepIn_43 rfl (lv_at hl 2 rfl) ?_
    refine lv_iconst (v := 4) hx hb dX9_keepIn_44 (by decide) ?_
    refine lv_iadd hx hb dX9_keepIn_45 ?_
    refine lv_aload_n hx hb dX9_keepIn_46 rfl (lv_at hl 0 rfl) ?_
    refine va_get (D := D) (ci := 8) (v := .ref h_lives) (C := RX9) (T := TX9) (N := 10) hx hb hts inTX9 hown hK.1 hP 0 rfl rfl 3 (by decide) (hts _ t1_88) (fun _ h9 => h9) rfl dX9_keepIn_47 ?_
    refine lv_aload_n hx hb dX9_keepIn_50 rfl (lv_at hl 0 rfl) ?_
    refine va_get (D := D) (ci := 8) (v := .int v_date) (C := RX9) (T := TX9) (N := 10) hx hb hts inTX9 hown hK.1 hP 0 rfl rfl 6 (by decide) (hts _ t1_95) (fun _ h9 => h9) rfl dX9_keepIn_51 ?_
    obtain ⟨hi4, hF⟩ := hF
    refine s_iald (j := (v_date).toNatClampNeg) hx hb hK.1 hP 2 0 rfl rfl hi4 rfl dX9_keepIn_54 ?_
    obtain ⟨hi5, hF⟩ := hF
    refine s_iast (j := ((l2 + 4)).toNatClampNeg) hx hb hK.1 hP hD hS 1 0 rfl rfl hi5 rfl dX9_keepIn_55 (fun H locs hP hD hS => ?_)
    have hP : va_P D CL [(h_this, .inr (8, [x_people, .ref h_memories, .ref h_purses, .ref h_lives, .int (bz v_there), .int v_size, .int v_date, .int (bz v_evening), .int v_well, .int v_rights])), (h_a0, .inl (cy 0, 264, .inl (upd (upd (upd (upd w_a0 ((k1).toNatClampNeg) (bz k0)) (((l2 + 2)).toNatClampNeg) v_well) (((l2 + 3)).toNatClampNeg) v_rights) (((l2 + 4)).toNatClampNeg) (v_lives ((v_date).toNatClampNeg))))), (h_lives, .inl (cy 0, 100, .inl v_lives)), (h_memories, .inl (cy 0, 3, .inl v_memories)), (h_purses, .inl (cy 0, 3, .inl v_purses))] H := hP
    have hD : va_D A [(h_this, .inr (8, [x_people, .ref h_memories, .ref h_purses, .ref h_lives, .int (bz v_there), .int v_size, .int v_date, .int (bz v_evening), .int v_well, .int v_rights])), (h_a0, .inl (cy 0, 264, .inl (upd (upd (upd (upd w_a0 ((k1).toNatClampNeg) (bz k0)) (((l2 + 2)).toNatClampNeg) v_well) (((l2 + 3)).toNatClampNeg) v_rights) (((l2 + 4)).toNatClampNeg) (v_lives ((v_date).toNatClampNeg))))), (h_lives, .inl (cy 0, 100, .inl v_lives)), (h_memories, .inl (cy 0, 3, .inl v_memories)), (h_purses, .inl (cy 0, 3, .inl v_purses))] := hD
    refine lv_aload_n hx hb dX9_keepIn_56 rfl (lv_at hl 0 rfl) ?_
    refine va_get (D := D) (ci := 8) (v := .ref h_memories) (C := RX9) (T := TX9) (N := 10) hx hb hts inTX9 hown hK.1 hP 0 rfl rfl 1 (by decide) (hts _ t1_84) (fun _ h9 => h9) rfl dX9_keepIn_57 ?_
    refine lv_iconst (v := 0) hx hb dX9_keepIn_60 (by decide) ?_
    refine lv_aload_n hx hb dX9_keepIn_61 rfl (lv_at hl 1 rfl) ?_
    refine lv_iload_n hx hb dX9_keepIn_62 rfl (lv_at hl 2 rfl) ?_
    refine lv_iconst (v := 5) hx hb dX9_keepIn_63 (by decide) ?_
    refine lv_iadd hx hb dX9_keepIn_64 ?_
    refine lv_iconst (v := 3) hx hb dX9_keepIn_65 (by decide) ?_
    obtain ⟨hc6, hc7, hF⟩ := hF
    refine va_copyi hx hb (hml.trans hl.1.symm) hown (hts _ t2_192) (hts _ t2_25) (hts _ t2_24) (hts _ t1_9) hK.1 hP hD hS 3 1 0 0 rfl rfl rfl rfl rfl (by decide) hc6 (by decide) (by decide) hc7 (fun _ _ => rfl) (by decide) (Nat.le_of_ble_eq_true rfl) dX9_keepIn_66 (fun H locs hP hD hS => ?_)
    have hP : va_P D CL [(h_this, .inr (8, [x_people, .ref h_memories, .ref h_purses, .ref h_lives, .int (bz v_there), .int v_size, .int v_date, .int (bz v_evening), .int v_well, .int v_rights])), (h_a0, .inl (cy 0, 264, .inl (va_cpy v_memories (upd (upd (upd (upd w_a0 ((k1).toNatClampNeg) (bz k0)) (((l2 + 2)).toNatClampNeg) v_well) (((l2 + 3)).toNatClampNeg) v_rights) (((l2 + 4)).toNatClampNeg) (v_lives ((v_date).toNatClampNeg))) (0 : Int32).toNatClampNeg ((l2 + 5) : Int32).toNatClampNeg (3 : Int32).toNatClampNeg))), (h_lives, .inl (cy 0, 100, .inl v_lives)), (h_memories, .inl (cy 0, 3, .inl v_memories)), (h_purses, .inl (cy 0, 3, .inl v_purses))] H := hP
    have hD : va_D A [(h_this, .inr (8, [x_people, .ref h_memories, .ref h_purses, .ref h_lives, .int (bz v_there), .int v_size, .int v_date, .int (bz v_evening), .int v_well, .int v_rights])), (h_a0, .inl (cy 0, 264, .inl (va_cpy v_memories (upd (upd (upd (upd w_a0 ((k1).toNatClampNeg) (bz k0)) (((l2 + 2)).toNatClampNeg) v_well) (((l2 + 3)).toNatClampNeg) v_rights) (((l2 + 4)).toNatClampNeg) (v_lives ((v_date).toNatClampNeg))) (0 : Int32).toNatClampNeg ((l2 + 5) : Int32).toNatClampNeg (3 : Int32).toNatClampNeg))), (h_lives, .inl (cy 0, 100, .inl v_lives)), (h_memories, .inl (cy 0, 3, .inl v_memories)), (h_purses, .inl (cy 0, 3, .inl v_purses))] := hD
    refine lv_aload_n hx hb dX9_keepIn_69 rfl (lv_at hl 0 rfl) ?_
    refine va_get (D := D) (ci := 8) (v := .ref h_purses) (C := RX9) (T := TX9) (N := 10) hx hb hts inTX9 hown hK.1 hP 0 rfl rfl 2 (by decide) (hts _ t1_86) (fun _ h9 => h9) rfl dX9_keepIn_70 ?_
    refine lv_iconst (v := 0) hx hb dX9_keepIn_73 (by decide) ?_
    refine lv_aload_n hx hb dX9_keepIn_74 rfl (lv_at hl 1 rfl) ?_
    refine lv_iload_n hx hb dX9_keepIn_75 rfl (lv_at hl 2 rfl) ?_
    refine lv_iconst (v := 5) hx hb dX9_keepIn_76 (by decide) ?_
    refine lv_iadd hx hb dX9_keepIn_77 ?_
    refine lv_iconst (v := 3) hx hb dX9_keepIn_78 (by decide) ?_
    refine lv_iadd hx hb dX9_keepIn_79 ?_
    refine lv_iconst (v := 3) hx hb dX9_keepIn_80 (by decide) ?_
    obtain ⟨hc8, hc9, hF⟩ := hF
    refine va_copyi hx hb (hml.trans hl.1.symm) hown (hts _ t2_192) (hts _ t2_25) (hts _ t2_24) (hts _ t1_9) hK.1 hP hD hS 4 1 0 0 rfl rfl rfl rfl rfl (by decide) hc8 (by decide) (by decide) hc9 (fun _ _ => rfl) (by decide) (Nat.le_of_ble_eq_true rfl) dX9_keepIn_81 (fun H locs hP hD hS => ?_)
    have hP : va_P D CL [(h_this, .inr (8, [x_people, .ref h_memories, .ref h_purses, .ref h_lives, .int (bz v_there), .int v_size, .int v_date, .int (bz v_evening), .int v_well, .int v_rights])), (h_a0, .inl (cy 0, 264, .inl (va_cpy v_purses (va_cpy v_memories (upd (upd (upd (upd w_a0 ((k1).toNatClampNeg) (bz k0)) (((l2 + 2)).toNatClampNeg) v_well) (((l2 + 3)).toNatClampNeg) v_rights) (((l2 + 4)).toNatClampNeg) (v_lives ((v_date).toNatClampNeg))) (0 : Int32).toNatClampNeg ((l2 + 5) : Int32).toNatClampNeg (3 : Int32).toNatClampNeg) (0 : Int32).toNatClampNeg (((l2 + 5) + 3) : Int32).toNatClampNeg (3 : Int32).toNatClampNeg))), (h_lives, .inl (cy 0, 100, .inl v_lives)), (h_memories, .inl (cy 0, 3, .inl v_memories)), (h_purses, .inl (cy 0, 3, .inl v_purses))] H := hP
    have hD : va_D A [(h_this, .inr (8, [x_people, .ref h_memories, .ref h_purses, .ref h_lives, .int (bz v_there), .int v_size, .int v_date, .int (bz v_evening), .int v_well, .int v_rights])), (h_a0, .inl (cy 0, 264, .inl (va_cpy v_purses (va_cpy v_memories (upd (upd (upd (upd w_a0 ((k1).toNatClampNeg) (bz k0)) (((l2 + 2)).toNatClampNeg) v_well) (((l2 + 3)).toNatClampNeg) v_rights) (((l2 + 4)).toNatClampNeg) (v_lives ((v_date).toNatClampNeg))) (0 : Int32).toNatClampNeg ((l2 + 5) : Int32).toNatClampNeg (3 : Int32).toNatClampNeg) (0 : Int32).toNatClampNeg (((l2 + 5) + 3) : Int32).toNatClampNeg (3 : Int32).toNatClampNeg))), (h_lives, .inl (cy 0, 100, .inl v_lives)), (h_memories, .inl (cy 0, 3, .inl v_memories)), (h_purses, .inl (cy 0, 3, .inl v_purses))] := hD
    exact rt_v C hQ rfl hP hD hS ⟨(va_cpy v_purses (va_cpy v_memories (upd (upd (upd (upd w_a0 ((k1).toNatClampNeg) (bz k0)) (((l2 + 2)).toNatClampNeg) v_well) (((l2 + 3)).toNatClampNeg) v_rights) (((l2 + 4)).toNatClampNeg) (v_lives ((v_date).toNatClampNeg))) (0 : Int32).toNatClampNeg ((l2 + 5) : Int32).toNatClampNeg (3 : Int32).toNatClampNeg) (0 : Int32).toNatClampNeg (((l2 + 5) + 3) : Int32).toNatClampNeg (3 : Int32).toNatClampNeg), rfl, hF⟩ dX9_keepIn_84
  unfold wpX9_keepIn at hF
  refine lv_aload_n hx hb dX9_keepIn_0 rfl (lv_at hl 1 rfl) ?_
  refine lv_iload_n hx hb dX9_keepIn_1 rfl (lv_at hl 2 rfl) ?_
  refine lv_aload_n hx hb dX9_keepIn_2 rfl (lv_at hl 0 rfl) ?_
  refine va_get (D := D) (ci := 8) (v := .int v_date) (C := RX9) (T := TX9) (N := 10) hx hb hts inTX9 hown hK.1 hP 0 rfl rfl 6 (by decide) (hts _ t1_95) (fun _ h9 => h9) rfl dX9_keepIn_3 ?_
  obtain ⟨hi1, hF⟩ := hF
  refine s_iast (j := (p1).toNatClampNeg) hx hb hK.1 hP hD hS 1 0 rfl rfl hi1 rfl dX9_keepIn_6 (fun H locs hP hD hS => ?_)
  have hP : va_P D CL [(h_this, .inr (8, [x_people, .ref h_memories, .ref h_purses, .ref h_lives, .int (bz v_there), .int v_size, .int v_date, .int (bz v_evening), .int v_well, .int v_rights])), (h_a0, .inl (cy 0, 264, .inl (upd v_a0 ((p1).toNatClampNeg) v_date))), (h_lives, .inl (cy 0, 100, .inl v_lives)), (h_memories, .inl (cy 0, 3, .inl v_memories)), (h_purses, .inl (cy 0, 3, .inl v_purses))] H := hP
  have hD : va_D A [(h_this, .inr (8, [x_people, .ref h_memories, .ref h_purses, .ref h_lives, .int (bz v_there), .int v_size, .int v_date, .int (bz v_evening), .int v_well, .int v_rights])), (h_a0, .inl (cy 0, 264, .inl (upd v_a0 ((p1).toNatClampNeg) v_date))), (h_lives, .inl (cy 0, 100, .inl v_lives)), (h_memories, .inl (cy 0, 3, .inl v_memories)), (h_purses, .inl (cy 0, 3, .inl v_purses))] := hD
  refine lv_aload_n hx hb dX9_keepIn_7 rfl (lv_at hl 1 rfl) ?_
  refine lv_iload_n hx hb dX9_keepIn_8 rfl (lv_at hl 2 rfl) ?_
  refine lv_iconst (v := 1) hx hb dX9_keepIn_9 (by decide) ?_
  refine lv_iadd hx hb dX9_keepIn_10 ?_
  refine lv_aload_n hx hb dX9_keepIn_11 rfl (lv_at hl 0 rfl) ?_
  refine va_get (D := D) (ci := 8) (v := .int (bz v_evening)) (C := RX9) (T := TX9) (N := 10) hx hb hts inTX9 hown hK.1 hP 0 rfl rfl 7 (by decide) (hts _ t1_97) (fun _ h9 => h9) rfl dX9_keepIn_12 ?_
  refine lv_if_eq (tgt := 22) hx hb dX9_keepIn_15 (by decide) (fun c_ => ?_) (fun c_ => ?_)
  · have hF := hF.1 ((bz_0 _).mp c_)
    refine lv_iconst (v := 0) hx hb dX9_keepIn_22 (by decide) ?_
    exact J_23 p1 false (p1 + 1) (upd v_a0 ((p1).toNatClampNeg) v_date) _ _ ls  hP hD hS (lv_sub hl [0, 1, 2] rfl) hF
  · have hF := hF.2 ((bz_1 _).mp c_)
    refine lv_iconst (v := 1) hx hb dX9_keepIn_18 (by decide) ?_
    refine lv_goto (tgt := 23) hx hb dX9_keepIn_19 (by decide) ?_
    exact J_23 p1 true (p1 + 1) (upd v_a0 ((p1).toNatClampNeg) v_date) _ _ ls  hP hD hS (lv_sub hl [0, 1, 2] rfl) hF

def wjX9_takeBack_22 (v_a0 : Nat → Int32) (post : Unit → Int32 → Bool → Int32 → Int32 → (Nat → Int32) → (Nat → Int32) → (Nat → Int32) → Prop) (l2 : Int32) (k0 : Bool) (w_date : Int32) (w_evening : Bool) (w_well : Int32) (w_rights : Int32) (w_lives : Nat → Int32) (w_memories : Nat → Int32) (w_purses : Nat → Int32) : Prop := vp_in (l2 + 2) 264 ∧ (vp_in (l2 + 3) 264 ∧ (vp_in (l2 + 4) 264 ∧ (vp_in w_date 100 ∧ (¬ (l2 + 5) < 0 ∧ ((l2 + 5) : Int32).toNatClampNeg + (3 : Int32).toNatClampNeg ≤ 264 ∧ (¬ ((l2 + 5) + 3) < 0 ∧ (((l2 + 5) + 3) : Int32).toNatClampNeg + (3 : Int32).toNatClampNeg ≤ 264 ∧ (post () w_date k0 (v_a0 (((l2 + 2)).toNatClampNeg)) (v_a0 (((l2 + 3)).toNatClampNeg)) (upd w_lives ((w_date).toNatClampNeg) (v_a0 (((l2 + 4)).toNatClampNeg))) (va_cpy v_a0 w_memories ((l2 + 5) : Int32).toNatClampNeg (0 : Int32).toNatClampNeg (3 : Int32).toNatClampNeg) (va_cpy v_a0 w_purses (((l2 + 5) + 3) : Int32).toNatClampNeg (0 : Int32).toNatClampNeg (3 : Int32).toNatClampNeg)))))))
def wpX9_takeBack (p1 : Int32) (v_date : Int32) (v_evening : Bool) (v_well : Int32) (v_rights : Int32) (v_a0 : Nat → Int32) (v_lives : Nat → Int32) (v_memories : Nat → Int32) (v_purses : Nat → Int32) (post : Unit → Int32 → Bool → Int32 → Int32 → (Nat → Int32) → (Nat → Int32) → (Nat → Int32) → Prop) : Prop := vp_in p1 264 ∧ (vp_in (p1 + 1) 264 ∧ ((¬ (v_a0 (((p1 + 1)).toNatClampNeg)) = 1 → (wjX9_takeBack_22 v_a0 post p1 false (v_a0 ((p1).toNatClampNeg)) v_evening v_well v_rights v_lives v_memories v_purses)) ∧ ((v_a0 (((p1 + 1)).toNatClampNeg)) = 1 → (wjX9_takeBack_22 v_a0 post p1 true (v_a0 ((p1).toNatClampNeg)) v_evening v_well v_rights v_lives v_memories v_purses))))
abbrev miX9_takeBack : MI := (yX9_takeBack, cX9_takeBack, 3, none)
theorem mfX9_takeBack : MF miX9_takeBack 2 := ⟨t3_57, t1_5, by decide +kernel⟩
abbrev rmX9_takeBack : Room := { frames := 1, cells := 0, slots := 0, locals := 68 }
set_option maxHeartbeats 4000000 in
set_option maxRecDepth 100000 in
theorem ccX9_takeBack (l : Launch) (D : va_G) (cy : Nat → ClassId) (h_this : Nat) (h_a0 : Nat) (h_lives : Nat) (h_memories : Nat) (h_purses : Nat) (x_people : Value) (v_there : Bool) (v_size : Int32) (v_date : Int32) (v_evening : Bool) (v_well : Int32) (v_rights : Int32) (v_a0 : Nat → Int32) (v_lives : Nat → Int32) (v_memories : Nat → Int32) (v_purses : Nat → Int32) (p1 : Int32) (post : Unit → Int32 → Bool → Int32 → Int32 → (Nat → Int32) → (Nat → Int32) → (Nat → Int32) → Prop) (hF : wpX9_takeBack p1 v_date v_evening v_well v_rights v_a0 v_lives v_memories v_purses post) : Ct l D cy miX9_takeBack rmX9_takeBack emV NP [.ref h_this, .ref h_a0, .int p1] [(h_this, .inr (8, [x_people, .ref h_memories, .ref h_purses, .ref h_lives, .int (bz v_there), .int v_size, .int v_date, .int (bz v_evening), .int v_well, .int v_rights])), (h_a0, .inl (cy 0, 264, .inl v_a0)), (h_lives, .inl (cy 0, 100, .inl v_lives)), (h_memories, .inl (cy 0, 3, .inl v_memories)), (h_purses, .inl (cy 0, 3, .inl v_purses))] (fun r w1 => ∃ (w_date : Int32) (w_evening : Bool) (w_well : Int32) (w_rights : Int32) (w_lives : Nat → Int32) (w_memories : Nat → Int32) (w_purses : Nat → Int32), w1 = [(h_this, .inr (8, [x_people, .ref h_memories, .ref h_purses, .ref h_lives, .int (bz v_there), .int v_size, .int w_date, .int (bz w_evening), .int w_well, .int w_rights])), (h_a0, .inl (cy 0, 264, .inl v_a0)), (h_lives, .inl (cy 0, 100, .inl w_lives)), (h_memories, .inl (cy 0, 3, .inl w_memories)), (h_purses, .inl (cy 0, 3, .inl w_purses))] ∧ post r w_date w_evening w_well w_rights w_lives w_memories w_purses) := by
  refine Ct.of (by decide) (Nat.le_of_ble_eq_true rfl) ?_
  intro p e s m args below meth c A ls Q C hQ hA hI hP hD hS hl
  obtain ⟨hx, hb, hr, hml, hown, hts, hK, hlk, hnm⟩ := id C
  have hb : c.code = cX9_takeBack := hb
  have hml : c.maxLocals = 3 := hml
  have hown : s.vm.findClass RX9 = some m.cls := hown
  have hl : lv_has ls 3 [(0, .ref h_this), (1, .ref h_a0), (2, .int p1)] := hl
  have J_22 : ∀ (l2 : Int32) (k0 : Bool) (w_date : Int32) (w_evening : Bool) (w_well : Int32) (w_rights : Int32) (w_lives : Nat → Int32) (w_memories : Nat → Int32) (w_purses : Nat → Int32) (H : Heap) (locs : List Loc) (ls : Array Slot), va_P D CL [(h_this, .inr (8, [x_people, .ref h_memories, .ref h_purses, .ref h_lives, .int (bz v_there), .int v_size, .int w_date, .int (bz w_evening), .int w_well, .int w_rights])), (h_a0, .inl (cy 0, 264, .inl v_a0)), (h_lives, .inl (cy 0, 100, .inl w_lives)), (h_memories, .inl (cy 0, 3, .inl w_memories)), (h_purses, .inl (cy 0, 3, .inl w_purses))] H → va_D A [(h_this, .inr (8, [x_people, .ref h_memories, .ref h_purses, .ref h_lives, .int (bz v_there), .int v_size, .int w_date, .int (bz w_evening), .int w_well, .int w_rights])), (h_a0, .inl (cy 0, 264, .inl v_a0)), (h_lives, .inl (cy 0, 100, .inl w_lives)), (h_memories, .inl (cy 0, 3, .inl w_memories)), (h_purses, .inl (cy 0, 3, .inl w_purses))] → va_S A s.heap H locs → lv_has ls 3 [(0, .ref h_this), (1, .ref h_a0), (2, .int l2)] → wjX9_takeBack_22 v_a0 post l2 k0 w_date w_evening w_well w_rights w_lives w_memories w_purses → W p l e rmX9_takeBack s m args below meth c H locs 0 0 Q (F0 m 22 ls [.int (bz k0), .ref h_this]) := by
    intro l2 k0 w_date w_evening w_well w_rights w_lives w_memories w_purses H locs ls  hP hD hS hl hF
    unfold wjX9_takeBack_22 at hF
    refine va_put (D := D) (ci := 8) (v := .int (bz k0)) (ty := .boolean) (C := RX9) (T := TX9) (N := 10) hx hb hts inTX9 tyX9 tyX9_ok nmX9 hown hK.1 hP hD hS 0 rfl rfl 7 (by decide) (hts _ t1_97) (fun _ h9 => h9) rfl (tyX9_ok 7 (by decide)) (nr_bz _) (ft_bz _) (Nat.le_of_ble_eq_true rfl) dX9_takeBack_22 (fun H locs hP hD hS => ?_)
    have hP : va_P D CL [(h_this, .inr (8, [x_people, .ref h_memories, .ref h_purses, .ref h_lives, .int (bz v_there), .int v_size, .int w_date, .int (bz k0), .int w_well, .int w_rights])), (h_a0, .inl (cy 0, 264, .inl v_a0)), (h_lives, .inl (cy 0, 100, .inl w_lives)), (h_memories, .inl (cy 0, 3, .inl w_memories)), (h_purses, .inl (cy 0, 3, .inl w_purses))] H := hP
    have hD : va_D A [(h_this, .inr (8, [x_people, .ref h_memories, .ref h_purses, .ref h_lives, .int (bz v_there), .int v_size, .int w_date, .int (bz k0), .int w_well, .int w_rights])), (h_a0, .inl (cy 0, 264, .inl v_a0)), (h_lives, .inl (cy 0, 100, .inl w_lives)), (h_memories, .inl (cy 0, 3, .inl w_memories)), (h_purses, .inl (cy 0, 3, .inl w_purses))] := hD
    refine lv_aload_n hx hb dX9_takeBack_25 rfl (lv_at hl 0 rfl) ?_
    refine lv_aload_n hx hb dX9_takeBack_26 rfl (lv_at hl 1 rfl) ?_
    refine lv_iload_n hx hb dX9_takeBack_27 rfl (lv_at hl 2 rfl) ?_
    refine lv_iconst (v := 2) hx hb dX9_takeBack_28 (by decide) ?_
    refine lv_iadd hx hb dX9_takeBack_29 ?_
    obtain ⟨hi1, hF⟩ := hF
    refine s_iald (j := ((l2 + 2)).toNatClampNeg) hx hb hK.1 hP 1 0 rfl rfl hi1 rfl dX9_takeBack_30 ?_
    refine va_put (D := D) (ci := 8) (v := .int (v_a0 (((l2 + 2)).toNatClampNeg))) (ty := .int) (C := RX9) (T := TX9) (N := 10) hx hb hts inTX9 tyX9 tyX9_ok nmX9 hown hK.1 hP hD hS 0 rfl rfl 8 (by decide) (hts _ t1_99) (fun _ h9 => h9) rfl (tyX9_ok 8 (by decide)) rfl rfl (Nat.le_of_ble_eq_true rfl) dX9_takeBack_31 (fun H locs hP hD hS => ?_)
    have hP : va_P D CL [(h_this, .inr (8, [x_people, .ref h_memories, .ref h_purses, .ref h_lives, .int (bz v_there), .int v_size, .int w_date, .int (bz k0), .int (v_a0 (((l2 + 2)).toNatClampNeg)), .int w_rights])), (h_a0, .inl (cy 0, 264, .inl v_a0)), (h_lives, .inl (cy 0, 100, .inl w_lives)), (h_memories, .inl (cy 0, 3, .inl w_memories)), (h_purses, .inl (cy 0, 3, .inl w_purses))] H := hP
    have hD : va_D A [(h_this, .inr (8, [x_people, .ref h_memories, .ref h_purses, .ref h_lives, .int (bz v_there), .int v_size, .int w_date, .int (bz k0), .int (v_a0 (((l2 + 2)).toNatClampNeg)), .int w_rights])), (h_a0, .inl (cy 0, 264, .inl v_a0)), (h_lives, .inl (cy 0, 100, .inl w_lives)), (h_memories, .inl (cy 0, 3, .inl w_memories)), (h_purses, .inl (cy 0, 3, .inl w_purses))] := hD
    refine lv_aload_n hx hb dX9_takeBack_34 rfl (lv_at hl 0 rfl) ?_
    refine lv_aload_n hx hb dX9_takeBack_35 rfl (lv_at hl 1 rfl) ?_
    refine lv_iload_n hx hb dX9_takeBack_36 rfl (lv_at hl 2 rfl) ?_
    refine lv_iconst (v := 3) hx hb dX9_takeBack_37 (by decide) ?_
    refine lv_iadd hx hb dX9_takeBack_38 ?_
    obtain ⟨hi2, hF⟩ := hF
    refine s_iald (j := ((l2 + 3)).toNatClampNeg) hx hb hK.1 hP 1 0 rfl rfl hi2 rfl dX9_takeBack_39 ?_
    refine va_put (D := D) (ci := 8) (v := .int (v_a0 (((l2 + 3)).toNatClampNeg))) (ty := .int) (C := RX9) (T := TX9) (N := 10) hx hb hts inTX9 tyX9 tyX9_ok nmX9 hown hK.1 hP hD hS 0 rfl rfl 9 (by decide) (hts _ t1_101) (fun _ h9 => h9) rfl (tyX9_ok 9 (by decide)) rfl rfl (Nat.le_of_ble_eq_true rfl) dX9_takeBack_40 (fun H locs hP hD hS => ?_)
    have hP : va_P D CL [(h_this, .inr (8, [x_people, .ref h_memories, .ref h_purses, .ref h_lives, .int (bz v_there), .int v_size, .int w_date, .int (bz k0), .int (v_a0 (((l2 + 2)).toNatClampNeg)), .int (v_a0 (((l2 + 3)).toNatClampNeg))])), (h_a0, .inl (cy 0, 264, .inl v_a0)), (h_lives, .inl (cy 0, 100, .inl w_lives)), (h_memories, .inl (cy 0, 3, .inl w_memories)), (h_purses, .inl (cy 0, 3, .inl w_purses))] H := hP
    have hD : va_D A [(h_this, .inr (8, [x_people, .ref h_memories, .ref h_purses, .ref h_lives, .int (bz v_there), .int v_size, .int w_date, .int (bz k0), .int (v_a0 (((l2 + 2)).toNatClampNeg)), .int (v_a0 (((l2 + 3)).toNatClampNeg))])), (h_a0, .inl (cy 0, 264, .inl v_a0)), (h_lives, .inl (cy 0, 100, .inl w_lives)), (h_memories, .inl (cy 0, 3, .inl w_memories)), (h_purses, .inl (cy 0, 3, .inl w_purses))] := hD
    refine lv_aload_n hx hb dX9_takeBack_43 rfl (lv_at hl 0 rfl) ?_
    refine va_get (D := D) (ci := 8) (v := .ref h_lives) (C := RX9) (T := TX9) (N := 10) hx hb hts inTX9 hown hK.1 hP 0 rfl rfl 3 (by decide) (hts _ t1_88) (fun _ h9 => h9) rfl dX9_takeBack_44 ?_
    refine lv_aload_n hx hb dX9_takeBack_47 rfl (lv_at hl 0 rfl) ?_
    refine va_get (D := D) (ci := 8) (v := .int w_date) (C := RX9) (T := TX9) (N := 10) hx hb hts inTX9 hown hK.1 hP 0 rfl rfl 6 (by decide) (hts _ t1_95) (fun _ h9 => h9) rfl dX9_takeBack_48 ?_
    refine lv_aload_n hx hb dX9_takeBack_51 rfl (lv_at hl 1 rfl) ?_
    refine lv_iload_n hx hb dX9_takeBack_52 rfl (lv_at hl 2 rfl) ?_
    refine lv_iconst (v := 4) hx hb dX9_takeBack_53 (by decide) ?_
    refine lv_iadd hx hb dX9_takeBack_54 ?_
    obtain ⟨hi3, hF⟩ := hF
    refine s_iald (j := ((l2 + 4)).toNatClampNeg) hx hb hK.1 hP 1 0 rfl rfl hi3 rfl dX9_takeBack_55 ?_
    obtain ⟨hi4, hF⟩ := hF
    refine s_iast (j := (w_date).toNatClampNeg) hx hb hK.1 hP hD hS 2 0 rfl rfl hi4 rfl dX9_takeBack_56 (fun H locs hP hD hS => ?_)
    have hP : va_P D CL [(h_this, .inr (8, [x_people, .ref h_memories, .ref h_purses, .ref h_lives, .int (bz v_there), .int v_size, .int w_date, .int (bz k0), .int (v_a0 (((l2 + 2)).toNatClampNeg)), .int (v_a0 (((l2 + 3)).toNatClampNeg))])), (h_a0, .inl (cy 0, 264, .inl v_a0)), (h_lives, .inl (cy 0, 100, .inl (upd w_lives ((w_date).toNatClampNeg) (v_a0 (((l2 + 4)).toNatClampNeg))))), (h_memories, .inl (cy 0, 3, .inl w_memories)), (h_purses, .inl (cy 0, 3, .inl w_purses))] H := hP
    have hD : va_D A [(h_this, .inr (8, [x_people, .ref h_memories, .ref h_purses, .ref h_lives, .int (bz v_there), .int v_size, .int w_date, .int (bz k0), .int (v_a0 (((l2 + 2)).toNatClampNeg)), .int (v_a0 (((l2 + 3)).toNatClampNeg))])), (h_a0, .inl (cy 0, 264, .inl v_a0)), (h_lives, .inl (cy 0, 100, .inl (upd w_lives ((w_date).toNatClampNeg) (v_a0 (((l2 + 4)).toNatClampNeg))))), (h_memories, .inl (cy 0, 3, .inl w_memories)), (h_purses, .inl (cy 0, 3, .inl w_purses))] := hD
    refine lv_aload_n hx hb dX9_takeBack_57 rfl (lv_at hl 1 rfl) ?_
    refine lv_iload_n hx hb dX9_takeBack_58 rfl (lv_at hl 2 rfl) ?_
    refine lv_iconst (v := 5) hx hb dX9_takeBack_59 (by decide) ?_
    refine lv_iadd hx hb dX9_takeBack_60 ?_
    refine lv_aload_n hx hb dX9_takeBack_61 rfl (lv_at hl 0 rfl) ?_
    refine va_get (D := D) (ci := 8) (v := .ref h_memories) (C := RX9) (T := TX9) (N := 10) hx hb hts inTX9 hown hK.1 hP 0 rfl rfl 1 (by decide) (hts _ t1_84) (fun _ h9 => h9) rfl dX9_takeBack_62 ?_
    refine lv_iconst (v := 0) hx hb dX9_takeBack_65 (by decide) ?_
    refine lv_iconst (v := 3) hx hb dX9_takeBack_66 (by decide) ?_
    obtain ⟨hc5, hc6, hF⟩ := hF
    refine va_copyi hx hb (hml.trans hl.1.symm) hown (hts _ t2_192) (hts _ t2_25) (hts _ t2_24) (hts _ t1_9) hK.1 hP hD hS 1 3 0 0 rfl rfl rfl rfl rfl hc5 (by decide) (by decide) hc6 (by decide) (fun _ _ => rfl) (by decide) (Nat.le_of_ble_eq_true rfl) dX9_takeBack_67 (fun H locs hP hD hS => ?_)
    have hP : va_P D CL [(h_this, .inr (8, [x_people, .ref h_memories, .ref h_purses, .ref h_lives, .int (bz v_there), .int v_size, .int w_date, .int (bz k0), .int (v_a0 (((l2 + 2)).toNatClampNeg)), .int (v_a0 (((l2 + 3)).toNatClampNeg))])), (h_a0, .inl (cy 0, 264, .inl v_a0)), (h_lives, .inl (cy 0, 100, .inl (upd w_lives ((w_date).toNatClampNeg) (v_a0 (((l2 + 4)).toNatClampNeg))))), (h_memories, .inl (cy 0, 3, .inl (va_cpy v_a0 w_memories ((l2 + 5) : Int32).toNatClampNeg (0 : Int32).toNatClampNeg (3 : Int32).toNatClampNeg))), (h_purses, .inl (cy 0, 3, .inl w_purses))] H := hP
    have hD : va_D A [(h_this, .inr (8, [x_people, .ref h_memories, .ref h_purses, .ref h_lives, .int (bz v_there), .int v_size, .int w_date, .int (bz k0), .int (v_a0 (((l2 + 2)).toNatClampNeg)), .int (v_a0 (((l2 + 3)).toNatClampNeg))])), (h_a0, .inl (cy 0, 264, .inl v_a0)), (h_lives, .inl (cy 0, 100, .inl (upd w_lives ((w_date).toNatClampNeg) (v_a0 (((l2 + 4)).toNatClampNeg))))), (h_memories, .inl (cy 0, 3, .inl (va_cpy v_a0 w_memories ((l2 + 5) : Int32).toNatClampNeg (0 : Int32).toNatClampNeg (3 : Int32).toNatClampNeg))), (h_purses, .inl (cy 0, 3, .inl w_purses))] := hD
    refine lv_aload_n hx hb dX9_takeBack_70 rfl (lv_at hl 1 rfl) ?_
    refine lv_iload_n hx hb dX9_takeBack_71 rfl (lv_at hl 2 rfl) ?_
    refine lv_iconst (v := 5) hx hb dX9_takeBack_72 (by decide) ?_
    refine lv_iadd hx hb dX9_takeBack_73 ?_
    refine lv_iconst (v := 3) hx hb dX9_takeBack_74 (by decide) ?_
    refine lv_iadd hx hb dX9_takeBack_75 ?_
    refine lv_aload_n hx hb dX9_takeBack_76 rfl (lv_at hl 0 rfl) ?_
    refine va_get (D := D) (ci := 8) (v := .ref h_purses) (C := RX9) (T := TX9) (N := 10) hx hb hts inTX9 hown hK.1 hP 0 rfl rfl 2 (by decide) (hts _ t1_86) (fun _ h9 => h9) rfl dX9_takeBack_77 ?_
    refine lv_iconst (v := 0) hx hb dX9_takeBack_80 (by decide) ?_
    refine lv_iconst (v := 3) hx hb dX9_takeBack_81 (by decide) ?_
    obtain ⟨hc7, hc8, hF⟩ := hF
    refine va_copyi hx hb (hml.trans hl.1.symm) hown (hts _ t2_192) (hts _ t2_25) (hts _ t2_24) (hts _ t1_9) hK.1 hP hD hS 1 4 0 0 rfl rfl rfl rfl rfl hc7 (by decide) (by decide) hc8 (by decide) (fun _ _ => rfl) (by decide) (Nat.le_of_ble_eq_true rfl) dX9_takeBack_82 (fun H locs hP hD hS => ?_)
    have hP : va_P D CL [(h_this, .inr (8, [x_people, .ref h_memories, .ref h_purses, .ref h_lives, .int (bz v_there), .int v_size, .int w_date, .int (bz k0), .int (v_a0 (((l2 + 2)).toNatClampNeg)), .int (v_a0 (((l2 + 3)).toNatClampNeg))])), (h_a0, .inl (cy 0, 264, .inl v_a0)), (h_lives, .inl (cy 0, 100, .inl (upd w_lives ((w_date).toNatClampNeg) (v_a0 (((l2 + 4)).toNatClampNeg))))), (h_memories, .inl (cy 0, 3, .inl (va_cpy v_a0 w_memories ((l2 + 5) : Int32).toNatClampNeg (0 : Int32).toNatClampNeg (3 : Int32).toNatClampNeg))), (h_purses, .inl (cy 0, 3, .inl (va_cpy v_a0 w_purses (((l2 + 5) + 3) : Int32).toNatClampNeg (0 : Int32).toNatClampNeg (3 : Int32).toNatClampNeg)))] H := hP
    have hD : va_D A [(h_this, .inr (8, [x_people, .ref h_memories, .ref h_purses, .ref h_lives, .int (bz v_there), .int v_size, .int w_date, .int (bz k0), .int (v_a0 (((l2 + 2)).toNatClampNeg)), .int (v_a0 (((l2 + 3)).toNatClampNeg))])), (h_a0, .inl (cy 0, 264, .inl v_a0)), (h_lives, .inl (cy 0, 100, .inl (upd w_lives ((w_date).toNatClampNeg) (v_a0 (((l2 + 4)).toNatClampNeg))))), (h_memories, .inl (cy 0, 3, .inl (va_cpy v_a0 w_memories ((l2 + 5) : Int32).toNatClampNeg (0 : Int32).toNatClampNeg (3 : Int32).toNatClampNeg))), (h_purses, .inl (cy 0, 3, .inl (va_cpy v_a0 w_purses (((l2 + 5) + 3) : Int32).toNatClampNeg (0 : Int32).toNatClampNeg (3 : Int32).toNatClampNeg)))] := hD
    exact rt_v C hQ rfl hP hD hS ⟨w_date, k0, (v_a0 (((l2 + 2)).toNatClampNeg)), (v_a0 (((l2 + 3)).toNatClampNeg)), (upd w_lives ((w_date).toNatClampNeg) (v_a0 (((l2 + 4)).toNatClampNeg))), (va_cpy v_a0 w_memories ((l2 + 5) : Int32).toNatClampNeg (0 : Int32).toNatClampNeg (3 : Int32).toNatClampNeg), (va_cpy v_a0 w_purses (((l2 + 5) + 3) : Int32).toNatClampNeg (0 : Int32).toNatClampNeg (3 : Int32).toNatClampNeg), rfl, hF⟩ dX9_takeBack_85
  unfold wpX9_takeBack at hF
  refine lv_aload_n hx hb dX9_takeBack_0 rfl (lv_at hl 0 rfl) ?_
  refine lv_aload_n hx hb dX9_takeBack_1 rfl (lv_at hl 1 rfl) ?_
  refine lv_iload_n hx hb dX9_takeBack_2 rfl (lv_at hl 2 rfl) ?_
  obtain ⟨hi1, hF⟩ := hF
  refine s_iald (j := (p1).toNatClampNeg) hx hb hK.1 hP 1 0 rfl rfl hi1 rfl dX9_takeBack_3 ?_
  refine va_put (D := D) (ci := 8) (v := .int (v_a0 ((p1).toNatClampNeg))) (ty := .int) (C := RX9) (T := TX9) (N := 10) hx hb hts inTX9 tyX9 tyX9_ok nmX9 hown hK.1 hP hD hS 0 rfl rfl 6 (by decide) (hts _ t1_95) (fun _ h9 => h9) rfl (tyX9_ok 6 (by decide)) rfl rfl (Nat.le_of_ble_eq_true rfl) dX9_takeBack_4 (fun H locs hP hD hS => ?_)
  have hP : va_P D CL [(h_this, .inr (8, [x_people, .ref h_memories, .ref h_purses, .ref h_lives, .int (bz v_there), .int v_size, .int (v_a0 ((p1).toNatClampNeg)), .int (bz v_evening), .int v_well, .int v_rights])), (h_a0, .inl (cy 0, 264, .inl v_a0)), (h_lives, .inl (cy 0, 100, .inl v_lives)), (h_memories, .inl (cy 0, 3, .inl v_memories)), (h_purses, .inl (cy 0, 3, .inl v_purses))] H := hP
  have hD : va_D A [(h_this, .inr (8, [x_people, .ref h_memories, .ref h_purses, .ref h_lives, .int (bz v_there), .int v_size, .int (v_a0 ((p1).toNatClampNeg)), .int (bz v_evening), .int v_well, .int v_rights])), (h_a0, .inl (cy 0, 264, .inl v_a0)), (h_lives, .inl (cy 0, 100, .inl v_lives)), (h_memories, .inl (cy 0, 3, .inl v_memories)), (h_purses, .inl (cy 0, 3, .inl v_purses))] := hD
  refine lv_aload_n hx hb dX9_takeBack_7 rfl (lv_at hl 0 rfl) ?_
  refine lv_aload_n hx hb dX9_takeBack_8 rfl (lv_at hl 1 rfl) ?_
  refine lv_iload_n hx hb dX9_takeBack_9 rfl (lv_at hl 2 rfl) ?_
  refine lv_iconst (v := 1) hx hb dX9_takeBack_10 (by decide) ?_
  refine lv_iadd hx hb dX9_takeBack_11 ?_
  obtain ⟨hi2, hF⟩ := hF
  refine s_iald (j := ((p1 + 1)).toNatClampNeg) hx hb hK.1 hP 1 0 rfl rfl hi2 rfl dX9_takeBack_12 ?_
  refine lv_iconst (v := 1) hx hb dX9_takeBack_13 (by decide) ?_
  refine lv_icmp_ne (tgt := 21) hx hb dX9_takeBack_14 (by decide) (fun c_ => ?_) (fun c_ => ?_)
  · have hF := hF.1 c_
    refine lv_iconst (v := 0) hx hb dX9_takeBack_21 (by decide) ?_
    exact J_22 p1 false (v_a0 ((p1).toNatClampNeg)) v_evening v_well v_rights v_lives v_memories v_purses _ _ ls  hP hD hS (lv_sub hl [0, 1, 2] rfl) hF
  · have hF := hF.2 c_
    refine lv_iconst (v := 1) hx hb dX9_takeBack_17 (by decide) ?_
    refine lv_goto (tgt := 22) hx hb dX9_takeBack_18 (by decide) ?_
    exact J_22 p1 true (v_a0 ((p1).toNatClampNeg)) v_evening v_well v_rights v_lives v_memories v_purses _ _ ls  hP hD hS (lv_sub hl [0, 1, 2] rfl) hF

def wjX9_personAt_12 (v_size : Int32) (v_people : Nat → Option Nat) (pe : Pe) (post : (Option Nat) → Prop) : Prop := post none
def wpX9_personAt (p0 : Int32) (v_size : Int32) (v_people : Nat → Option Nat) (pe : Pe) (post : (Option Nat) → Prop) : Prop := (p0 < 0 → (wjX9_personAt_12 v_size v_people pe post)) ∧ (¬ p0 < 0 → ((p0 < v_size → (vp_in p0 3 ∧ (((v_people ((p0).toNatClampNeg)) = none → (post none)) ∧ (∀ a2 : Nat, (v_people ((p0).toNatClampNeg)) = some a2 → a2 ∈ pe.1 ∧ (post (some a2)))))) ∧ (¬ p0 < v_size → (wjX9_personAt_12 v_size v_people pe post))))
abbrev miX9_personAt : MI := (yX9_personAt, cX9_personAt, 2, (some (.object "LivedAgain$Person")))
theorem mfX9_personAt : MF miX9_personAt 1 := ⟨t2_229, t1_5, by decide +kernel⟩
abbrev rmX9_personAt : Room := { frames := 0, cells := 0, slots := 0, locals := 0 }
set_option maxHeartbeats 4000000 in
set_option maxRecDepth 100000 in
theorem ccX9_personAt (l : Launch) (D : va_G) (cy : Nat → ClassId) (pe : Pe) (h_this : Nat) (h_people : Nat) (x_memories : Value) (x_purses : Value) (x_lives : Value) (v_there : Bool) (v_size : Int32) (v_date : Int32) (v_evening : Bool) (v_well : Int32) (v_rights : Int32) (v_people : Nat → Option Nat) (p0 : Int32) (post : (Option Nat) → Prop) (hF : wpX9_personAt p0 v_size v_people pe post) : Cr l D cy miX9_personAt rmX9_personAt emQ pe [.ref h_this, .int p0] [(h_this, .inr (8, [.ref h_people, x_memories, x_purses, x_lives, .int (bz v_there), .int v_size, .int v_date, .int (bz v_evening), .int v_well, .int v_rights])), (h_people, .inl (cy 3, 3, .inr (.inr (.inr (.inr v_people)))))] post := by
  refine Cr.of (by decide) (Nat.le_of_ble_eq_true rfl) ?_
  intro p e s m args below meth c ls Q C hQ hO hP hl
  obtain ⟨hx, hb, hr, hml, hown, hts, hK, hlk, hnm⟩ := id C
  have hb : c.code = cX9_personAt := hb
  have hml : c.maxLocals = 2 := hml
  have hown : s.vm.findClass RX9 = some m.cls := hown
  have hl : lv_has ls 2 [(0, .ref h_this), (1, .int p0)] := hl
  have J_12 : ∀  (ls : Array Slot), lv_has ls 2 [] → wjX9_personAt_12 v_size v_people pe post  → W p l e rmX9_personAt s m args below meth c s.heap [] 0 0 Q (F0 m 12 ls []) := by
    intro  ls  hl hF
    unfold wjX9_personAt_12 at hF
    refine lv_null hx hb dX9_personAt_12 ?_
    refine lv_goto (tgt := 22) hx hb dX9_personAt_13 (by decide) ?_
    exact rr_q (v := none) C hQ rfl rfl hF dX9_personAt_22
  unfold wpX9_personAt at hF
  refine lv_iload_n hx hb dX9_personAt_0 rfl (lv_at hl 1 rfl) ?_
  refine lv_if_lt (tgt := 12) hx hb dX9_personAt_1 (by decide) (fun c_ => ?_) (fun c_ => ?_)
  · have hF := hF.1 c_
    exact J_12  ls  (lv_sub hl [] rfl) hF
  · have hF := hF.2 c_
    refine lv_iload_n hx hb dX9_personAt_4 rfl (lv_at hl 1 rfl) ?_
    refine lv_aload_n hx hb dX9_personAt_5 rfl (lv_at hl 0 rfl) ?_
    refine va_get (D := D) (ci := 8) (v := .int v_size) (C := RX9) (T := TX9) (N := 10) hx hb hts inTX9 hown hK.1 hP 0 rfl rfl 5 (by decide) (hts _ t1_92) (fun _ h9 => h9) rfl dX9_personAt_6 ?_
    refine lv_icmp_lt (tgt := 16) hx hb dX9_personAt_9 (by decide) (fun c_ => ?_) (fun c_ => ?_)
    · have hF := hF.1 c_
      refine lv_aload_n hx hb dX9_personAt_16 rfl (lv_at hl 0 rfl) ?_
      refine va_get (D := D) (ci := 8) (v := .ref h_people) (C := RX9) (T := TX9) (N := 10) hx hb hts inTX9 hown hK.1 hP 0 rfl rfl 0 (by decide) (hts _ t1_83) (fun _ h9 => h9) rfl dX9_personAt_17 ?_
      refine lv_iload_n hx hb dX9_personAt_20 rfl (lv_at hl 1 rfl) ?_
      obtain ⟨hi1, hF⟩ := hF
      refine s_aldq (j := (p0).toNatClampNeg) hx hb hK.1 hP 1 3 rfl rfl hi1 rfl dX9_personAt_21 (fun hq => ?_) (fun a2 hq => ?_)
      · have hF := hF.1 hq
        exact rr_q (v := none) C hQ rfl rfl hF dX9_personAt_22
      · obtain ⟨ha_a2, hF⟩ := hF.2 a2 hq
        exact rr_q (v := (some a2)) C hQ rfl rfl hF dX9_personAt_22
    · have hF := hF.2 c_
      exact J_12  ls  (lv_sub hl [] rfl) hF

def wpX9_hasRight (p0 : Int32) (v_rights : Int32) (post : Bool → Prop) : Prop := (¬ ((v_rights >>> (p0 &&& 31)) &&& 1) = 1 → (post false)) ∧ (((v_rights >>> (p0 &&& 31)) &&& 1) = 1 → (post true))
abbrev miX9_hasRight : MI := (yX9_hasRight, cX9_hasRight, 2, (some .boolean))
theorem mfX9_hasRight : MF miX9_hasRight 1 := ⟨t3_43, t1_5, by decide +kernel⟩
abbrev rmX9_hasRight : Room := { frames := 0, cells := 0, slots := 0, locals := 0 }
set_option maxHeartbeats 4000000 in
set_option maxRecDepth 100000 in
theorem ccX9_hasRight (l : Launch) (D : va_G) (cy : Nat → ClassId) (h_this : Nat) (x_people : Value) (x_memories : Value) (x_purses : Value) (x_lives : Value) (v_there : Bool) (v_size : Int32) (v_date : Int32) (v_evening : Bool) (v_well : Int32) (v_rights : Int32) (p0 : Int32) (post : Bool → Prop) (hF : wpX9_hasRight p0 v_rights post) : Cr l D cy miX9_hasRight rmX9_hasRight emB NP [.ref h_this, .int p0] [(h_this, .inr (8, [x_people, x_memories, x_purses, x_lives, .int (bz v_there), .int v_size, .int v_date, .int (bz v_evening), .int v_well, .int v_rights]))] post := by
  refine Cr.of (by decide) (Nat.le_of_ble_eq_true rfl) ?_
  intro p e s m args below meth c ls Q C hQ hO hP hl
  obtain ⟨hx, hb, hr, hml, hown, hts, hK, hlk, hnm⟩ := id C
  have hb : c.code = cX9_hasRight := hb
  have hml : c.maxLocals = 2 := hml
  have hown : s.vm.findClass RX9 = some m.cls := hown
  have hl : lv_has ls 2 [(0, .ref h_this), (1, .int p0)] := hl
  unfold wpX9_hasRight at hF
  refine lv_aload_n hx hb dX9_hasRight_0 rfl (lv_at hl 0 rfl) ?_
  refine va_get (D := D) (ci := 8) (v := .int v_rights) (C := RX9) (T := TX9) (N := 10) hx hb hts inTX9 hown hK.1 hP 0 rfl rfl 9 (by decide) (hts _ t1_101) (fun _ h9 => h9) rfl dX9_hasRight_1 ?_
  refine lv_iload_n hx hb dX9_hasRight_4 rfl (lv_at hl 1 rfl) ?_
  refine lv_ishr hx hb dX9_hasRight_5 ?_
  refine lv_iconst (v := 1) hx hb dX9_hasRight_6 (by decide) ?_
  refine lv_iand hx hb dX9_hasRight_7 ?_
  refine lv_iconst (v := 1) hx hb dX9_hasRight_8 (by decide) ?_
  refine lv_icmp_ne (tgt := 16) hx hb dX9_hasRight_9 (by decide) (fun c_ => ?_) (fun c_ => ?_)
  · have hF := hF.1 c_
    refine lv_iconst (v := 0) hx hb dX9_hasRight_16 (by decide) ?_
    refine W.eq (g2 := F0 m 17 ls [.int (bz false)]) rfl ?_
    exact rr_b C hQ rfl hF dX9_hasRight_17
  · have hF := hF.2 c_
    refine lv_iconst (v := 1) hx hb dX9_hasRight_12 (by decide) ?_
    refine lv_goto (tgt := 17) hx hb dX9_hasRight_13 (by decide) ?_
    refine W.eq (g2 := F0 m 17 ls [.int (bz true)]) rfl ?_
    exact rr_b C hQ rfl hF dX9_hasRight_17

def wpX9_mayRepeat (p0 : Int32) (p1 : Int32) (v_size : Int32) (v_people : Nat → Option Nat) (pe : Pe) (post : Bool → Prop) : Prop := wpX9_personAt p0 v_size v_people pe (fun r1 => (r1 = none → (post false)) ∧ (∀ a2 : Nat, r1 = some a2 → a2 ∈ pe.1 ∧ ((¬ ((p1 >>> (p0 &&& 31)) &&& 1) = 1 → (post false)) ∧ (((p1 >>> (p0 &&& 31)) &&& 1) = 1 → (wv_mayUseRight (pe.2 a2) (fun r3 => (r3 = false → (post false)) ∧ (r3 = true → (post true))))))))
abbrev miX9_mayRepeat : MI := (yX9_mayRepeat, cX9_mayRepeat, 4, (some .boolean))
theorem mfX9_mayRepeat : MF miX9_mayRepeat 2 := ⟨t2_233, t1_5, by decide +kernel⟩
abbrev rmX9_mayRepeat : Room := { frames := 1, cells := 0, slots := 0, locals := 21 }
set_option maxHeartbeats 4000000 in
set_option maxRecDepth 100000 in
theorem ccX9_mayRepeat (l : Launch) (D : va_G) (cy : Nat → ClassId) (pe : Pe) (h_this : Nat) (h_people : Nat) (x_memories : Value) (x_purses : Value) (x_lives : Value) (v_there : Bool) (v_size : Int32) (v_date : Int32) (v_evening : Bool) (v_well : Int32) (v_rights : Int32) (v_people : Nat → Option Nat) (p0 : Int32) (p1 : Int32) (post : Bool → Prop) (hF : wpX9_mayRepeat p0 p1 v_size v_people pe post) : Cr l D cy miX9_mayRepeat rmX9_mayRepeat emB pe [.ref h_this, .int p0, .int p1] [(h_this, .inr (8, [.ref h_people, x_memories, x_purses, x_lives, .int (bz v_there), .int v_size, .int v_date, .int (bz v_evening), .int v_well, .int v_rights])), (h_people, .inl (cy 3, 3, .inr (.inr (.inr (.inr v_people)))))] post := by
  refine Cr.of (by decide) (Nat.le_of_ble_eq_true rfl) ?_
  intro p e s m args below meth c ls Q C hQ hO hP hl
  obtain ⟨hx, hb, hr, hml, hown, hts, hK, hlk, hnm⟩ := id C
  have hb : c.code = cX9_mayRepeat := hb
  have hml : c.maxLocals = 4 := hml
  have hown : s.vm.findClass RX9 = some m.cls := hown
  have hl : lv_has ls 4 [(0, .ref h_this), (1, .int p0), (2, .int p1)] := hl
  unfold wpX9_mayRepeat at hF
  refine lv_aload_n hx hb dX9_mayRepeat_0 rfl (lv_at hl 0 rfl) ?_
  refine lv_iload_n hx hb dX9_mayRepeat_1 rfl (lv_at hl 1 rfl) ?_
  refine cV_r (As := [.int p0]) C mfX9_personAt t2_227 t2_228 t2_234 (ccX9_personAt l D cy pe h_this h_people x_memories x_purses x_lives v_there v_size v_date v_evening v_well v_rights v_people p0 _ hF) rfl rfl (hP.sub [0, 1] rfl) hO hP 0 8 rfl rfl rfl rfl hl.1 rfl (Nat.le_of_ble_eq_true rfl) dX9_mayRepeat_2 ⟨Nat.le_of_ble_eq_true rfl, Nat.le_of_ble_eq_true rfl⟩ ⟨Nat.le_of_ble_eq_true rfl, Nat.le_of_ble_eq_true rfl⟩ ?_
  intro r1 hF
  rcases r1 with _ | a2
  · have hF := hF.1 rfl
    refine lv_astore_nN (lv' := [(3, .null), (0, .ref h_this), (1, .int p0), (2, .int p1)]) hx hb dX9_mayRepeat_5 rfl hl (by decide) rfl (fun ls hl => ?_)
    refine lv_aload_nN hx hb dX9_mayRepeat_6 rfl (lv_at hl 0 rfl) ?_
    refine lv_ifnullN (tgt := 30) hx hb dX9_mayRepeat_7 (by decide) ?_
    refine lv_iconst (v := 0) hx hb dX9_mayRepeat_30 (by decide) ?_
    refine W.eq (g2 := F0 m 31 ls [.int (bz false)]) rfl ?_
    exact rr_b C hQ rfl hF dX9_mayRepeat_31
  · obtain ⟨ha_a2, hF⟩ := hF.2 a2 rfl
    refine lv_astore_n (lv' := [(3, .ref a2), (0, .ref h_this), (1, .int p0), (2, .int p1)]) hx hb dX9_mayRepeat_5 rfl hl (by decide) rfl (fun ls hl => ?_)
    refine lv_aload_n hx hb dX9_mayRepeat_6 rfl (lv_at hl 0 rfl) ?_
    refine lv_ifnull hx hb dX9_mayRepeat_7 ?_
    refine lv_iload_n hx hb dX9_mayRepeat_10 rfl (lv_at hl 3 rfl) ?_
    refine lv_iload_n hx hb dX9_mayRepeat_11 rfl (lv_at hl 2 rfl) ?_
    refine lv_ishr hx hb dX9_mayRepeat_12 ?_
    refine lv_iconst (v := 1) hx hb dX9_mayRepeat_13 (by decide) ?_
    refine lv_iand hx hb dX9_mayRepeat_14 ?_
    refine lv_iconst (v := 1) hx hb dX9_mayRepeat_15 (by decide) ?_
    refine lv_icmp_ne (tgt := 30) hx hb dX9_mayRepeat_16 (by decide) (fun c_ => ?_) (fun c_ => ?_)
    · have hF := hF.1 c_
      refine lv_iconst (v := 0) hx hb dX9_mayRepeat_30 (by decide) ?_
      refine W.eq (g2 := F0 m 31 ls [.int (bz false)]) rfl ?_
      exact rr_b C hQ rfl hF dX9_mayRepeat_31
    · have hF := hF.2 c_
      refine lv_aload_n hx hb dX9_mayRepeat_19 rfl (lv_at hl 0 rfl) ?_
      refine pv_mayUseRight C hO ha_a2 t2_235 hl.1 (Nat.le_of_ble_eq_true rfl) dX9_mayRepeat_20 ⟨Nat.le_of_ble_eq_true rfl, Nat.le_of_ble_eq_true rfl⟩ ⟨Nat.le_of_ble_eq_true rfl, Nat.le_of_ble_eq_true rfl⟩ hF rfl ?_
      intro r3 hF
      refine W.eq (g2 := F0 m 23 ls [.int (bz r3)]) rfl ?_
      refine lv_if_eq (tgt := 30) hx hb dX9_mayRepeat_23 (by decide) (fun c_ => ?_) (fun c_ => ?_)
      · have hF := hF.1 ((bz_0 _).mp c_)
        refine lv_iconst (v := 0) hx hb dX9_mayRepeat_30 (by decide) ?_
        refine W.eq (g2 := F0 m 31 ls [.int (bz false)]) rfl ?_
        exact rr_b C hQ rfl hF dX9_mayRepeat_31
      · have hF := hF.2 ((bz_1 _).mp c_)
        refine lv_iconst (v := 1) hx hb dX9_mayRepeat_26 (by decide) ?_
        refine lv_goto (tgt := 31) hx hb dX9_mayRepeat_27 (by decide) ?_
        refine W.eq (g2 := F0 m 31 ls [.int (bz true)]) rfl ?_
        exact rr_b C hQ rfl hF dX9_mayRepeat_31

def wjX9_howManyMayRepeat_24 (v_size : Int32) (v_people : Nat → Option Nat) (pe : Pe) (post : Int32 → Prop) (K_4 : Int32 → Int32 → Int32 → Prop) (l1 : Int32) (l2 : Int32) (l3 : Int32) : Prop := K_4 l1 l2 (l3 + 1)
def wlX9_howManyMayRepeat_4 (v_size : Int32) (v_people : Nat → Option Nat) (pe : Pe) (post : Int32 → Prop) : Nat → Int32 → Int32 → Int32 → Prop
  | 0, _, _, _ => False
  | n + 1, l1, l2, l3 => (v_size ≤ l3 → (post l2)) ∧ (¬ v_size ≤ l3 → (wpX9_mayRepeat l3 l1 v_size v_people pe (fun r1 => (r1 = false → (wjX9_howManyMayRepeat_24 v_size v_people pe post (wlX9_howManyMayRepeat_4 v_size v_people pe post n) l1 l2 l3)) ∧ (r1 = true → (wjX9_howManyMayRepeat_24 v_size v_people pe post (wlX9_howManyMayRepeat_4 v_size v_people pe post n) l1 (l2 + 1) l3)))))
def wpX9_howManyMayRepeat (p0 : Int32) (v_size : Int32) (v_people : Nat → Option Nat) (pe : Pe) (post : Int32 → Prop) : Prop := wlX9_howManyMayRepeat_4 v_size v_people pe post fu p0 0 0
abbrev miX9_howManyMayRepeat : MI := (yX9_howManyMayRepeat, cX9_howManyMayRepeat, 4, (some .int))
theorem mfX9_howManyMayRepeat : MF miX9_howManyMayRepeat 1 := ⟨t3_210, t1_5, by decide +kernel⟩
abbrev rmX9_howManyMayRepeat : Room := { frames := 2, cells := 0, slots := 0, locals := 44 }
set_option maxHeartbeats 4000000 in
set_option maxRecDepth 100000 in
theorem ccX9_howManyMayRepeat (l : Launch) (D : va_G) (cy : Nat → ClassId) (pe : Pe) (h_this : Nat) (h_people : Nat) (x_memories : Value) (x_purses : Value) (x_lives : Value) (v_there : Bool) (v_size : Int32) (v_date : Int32) (v_evening : Bool) (v_well : Int32) (v_rights : Int32) (v_people : Nat → Option Nat) (p0 : Int32) (post : Int32 → Prop) (hF : wpX9_howManyMayRepeat p0 v_size v_people pe post) : Cr l D cy miX9_howManyMayRepeat rmX9_howManyMayRepeat emI pe [.ref h_this, .int p0] [(h_this, .inr (8, [.ref h_people, x_memories, x_purses, x_lives, .int (bz v_there), .int v_size, .int v_date, .int (bz v_evening), .int v_well, .int v_rights])), (h_people, .inl (cy 3, 3, .inr (.inr (.inr (.inr v_people)))))] post := by
  refine Cr.of (by decide) (Nat.le_of_ble_eq_true rfl) ?_
  intro p e s m args below meth c ls Q C hQ hO hP hl
  obtain ⟨hx, hb, hr, hml, hown, hts, hK, hlk, hnm⟩ := id C
  have hb : c.code = cX9_howManyMayRepeat := hb
  have hml : c.maxLocals = 4 := hml
  have hown : s.vm.findClass RX9 = some m.cls := hown
  have hl : lv_has ls 4 [(0, .ref h_this), (1, .int p0)] := hl
  have L_4 : ∀ (n_4 : Nat) (l1 : Int32) (l2 : Int32) (l3 : Int32) (ls : Array Slot), lv_has ls 4 [(0, .ref h_this), (1, .int l1), (2, .int l2), (3, .int l3)] → wlX9_howManyMayRepeat_4 v_size v_people pe post n_4 l1 l2 l3 → W p l e rmX9_howManyMayRepeat s m args below meth c s.heap [] 0 0 Q (F0 m 4 ls []) := by
    intro n_4
    induction n_4 with
    | zero =>
      intro l1 l2 l3 ls  hl hF
      simp only [wlX9_howManyMayRepeat_4] at hF
    | succ n_4 ih_4 =>
      have J_24 : ∀ (l1 : Int32) (l2 : Int32) (l3 : Int32) (ls : Array Slot), lv_has ls 4 [(0, .ref h_this), (1, .int l1), (2, .int l2), (3, .int l3)] → wjX9_howManyMayRepeat_24 v_size v_people pe post (wlX9_howManyMayRepeat_4 v_size v_people pe post n_4) l1 l2 l3 → W p l e rmX9_howManyMayRepeat s m args below meth c s.heap [] 0 0 Q (F0 m 24 ls []) := by
        intro l1 l2 l3 ls  hl hF
        unfold wjX9_howManyMayRepeat_24 at hF
        refine lv_iinc (v := (l3 + 1)) (lv' := [(3, .int (l3 + 1)), (0, .ref h_this), (1, .int l1), (2, .int l2)]) hx hb dX9_howManyMayRepeat_24 hl (k := 3) rfl rfl (by decide) rfl (fun ls hl => ?_)
        refine lv_goto (tgt := 4) hx hb dX9_howManyMayRepeat_27 (by decide) ?_
        exact ih_4 l1 l2 (l3 + 1) ls  (lv_sub hl [1, 2, 3, 0] rfl) hF
      intro l1 l2 l3 ls  hl hF
      unfold wlX9_howManyMayRepeat_4 at hF
      refine lv_iload_n hx hb dX9_howManyMayRepeat_4 rfl (lv_at hl 3 rfl) ?_
      refine lv_aload_n hx hb dX9_howManyMayRepeat_5 rfl (lv_at hl 0 rfl) ?_
      refine va_get (D := D) (ci := 8) (v := .int v_size) (C := RX9) (T := TX9) (N := 10) hx hb hts inTX9 hown hK.1 hP 0 rfl rfl 5 (by decide) (hts _ t1_92) (fun _ h9 => h9) rfl dX9_howManyMayRepeat_6 ?_
      refine lv_icmp_ge (tgt := 30) hx hb dX9_howManyMayRepeat_9 (by decide) (fun c_ => ?_) (fun c_ => ?_)
      · have hF := hF.1 c_
        refine lv_iload_n hx hb dX9_howManyMayRepeat_30 rfl (lv_at hl 2 rfl) ?_
        exact rr_i C hQ rfl hF dX9_howManyMayRepeat_31
      · have hF := hF.2 c_
        refine lv_aload_n hx hb dX9_howManyMayRepeat_12 rfl (lv_at hl 0 rfl) ?_
        refine lv_iload_n hx hb dX9_howManyMayRepeat_13 rfl (lv_at hl 3 rfl) ?_
        refine lv_iload_n hx hb dX9_howManyMayRepeat_14 rfl (lv_at hl 1 rfl) ?_
        refine cV_r (As := [.int l3, .int l1]) C mfX9_mayRepeat t2_231 t2_232 t3_115 (ccX9_mayRepeat l D cy pe h_this h_people x_memories x_purses x_lives v_there v_size v_date v_evening v_well v_rights v_people l3 l1 _ hF) rfl rfl (hP.sub [0, 1] rfl) hO hP 0 8 rfl rfl rfl rfl hl.1 rfl (Nat.le_of_ble_eq_true rfl) dX9_howManyMayRepeat_15 ⟨Nat.le_of_ble_eq_true rfl, Nat.le_of_ble_eq_true rfl⟩ ⟨Nat.le_of_ble_eq_true rfl, Nat.le_of_ble_eq_true rfl⟩ ?_
        intro r1 hF
        refine W.eq (g2 := F0 m 18 ls [.int (bz r1)]) rfl ?_
        refine lv_if_eq (tgt := 24) hx hb dX9_howManyMayRepeat_18 (by decide) (fun c_ => ?_) (fun c_ => ?_)
        · have hF := hF.1 ((bz_0 _).mp c_)
          exact J_24 l1 l2 l3 ls  (lv_sub hl [0, 1, 2, 3] rfl) hF
        · have hF := hF.2 ((bz_1 _).mp c_)
          refine lv_iinc (v := (l2 + 1)) (lv' := [(2, .int (l2 + 1)), (0, .ref h_this), (1, .int l1), (3, .int l3)]) hx hb dX9_howManyMayRepeat_21 hl (k := 2) rfl rfl (by decide) rfl (fun ls hl => ?_)
          exact J_24 l1 (l2 + 1) l3 ls  (lv_sub hl [1, 2, 0, 3] rfl) hF
  unfold wpX9_howManyMayRepeat at hF
  refine lv_iconst (v := 0) hx hb dX9_howManyMayRepeat_0 (by decide) ?_
  refine lv_istore_n (lv' := [(2, .int 0), (0, .ref h_this), (1, .int p0)]) hx hb dX9_howManyMayRepeat_1 rfl hl (by decide) rfl (fun ls hl => ?_)
  refine lv_iconst (v := 0) hx hb dX9_howManyMayRepeat_2 (by decide) ?_
  refine lv_istore_n (lv' := [(3, .int 0), (2, .int 0), (0, .ref h_this), (1, .int p0)]) hx hb dX9_howManyMayRepeat_3 rfl hl (by decide) rfl (fun ls hl => ?_)
  exact L_4 fu p0 0 0 ls  (lv_sub hl [2, 3, 1, 0] rfl) hF

def wjX9_firstToRepeat_62 (v_size : Int32) (v_a0 : Nat → Int32) (v_people : Nat → Option Nat) (pe : Pe) (post : Int32 → Prop) (K_3 : Int32 → Int32 → Int32 → Prop) (l2 : Int32) (l3 : Int32) (l4 : Int32) : Prop := K_3 l2 l3 (l4 + 1)
def wjX9_firstToRepeat_42 (v_size : Int32) (v_a0 : Nat → Int32) (v_people : Nat → Option Nat) (pe : Pe) (post : Int32 → Prop) (K_3 : Int32 → Int32 → Int32 → Prop) (l2 : Int32) (l3 : Int32) (l4 : Int32) (k0 : Bool) : Prop := (k0 = false → (wjX9_firstToRepeat_62 v_size v_a0 v_people pe post K_3 l2 l3 l4)) ∧ (k0 = true → (wpX9_mayRepeat l4 l2 v_size v_people pe (fun r1 => (r1 = false → (wjX9_firstToRepeat_62 v_size v_a0 v_people pe post K_3 l2 l3 l4)) ∧ (r1 = true → (post l4)))))
def wjX9_firstToRepeat_41 (v_size : Int32) (v_a0 : Nat → Int32) (v_people : Nat → Option Nat) (pe : Pe) (post : Int32 → Prop) (K_3 : Int32 → Int32 → Int32 → Prop) (l2 : Int32) (l3 : Int32) (l4 : Int32) : Prop := wjX9_firstToRepeat_42 v_size v_a0 v_people pe post K_3 l2 l3 l4 false
def wjX9_firstToRepeat_37 (v_size : Int32) (v_a0 : Nat → Int32) (v_people : Nat → Option Nat) (pe : Pe) (post : Int32 → Prop) (K_3 : Int32 → Int32 → Int32 → Prop) (l2 : Int32) (l3 : Int32) (l4 : Int32) : Prop := wjX9_firstToRepeat_42 v_size v_a0 v_people pe post K_3 l2 l3 l4 true
def wlX9_firstToRepeat_3 (v_size : Int32) (v_a0 : Nat → Int32) (v_people : Nat → Option Nat) (pe : Pe) (post : Int32 → Prop) : Nat → Int32 → Int32 → Int32 → Prop
  | 0, _, _, _ => False
  | n + 1, l2, l3, l4 => (v_size ≤ l4 → (post (-1))) ∧ (¬ v_size ≤ l4 → (vp_in l4 3 ∧ (((v_a0 ((l4).toNatClampNeg)) = 2 → (wjX9_firstToRepeat_37 v_size v_a0 v_people pe post (wlX9_firstToRepeat_3 v_size v_a0 v_people pe post n) l2 l3 l4)) ∧ (¬ (v_a0 ((l4).toNatClampNeg)) = 2 → (vp_in l4 3 ∧ ((¬ (v_a0 ((l4).toNatClampNeg)) = 1 → (wjX9_firstToRepeat_41 v_size v_a0 v_people pe post (wlX9_firstToRepeat_3 v_size v_a0 v_people pe post n) l2 l3 l4)) ∧ ((v_a0 ((l4).toNatClampNeg)) = 1 → ((¬ ((l3 >>> (l4 &&& 31)) &&& 1) = 0 → (wjX9_firstToRepeat_41 v_size v_a0 v_people pe post (wlX9_firstToRepeat_3 v_size v_a0 v_people pe post n) l2 l3 l4)) ∧ (((l3 >>> (l4 &&& 31)) &&& 1) = 0 → (wjX9_firstToRepeat_37 v_size v_a0 v_people pe post (wlX9_firstToRepeat_3 v_size v_a0 v_people pe post n) l2 l3 l4))))))))))
def wpX9_firstToRepeat (p1 : Int32) (p2 : Int32) (v_size : Int32) (v_a0 : Nat → Int32) (v_people : Nat → Option Nat) (pe : Pe) (post : Int32 → Prop) : Prop := wlX9_firstToRepeat_3 v_size v_a0 v_people pe post fu p1 p2 0
abbrev miX9_firstToRepeat : MI := (yX9_firstToRepeat, cX9_firstToRepeat, 6, (some .int))
theorem mfX9_firstToRepeat : MF miX9_firstToRepeat 3 := ⟨t3_114, t1_5, by decide +kernel⟩
abbrev rmX9_firstToRepeat : Room := { frames := 2, cells := 0, slots := 0, locals := 44 }
set_option maxHeartbeats 4000000 in
set_option maxRecDepth 100000 in
theorem ccX9_firstToRepeat (l : Launch) (D : va_G) (cy : Nat → ClassId) (pe : Pe) (h_this : Nat) (h_a0 : Nat) (h_people : Nat) (x_memories : Value) (x_purses : Value) (x_lives : Value) (v_there : Bool) (v_size : Int32) (v_date : Int32) (v_evening : Bool) (v_well : Int32) (v_rights : Int32) (v_a0 : Nat → Int32) (v_people : Nat → Option Nat) (p1 : Int32) (p2 : Int32) (post : Int32 → Prop) (hF : wpX9_firstToRepeat p1 p2 v_size v_a0 v_people pe post) : Cr l D cy miX9_firstToRepeat rmX9_firstToRepeat emI pe [.ref h_this, .ref h_a0, .int p1, .int p2] [(h_this, .inr (8, [.ref h_people, x_memories, x_purses, x_lives, .int (bz v_there), .int v_size, .int v_date, .int (bz v_evening), .int v_well, .int v_rights])), (h_a0, .inl (cy 0, 3, .inl v_a0)), (h_people, .inl (cy 3, 3, .inr (.inr (.inr (.inr v_people)))))] post := by
  refine Cr.of (by decide) (Nat.le_of_ble_eq_true rfl) ?_
  intro p e s m args below meth c ls Q C hQ hO hP hl
  obtain ⟨hx, hb, hr, hml, hown, hts, hK, hlk, hnm⟩ := id C
  have hb : c.code = cX9_firstToRepeat := hb
  have hml : c.maxLocals = 6 := hml
  have hown : s.vm.findClass RX9 = some m.cls := hown
  have hl : lv_has ls 6 [(0, .ref h_this), (1, .ref h_a0), (2, .int p1), (3, .int p2)] := hl
  have L_3 : ∀ (n_3 : Nat) (l2 : Int32) (l3 : Int32) (l4 : Int32) (ls : Array Slot), lv_has ls 6 [(0, .ref h_this), (1, .ref h_a0), (2, .int l2), (3, .int l3), (4, .int l4)] → wlX9_firstToRepeat_3 v_size v_a0 v_people pe post n_3 l2 l3 l4 → W p l e rmX9_firstToRepeat s m args below meth c s.heap [] 0 0 Q (F0 m 3 ls []) := by
    intro n_3
    induction n_3 with
    | zero =>
      intro l2 l3 l4 ls  hl hF
      simp only [wlX9_firstToRepeat_3] at hF
    | succ n_3 ih_3 =>
      have J_62 : ∀ (l2 : Int32) (l3 : Int32) (l4 : Int32) (ls : Array Slot), lv_has ls 6 [(0, .ref h_this), (1, .ref h_a0), (2, .int l2), (3, .int l3), (4, .int l4)] → wjX9_firstToRepeat_62 v_size v_a0 v_people pe post (wlX9_firstToRepeat_3 v_size v_a0 v_people pe post n_3) l2 l3 l4 → W p l e rmX9_firstToRepeat s m args below meth c s.heap [] 0 0 Q (F0 m 62 ls []) := by
        intro l2 l3 l4 ls  hl hF
        unfold wjX9_firstToRepeat_62 at hF
        refine lv_iinc (v := (l4 + 1)) (lv' := [(4, .int (l4 + 1)), (0, .ref h_this), (1, .ref h_a0), (2, .int l2), (3, .int l3)]) hx hb dX9_firstToRepeat_62 hl (k := 4) rfl rfl (by decide) rfl (fun ls hl => ?_)
        refine lv_goto (tgt := 3) hx hb dX9_firstToRepeat_65 (by decide) ?_
        exact ih_3 l2 l3 (l4 + 1) ls  (lv_sub hl [1, 2, 3, 4, 0] rfl) hF
      have J_42 : ∀ (l2 : Int32) (l3 : Int32) (l4 : Int32) (k0 : Bool) (ls : Array Slot), lv_has ls 6 [(0, .ref h_this), (1, .ref h_a0), (2, .int l2), (3, .int l3), (4, .int l4)] → wjX9_firstToRepeat_42 v_size v_a0 v_people pe post (wlX9_firstToRepeat_3 v_size v_a0 v_people pe post n_3) l2 l3 l4 k0 → W p l e rmX9_firstToRepeat s m args below meth c s.heap [] 0 0 Q (F0 m 42 ls [.int (bz k0)]) := by
        intro l2 l3 l4 k0 ls  hl hF
        unfold wjX9_firstToRepeat_42 at hF
        refine lv_istore (lv' := [(5, .int (bz k0)), (0, .ref h_this), (1, .ref h_a0), (2, .int l2), (3, .int l3), (4, .int l4)]) hx hb dX9_firstToRepeat_42 hl (by decide) rfl (fun ls hl => ?_)
        refine lv_iload hx hb dX9_firstToRepeat_44 (lv_at hl 0 rfl) ?_
        refine lv_if_eq (tgt := 62) hx hb dX9_firstToRepeat_46 (by decide) (fun c_ => ?_) (fun c_ => ?_)
        · have hF := hF.1 ((bz_0 _).mp c_)
          exact J_62 l2 l3 l4 ls  (lv_sub hl [1, 2, 3, 4, 5] rfl) hF
        · have hF := hF.2 ((bz_1 _).mp c_)
          refine lv_aload_n hx hb dX9_firstToRepeat_49 rfl (lv_at hl 1 rfl) ?_
          refine lv_iload hx hb dX9_firstToRepeat_50 (lv_at hl 5 rfl) ?_
          refine lv_iload_n hx hb dX9_firstToRepeat_52 rfl (lv_at hl 3 rfl) ?_
          refine cV_r (As := [.int l4, .int l2]) C mfX9_mayRepeat t2_231 t2_232 t3_115 (ccX9_mayRepeat l D cy pe h_this h_people x_memories x_purses x_lives v_there v_size v_date v_evening v_well v_rights v_people l4 l2 _ hF) rfl rfl (hP.sub [0, 2] rfl) hO hP 0 8 rfl rfl rfl rfl hl.1 rfl (Nat.le_of_ble_eq_true rfl) dX9_firstToRepeat_53 ⟨Nat.le_of_ble_eq_true rfl, Nat.le_of_ble_eq_true rfl⟩ ⟨Nat.le_of_ble_eq_true rfl, Nat.le_of_ble_eq_true rfl⟩ ?_
          intro r1 hF
          refine W.eq (g2 := F0 m 56 ls [.int (bz r1)]) rfl ?_
          refine lv_if_eq (tgt := 62) hx hb dX9_firstToRepeat_56 (by decide) (fun c_ => ?_) (fun c_ => ?_)
          · have hF := hF.1 ((bz_0 _).mp c_)
            exact J_62 l2 l3 l4 ls  (lv_sub hl [1, 2, 3, 4, 5] rfl) hF
          · have hF := hF.2 ((bz_1 _).mp c_)
            refine lv_iload hx hb dX9_firstToRepeat_59 (lv_at hl 5 rfl) ?_
            exact rr_i C hQ rfl hF dX9_firstToRepeat_61
      have J_41 : ∀ (l2 : Int32) (l3 : Int32) (l4 : Int32) (ls : Array Slot), lv_has ls 6 [(0, .ref h_this), (1, .ref h_a0), (2, .int l2), (3, .int l3), (4, .int l4)] → wjX9_firstToRepeat_41 v_size v_a0 v_people pe post (wlX9_firstToRepeat_3 v_size v_a0 v_people pe post n_3) l2 l3 l4 → W p l e rmX9_firstToRepeat s m args below meth c s.heap [] 0 0 Q (F0 m 41 ls []) := by
        intro l2 l3 l4 ls  hl hF
        unfold wjX9_firstToRepeat_41 at hF
        refine lv_iconst (v := 0) hx hb dX9_firstToRepeat_41 (by decide) ?_
        exact J_42 l2 l3 l4 false ls  (lv_sub hl [0, 1, 2, 3, 4] rfl) hF
      have J_37 : ∀ (l2 : Int32) (l3 : Int32) (l4 : Int32) (ls : Array Slot), lv_has ls 6 [(0, .ref h_this), (1, .ref h_a0), (2, .int l2), (3, .int l3), (4, .int l4)] → wjX9_firstToRepeat_37 v_size v_a0 v_people pe post (wlX9_firstToRepeat_3 v_size v_a0 v_people pe post n_3) l2 l3 l4 → W p l e rmX9_firstToRepeat s m args below meth c s.heap [] 0 0 Q (F0 m 37 ls []) := by
        intro l2 l3 l4 ls  hl hF
        unfold wjX9_firstToRepeat_37 at hF
        refine lv_iconst (v := 1) hx hb dX9_firstToRepeat_37 (by decide) ?_
        refine lv_goto (tgt := 42) hx hb dX9_firstToRepeat_38 (by decide) ?_
        exact J_42 l2 l3 l4 true ls  (lv_sub hl [0, 1, 2, 3, 4] rfl) hF
      intro l2 l3 l4 ls  hl hF
      unfold wlX9_firstToRepeat_3 at hF
      refine lv_iload hx hb dX9_firstToRepeat_3 (lv_at hl 4 rfl) ?_
      refine lv_aload_n hx hb dX9_firstToRepeat_5 rfl (lv_at hl 0 rfl) ?_
      refine va_get (D := D) (ci := 8) (v := .int v_size) (C := RX9) (T := TX9) (N := 10) hx hb hts inTX9 hown hK.1 hP 0 rfl rfl 5 (by decide) (hts _ t1_92) (fun _ h9 => h9) rfl dX9_firstToRepeat_6 ?_
      refine lv_icmp_ge (tgt := 68) hx hb dX9_firstToRepeat_9 (by decide) (fun c_ => ?_) (fun c_ => ?_)
      · have hF := hF.1 c_
        refine lv_iconst (v := (-1)) hx hb dX9_firstToRepeat_68 (by decide) ?_
        exact rr_i C hQ rfl hF dX9_firstToRepeat_69
      · have hF := hF.2 c_
        refine lv_aload_n hx hb dX9_firstToRepeat_12 rfl (lv_at hl 1 rfl) ?_
        refine lv_iload hx hb dX9_firstToRepeat_13 (lv_at hl 4 rfl) ?_
        obtain ⟨hi1, hF⟩ := hF
        refine s_iald (j := (l4).toNatClampNeg) hx hb hK.1 hP 1 0 rfl rfl hi1 rfl dX9_firstToRepeat_15 ?_
        refine lv_iconst (v := 2) hx hb dX9_firstToRepeat_16 (by decide) ?_
        refine lv_icmp_eq (tgt := 37) hx hb dX9_firstToRepeat_17 (by decide) (fun c_ => ?_) (fun c_ => ?_)
        · have hF := hF.1 c_
          exact J_37 l2 l3 l4 ls  (lv_sub hl [0, 1, 2, 3, 4] rfl) hF
        · have hF := hF.2 c_
          refine lv_aload_n hx hb dX9_firstToRepeat_20 rfl (lv_at hl 1 rfl) ?_
          refine lv_iload hx hb dX9_firstToRepeat_21 (lv_at hl 4 rfl) ?_
          obtain ⟨hi2, hF⟩ := hF
          refine s_iald (j := (l4).toNatClampNeg) hx hb hK.1 hP 1 0 rfl rfl hi2 rfl dX9_firstToRepeat_23 ?_
          refine lv_iconst (v := 1) hx hb dX9_firstToRepeat_24 (by decide) ?_
          refine lv_icmp_ne (tgt := 41) hx hb dX9_firstToRepeat_25 (by decide) (fun c_ => ?_) (fun c_ => ?_)
          · have hF := hF.1 c_
            exact J_41 l2 l3 l4 ls  (lv_sub hl [0, 1, 2, 3, 4] rfl) hF
          · have hF := hF.2 c_
            refine lv_iload_n hx hb dX9_firstToRepeat_28 rfl (lv_at hl 3 rfl) ?_
            refine lv_iload hx hb dX9_firstToRepeat_29 (lv_at hl 4 rfl) ?_
            refine lv_ishr hx hb dX9_firstToRepeat_31 ?_
            refine lv_iconst (v := 1) hx hb dX9_firstToRepeat_32 (by decide) ?_
            refine lv_iand hx hb dX9_firstToRepeat_33 ?_
            refine lv_if_ne (tgt := 41) hx hb dX9_firstToRepeat_34 (by decide) (fun c_ => ?_) (fun c_ => ?_)
            · have hF := hF.1 c_
              exact J_41 l2 l3 l4 ls  (lv_sub hl [0, 1, 2, 3, 4] rfl) hF
            · have hF := hF.2 c_
              exact J_37 l2 l3 l4 ls  (lv_sub hl [0, 1, 2, 3, 4] rfl) hF
  unfold wpX9_firstToRepeat at hF
  refine lv_iconst (v := 0) hx hb dX9_firstToRepeat_0 (by decide) ?_
  refine lv_istore (lv' := [(4, .int 0), (0, .ref h_this), (1, .ref h_a0), (2, .int p1), (3, .int p2)]) hx hb dX9_firstToRepeat_1 hl (by decide) rfl (fun ls hl => ?_)
  exact L_3 fu p1 p2 0 ls  (lv_sub hl [1, 2, 3, 4, 0] rfl) hF

def wjX9_passDay_78 (v_size : Int32) (v_people : Nat → Option Nat) (v_memories : Nat → Int32) (pe : Pe) (post : Int64 → Bool → Int32 → Prop) (K_10 : Int64 → Int32 → Bool → Int32 → Prop) (l3 : Int64) (l5 : Int32) (w_evening : Bool) (w_well : Int32) : Prop := K_10 l3 (l5 + 1) w_evening w_well
def wlX9_passDay_10 (v_size : Int32) (v_people : Nat → Option Nat) (v_memories : Nat → Int32) (pe : Pe) (post : Int64 → Bool → Int32 → Prop) : Nat → Int64 → Int32 → Bool → Int32 → Prop
  | 0, _, _, _, _ => False
  | n + 1, l3, l5, w_evening, w_well => (v_size ≤ l5 → (post l3 true w_well)) ∧ (¬ v_size ≤ l5 → (vp_in l5 3 ∧ (((v_people ((l5).toNatClampNeg)) = none → (wjX9_passDay_78 v_size v_people v_memories pe post (wlX9_passDay_10 v_size v_people v_memories pe post n) ((l3 * 16807) - (l3 * 16807) / 2147483647 * 2147483647) l5 w_evening w_well)) ∧ (∀ a2 : Nat, (v_people ((l5).toNatClampNeg)) = some a2 → a2 ∈ pe.1 ∧ (vp_in l5 3 ∧ (wv_oddsBy (v_memories ((l5).toNatClampNeg)) (pe.2 a2) (fun r4 => (((r4).toInt64) ≤ (((l3 * 16807) - (l3 * 16807) / 2147483647 * 2147483647) - ((l3 * 16807) - (l3 * 16807) / 2147483647 * 2147483647) / 10 * 10) → (wjX9_passDay_78 v_size v_people v_memories pe post (wlX9_passDay_10 v_size v_people v_memories pe post n) ((l3 * 16807) - (l3 * 16807) / 2147483647 * 2147483647) l5 w_evening w_well)) ∧ (¬ ((r4).toInt64) ≤ (((l3 * 16807) - (l3 * 16807) / 2147483647 * 2147483647) - ((l3 * 16807) - (l3 * 16807) / 2147483647 * 2147483647) / 10 * 10) → (wjX9_passDay_78 v_size v_people v_memories pe post (wlX9_passDay_10 v_size v_people v_memories pe post n) ((l3 * 16807) - (l3 * 16807) / 2147483647 * 2147483647) l5 w_evening (w_well ||| ((1 : Int32) <<< (l5 &&& 31))))))))))))
def wpX9_passDay (p0 : Int64) (v_size : Int32) (v_evening : Bool) (v_well : Int32) (v_people : Nat → Option Nat) (v_memories : Nat → Int32) (pe : Pe) (post : Int64 → Bool → Int32 → Prop) : Prop := wlX9_passDay_10 v_size v_people v_memories pe post fu p0 0 v_evening 0
abbrev miX9_passDay : MI := (yX9_passDay, cX9_passDay, 7, (some .long))
theorem mfX9_passDay : MF miX9_passDay 1 := ⟨t2_197, t1_5, by decide +kernel⟩
abbrev rmX9_passDay : Room := { frames := 2, cells := 0, slots := 0, locals := 42 }
set_option maxHeartbeats 4000000 in
set_option maxRecDepth 100000 in
theorem ccX9_passDay (l : Launch) (D : va_G) (cy : Nat → ClassId) (pe : Pe) (h_this : Nat) (h_people : Nat) (h_memories : Nat) (x_purses : Value) (x_lives : Value) (v_there : Bool) (v_size : Int32) (v_date : Int32) (v_evening : Bool) (v_well : Int32) (v_rights : Int32) (v_people : Nat → Option Nat) (v_memories : Nat → Int32) (p0 : Int64) (post : Int64 → Bool → Int32 → Prop) (hF : wpX9_passDay p0 v_size v_evening v_well v_people v_memories pe post) : Ct l D cy miX9_passDay rmX9_passDay emL pe [.ref h_this, .long p0] [(h_this, .inr (8, [.ref h_people, .ref h_memories, x_purses, x_lives, .int (bz v_there), .int v_size, .int v_date, .int (bz v_evening), .int v_well, .int v_rights])), (h_people, .inl (cy 3, 3, .inr (.inr (.inr (.inr v_people))))), (h_memories, .inl (cy 0, 3, .inl v_memories))] (fun r w1 => ∃ (w_evening : Bool) (w_well : Int32), w1 = [(h_this, .inr (8, [.ref h_people, .ref h_memories, x_purses, x_lives, .int (bz v_there), .int v_size, .int v_date, .int (bz w_evening), .int w_well, .int v_rights])), (h_people, .inl (cy 3, 3, .inr (.inr (.inr (.inr v_people))))), (h_memories, .inl (cy 0, 3, .inl v_memories))] ∧ post r w_evening w_well) := by
  refine Ct.of (by decide) (Nat.le_of_ble_eq_true rfl) ?_
  intro p e s m args below meth c A ls Q C hQ hA hI hP hD hS hl
  obtain ⟨hx, hb, hr, hml, hown, hts, hK, hlk, hnm⟩ := id C
  have hb : c.code = cX9_passDay := hb
  have hml : c.maxLocals = 7 := hml
  have hown : s.vm.findClass RX9 = some m.cls := hown
  have hl : lv_has ls 7 [(0, .ref h_this), (1, .long p0)] := hl
  have L_10 : ∀ (n_10 : Nat) (l3 : Int64) (l5 : Int32) (w_evening : Bool) (w_well : Int32) (H : Heap) (locs : List Loc) (ls : Array Slot), va_P D CL [(h_this, .inr (8, [.ref h_people, .ref h_memories, x_purses, x_lives, .int (bz v_there), .int v_size, .int v_date, .int (bz w_evening), .int w_well, .int v_rights])), (h_people, .inl (cy 3, 3, .inr (.inr (.inr (.inr v_people))))), (h_memories, .inl (cy 0, 3, .inl v_memories))] H → va_D A [(h_this, .inr (8, [.ref h_people, .ref h_memories, x_purses, x_lives, .int (bz v_there), .int v_size, .int v_date, .int (bz w_evening), .int w_well, .int v_rights])), (h_people, .inl (cy 3, 3, .inr (.inr (.inr (.inr v_people))))), (h_memories, .inl (cy 0, 3, .inl v_memories))] → va_S A s.heap H locs → lv_has ls 7 [(0, .ref h_this), (3, .long l3), (5, .int l5)] → wlX9_passDay_10 v_size v_people v_memories pe post n_10 l3 l5 w_evening w_well → W p l e rmX9_passDay s m args below meth c H locs 0 0 Q (F0 m 10 ls []) := by
    intro n_10
    induction n_10 with
    | zero =>
      intro l3 l5 w_evening w_well H locs ls  hP hD hS hl hF
      simp only [wlX9_passDay_10] at hF
    | succ n_10 ih_10 =>
      have J_78 : ∀ (l3 : Int64) (l5 : Int32) (w_evening : Bool) (w_well : Int32) (H : Heap) (locs : List Loc) (ls : Array Slot), va_P D CL [(h_this, .inr (8, [.ref h_people, .ref h_memories, x_purses, x_lives, .int (bz v_there), .int v_size, .int v_date, .int (bz w_evening), .int w_well, .int v_rights])), (h_people, .inl (cy 3, 3, .inr (.inr (.inr (.inr v_people))))), (h_memories, .inl (cy 0, 3, .inl v_memories))] H → va_D A [(h_this, .inr (8, [.ref h_people, .ref h_memories, x_purses, x_lives, .int (bz v_there), .int v_size, .int v_date, .int (bz w_evening), .int w_well, .int v_rights])), (h_people, .inl (cy 3, 3, .inr (.inr (.inr (.inr v_people))))), (h_memories, .inl (cy 0, 3, .inl v_memories))] → va_S A s.heap H locs → lv_has ls 7 [(0, .ref h_this), (3, .long l3), (5, .int l5)] → wjX9_passDay_78 v_size v_people v_memories pe post (wlX9_passDay_10 v_size v_people v_memories pe post n_10) l3 l5 w_evening w_well → W p l e rmX9_passDay s m args below meth c H locs 0 0 Q (F0 m 78 ls []) := by
        intro l3 l5 w_evening w_well H locs ls  hP hD hS hl hF
        unfold wjX9_passDay_78 at hF
        refine lv_iinc (v := (l5 + 1)) (lv' := [(5, .int (l5 + 1)), (0, .ref h_this), (3, .long l3)]) hx hb dX9_passDay_78 hl (k := 2) rfl rfl (by decide) rfl (fun ls hl => ?_)
        refine lv_goto (tgt := 10) hx hb dX9_passDay_81 (by decide) ?_
        exact ih_10 l3 (l5 + 1) w_evening w_well _ _ ls  hP hD hS (lv_sub hl [1, 2, 0] rfl) hF
      intro l3 l5 w_evening w_well H locs ls  hP hD hS hl hF
      unfold wlX9_passDay_10 at hF
      refine lv_iload hx hb dX9_passDay_10 (lv_at hl 2 rfl) ?_
      refine lv_aload_n hx hb dX9_passDay_12 rfl (lv_at hl 0 rfl) ?_
      refine va_get (D := D) (ci := 8) (v := .int v_size) (C := RX9) (T := TX9) (N := 10) hx hb hts inTX9 hown hK.1 hP 0 rfl rfl 5 (by decide) (hts _ t1_92) (fun _ h9 => h9) rfl dX9_passDay_13 ?_
      refine lv_icmp_ge (tgt := 84) hx hb dX9_passDay_16 (by decide) (fun c_ => ?_) (fun c_ => ?_)
      · have hF := hF.1 c_
        refine lv_aload_n hx hb dX9_passDay_84 rfl (lv_at hl 0 rfl) ?_
        refine lv_iconst (v := 1) hx hb dX9_passDay_85 (by decide) ?_
        refine W.eq (g2 := F0 m 86 ls [.int (bz true), .ref h_this]) rfl ?_
        refine va_put (D := D) (ci := 8) (v := .int (bz true)) (ty := .boolean) (C := RX9) (T := TX9) (N := 10) hx hb hts inTX9 tyX9 tyX9_ok nmX9 hown hK.1 hP hD hS 0 rfl rfl 7 (by decide) (hts _ t1_97) (fun _ h9 => h9) rfl (tyX9_ok 7 (by decide)) (nr_bz _) (ft_bz _) (Nat.le_of_ble_eq_true rfl) dX9_passDay_86 (fun H locs hP hD hS => ?_)
        have hP : va_P D CL [(h_this, .inr (8, [.ref h_people, .ref h_memories, x_purses, x_lives, .int (bz v_there), .int v_size, .int v_date, .int (bz true), .int w_well, .int v_rights])), (h_people, .inl (cy 3, 3, .inr (.inr (.inr (.inr v_people))))), (h_memories, .inl (cy 0, 3, .inl v_memories))] H := hP
        have hD : va_D A [(h_this, .inr (8, [.ref h_people, .ref h_memories, x_purses, x_lives, .int (bz v_there), .int v_size, .int v_date, .int (bz true), .int w_well, .int v_rights])), (h_people, .inl (cy 3, 3, .inr (.inr (.inr (.inr v_people))))), (h_memories, .inl (cy 0, 3, .inl v_memories))] := hD
        refine lv_lload_n hx hb dX9_passDay_89 rfl (lv_at hl 1 rfl) ?_
        exact rt_l C hQ rfl hP hD hS ⟨true, w_well, rfl, hF⟩ dX9_passDay_90
      · have hF := hF.2 c_
        refine lv_aload_n hx hb dX9_passDay_19 rfl (lv_at hl 0 rfl) ?_
        refine va_get (D := D) (ci := 8) (v := .ref h_people) (C := RX9) (T := TX9) (N := 10) hx hb hts inTX9 hown hK.1 hP 0 rfl rfl 0 (by decide) (hts _ t1_83) (fun _ h9 => h9) rfl dX9_passDay_20 ?_
        refine lv_iload hx hb dX9_passDay_23 (lv_at hl 2 rfl) ?_
        obtain ⟨hi1, hF⟩ := hF
        refine s_aldq (j := (l5).toNatClampNeg) hx hb hK.1 hP 1 3 rfl rfl hi1 rfl dX9_passDay_25 (fun hq => ?_) (fun a2 hq => ?_)
        · have hF := hF.1 hq
          refine lv_astoreN (lv' := [(6, .null), (0, .ref h_this), (3, .long l3), (5, .int l5)]) hx hb dX9_passDay_26 hl (by decide) rfl (fun ls hl => ?_)
          refine lv_lload_n hx hb dX9_passDay_28 rfl (lv_at hl 2 rfl) ?_
          refine lv_ldc2 hx hb hown (hts _ t2_198) dX9_passDay_29 ?_
          refine lv_lmul hx hb dX9_passDay_32 ?_
          refine lv_ldc2 hx hb hown (hts _ t2_199) dX9_passDay_33 ?_
          refine lv_lrem hx hb dX9_passDay_36 (by decide) ?_
          refine lv_lstore_n (lv' := [(3, .long ((l3 * 16807) - (l3 * 16807) / 2147483647 * 2147483647)), (6, .null), (0, .ref h_this), (5, .int l5)]) hx hb dX9_passDay_37 rfl hl (by decide) rfl (fun ls hl => ?_)
          refine lv_aloadN hx hb dX9_passDay_38 (lv_at hl 1 rfl) ?_
          refine lv_ifnullN (tgt := 78) hx hb dX9_passDay_40 (by decide) ?_
          exact J_78 ((l3 * 16807) - (l3 * 16807) / 2147483647 * 2147483647) l5 w_evening w_well _ _ ls  hP hD hS (lv_sub hl [2, 0, 3] rfl) hF
        · obtain ⟨ha_a2, hF⟩ := hF.2 a2 hq
          refine lv_astore (lv' := [(6, .ref a2), (0, .ref h_this), (3, .long l3), (5, .int l5)]) hx hb dX9_passDay_26 hl (by decide) rfl (fun ls hl => ?_)
          refine lv_lload_n hx hb dX9_passDay_28 rfl (lv_at hl 2 rfl) ?_
          refine lv_ldc2 hx hb hown (hts _ t2_198) dX9_passDay_29 ?_
          refine lv_lmul hx hb dX9_passDay_32 ?_
          refine lv_ldc2 hx hb hown (hts _ t2_199) dX9_passDay_33 ?_
          refine lv_lrem hx hb dX9_passDay_36 (by decide) ?_
          refine lv_lstore_n (lv' := [(3, .long ((l3 * 16807) - (l3 * 16807) / 2147483647 * 2147483647)), (6, .ref a2), (0, .ref h_this), (5, .int l5)]) hx hb dX9_passDay_37 rfl hl (by decide) rfl (fun ls hl => ?_)
          refine lv_aload hx hb dX9_passDay_38 (lv_at hl 1 rfl) ?_
          refine lv_ifnull hx hb dX9_passDay_40 ?_
          refine lv_lload_n hx hb dX9_passDay_43 rfl (lv_at hl 0 rfl) ?_
          refine lv_ldc2 hx hb hown (hts _ t2_200) dX9_passDay_44 ?_
          refine lv_lrem hx hb dX9_passDay_47 (by decide) ?_
          refine lv_aload hx hb dX9_passDay_48 (lv_at hl 1 rfl) ?_
          refine lv_aload_n hx hb dX9_passDay_50 rfl (lv_at hl 2 rfl) ?_
          refine va_get (D := D) (ci := 8) (v := .ref h_memories) (C := RX9) (T := TX9) (N := 10) hx hb hts inTX9 hown hK.1 hP 0 rfl rfl 1 (by decide) (hts _ t1_84) (fun _ h9 => h9) rfl dX9_passDay_51 ?_
          refine lv_iload hx hb dX9_passDay_54 (lv_at hl 3 rfl) ?_
          obtain ⟨hi3, hF⟩ := hF
          refine s_iald (j := (l5).toNatClampNeg) hx hb hK.1 hP 2 0 rfl rfl hi3 rfl dX9_passDay_56 ?_
          refine pv_oddsBy C (hI.at hS) ha_a2 t2_201 hl.1 (Nat.le_of_ble_eq_true rfl) dX9_passDay_57 ⟨Nat.le_of_ble_eq_true rfl, Nat.le_of_ble_eq_true rfl⟩ ⟨Nat.le_of_ble_eq_true rfl, Nat.le_of_ble_eq_true rfl⟩ hF rfl ?_
          intro r4 hF
          refine W.eq (g2 := F0 m 60 ls [.int r4, .long (((l3 * 16807) - (l3 * 16807) / 2147483647 * 2147483647) - ((l3 * 16807) - (l3 * 16807) / 2147483647 * 2147483647) / 10 * 10)]) rfl ?_
          refine lv_i2l hx hb dX9_passDay_60 rfl ?_
          refine W.lcmp hx hb dX9_passDay_61 ?_
          refine lv_if_ge (tgt := 78) hx hb dX9_passDay_62 (by decide) (fun c_ => ?_) (fun c_ => ?_)
          · have hF := hF.1 ((lg_cmp_ge _ _).mp c_)
            exact J_78 ((l3 * 16807) - (l3 * 16807) / 2147483647 * 2147483647) l5 w_evening w_well _ _ ls  hP hD hS (lv_sub hl [2, 0, 3] rfl) hF
          · have hF := hF.2 (fun z9 => c_ ((lg_cmp_ge _ _).mpr z9))
            refine lv_aload_n hx hb dX9_passDay_65 rfl (lv_at hl 2 rfl) ?_
            refine lv_dup hx hb dX9_passDay_66 rfl ?_
            refine va_get (D := D) (ci := 8) (v := .int w_well) (C := RX9) (T := TX9) (N := 10) hx hb hts inTX9 hown hK.1 hP 0 rfl rfl 8 (by decide) (hts _ t1_99) (fun _ h9 => h9) rfl dX9_passDay_67 ?_
            refine lv_iconst (v := 1) hx hb dX9_passDay_70 (by decide) ?_
            refine lv_iload hx hb dX9_passDay_71 (lv_at hl 3 rfl) ?_
            refine lv_ishl hx hb dX9_passDay_73 ?_
            refine lv_ior hx hb dX9_passDay_74 ?_
            refine va_put (D := D) (ci := 8) (v := .int (w_well ||| ((1 : Int32) <<< (l5 &&& 31)))) (ty := .int) (C := RX9) (T := TX9) (N := 10) hx hb hts inTX9 tyX9 tyX9_ok nmX9 hown hK.1 hP hD hS 0 rfl rfl 8 (by decide) (hts _ t1_99) (fun _ h9 => h9) rfl (tyX9_ok 8 (by decide)) rfl rfl (Nat.le_of_ble_eq_true rfl) dX9_passDay_75 (fun H locs hP hD hS => ?_)
            have hP : va_P D CL [(h_this, .inr (8, [.ref h_people, .ref h_memories, x_purses, x_lives, .int (bz v_there), .int v_size, .int v_date, .int (bz w_evening), .int (w_well ||| ((1 : Int32) <<< (l5 &&& 31))), .int v_rights])), (h_people, .inl (cy 3, 3, .inr (.inr (.inr (.inr v_people))))), (h_memories, .inl (cy 0, 3, .inl v_memories))] H := hP
            have hD : va_D A [(h_this, .inr (8, [.ref h_people, .ref h_memories, x_purses, x_lives, .int (bz v_there), .int v_size, .int v_date, .int (bz w_evening), .int (w_well ||| ((1 : Int32) <<< (l5 &&& 31))), .int v_rights])), (h_people, .inl (cy 3, 3, .inr (.inr (.inr (.inr v_people))))), (h_memories, .inl (cy 0, 3, .inl v_memories))] := hD
            exact J_78 ((l3 * 16807) - (l3 * 16807) / 2147483647 * 2147483647) l5 w_evening (w_well ||| ((1 : Int32) <<< (l5 &&& 31))) _ _ ls  hP hD hS (lv_sub hl [2, 0, 3] rfl) hF
  unfold wpX9_passDay at hF
  refine lv_lload_n hx hb dX9_passDay_0 rfl (lv_at hl 1 rfl) ?_
  refine lv_lstore_n (lv' := [(3, .long p0), (0, .ref h_this), (1, .long p0)]) hx hb dX9_passDay_1 rfl hl (by decide) rfl (fun ls hl => ?_)
  refine lv_aload_n hx hb dX9_passDay_2 rfl (lv_at hl 1 rfl) ?_
  refine lv_iconst (v := 0) hx hb dX9_passDay_3 (by decide) ?_
  refine va_put (D := D) (ci := 8) (v := .int 0) (ty := .int) (C := RX9) (T := TX9) (N := 10) hx hb hts inTX9 tyX9 tyX9_ok nmX9 hown hK.1 hP hD hS 0 rfl rfl 8 (by decide) (hts _ t1_99) (fun _ h9 => h9) rfl (tyX9_ok 8 (by decide)) rfl rfl (Nat.le_of_ble_eq_true rfl) dX9_passDay_4 (fun H locs hP hD hS => ?_)
  have hP : va_P D CL [(h_this, .inr (8, [.ref h_people, .ref h_memories, x_purses, x_lives, .int (bz v_there), .int v_size, .int v_date, .int (bz v_evening), .int 0, .int v_rights])), (h_people, .inl (cy 3, 3, .inr (.inr (.inr (.inr v_people))))), (h_memories, .inl (cy 0, 3, .inl v_memories))] H := hP
  have hD : va_D A [(h_this, .inr (8, [.ref h_people, .ref h_memories, x_purses, x_lives, .int (bz v_there), .int v_size, .int v_date, .int (bz v_evening), .int 0, .int v_rights])), (h_people, .inl (cy 3, 3, .inr (.inr (.inr (.inr v_people))))), (h_memories, .inl (cy 0, 3, .inl v_memories))] := hD
  refine lv_iconst (v := 0) hx hb dX9_passDay_7 (by decide) ?_
  refine lv_istore (lv' := [(5, .int 0), (3, .long p0), (0, .ref h_this), (1, .long p0)]) hx hb dX9_passDay_8 hl (by decide) rfl (fun ls hl => ?_)
  exact L_10 fu p0 0 v_evening 0 _ _ ls  hP hD hS (lv_sub hl [2, 1, 0] rfl) hF

def wpX9_repeatDay (p0 : Int32) (v_evening : Bool) (v_well : Int32) (v_rights : Int32) (v_memories : Nat → Int32) (post : Unit → Bool → Int32 → Int32 → (Nat → Int32) → Prop) : Prop := vp_in p0 3 ∧ (vp_in p0 3 ∧ (post () false 0 (v_rights &&& (((1 : Int32) <<< (p0 &&& 31)) ^^^ (-1))) (upd v_memories ((p0).toNatClampNeg) ((v_memories ((p0).toNatClampNeg)) + 1))))
abbrev miX9_repeatDay : MI := (yX9_repeatDay, cX9_repeatDay, 2, none)
theorem mfX9_repeatDay : MF miX9_repeatDay 1 := ⟨t3_11, t1_5, by decide +kernel⟩
abbrev rmX9_repeatDay : Room := { frames := 0, cells := 0, slots := 0, locals := 0 }
set_option maxHeartbeats 4000000 in
set_option maxRecDepth 100000 in
theorem ccX9_repeatDay (l : Launch) (D : va_G) (cy : Nat → ClassId) (h_this : Nat) (h_memories : Nat) (x_people : Value) (x_purses : Value) (x_lives : Value) (v_there : Bool) (v_size : Int32) (v_date : Int32) (v_evening : Bool) (v_well : Int32) (v_rights : Int32) (v_memories : Nat → Int32) (p0 : Int32) (post : Unit → Bool → Int32 → Int32 → (Nat → Int32) → Prop) (hF : wpX9_repeatDay p0 v_evening v_well v_rights v_memories post) : Ct l D cy miX9_repeatDay rmX9_repeatDay emV NP [.ref h_this, .int p0] [(h_this, .inr (8, [x_people, .ref h_memories, x_purses, x_lives, .int (bz v_there), .int v_size, .int v_date, .int (bz v_evening), .int v_well, .int v_rights])), (h_memories, .inl (cy 0, 3, .inl v_memories))] (fun r w1 => ∃ (w_evening : Bool) (w_well : Int32) (w_rights : Int32) (w_memories : Nat → Int32), w1 = [(h_this, .inr (8, [x_people, .ref h_memories, x_purses, x_lives, .int (bz v_there), .int v_size, .int v_date, .int (bz w_evening), .int w_well, .int w_rights])), (h_memories, .inl (cy 0, 3, .inl w_memories))] ∧ post r w_evening w_well w_rights w_memories) := by
  refine Ct.of (by decide) (Nat.le_of_ble_eq_true rfl) ?_
  intro p e s m args below meth c A ls Q C hQ hA hI hP hD hS hl
  obtain ⟨hx, hb, hr, hml, hown, hts, hK, hlk, hnm⟩ := id C
  have hb : c.code = cX9_repeatDay := hb
  have hml : c.maxLocals = 2 := hml
  have hown : s.vm.findClass RX9 = some m.cls := hown
  have hl : lv_has ls 2 [(0, .ref h_this), (1, .int p0)] := hl
  unfold wpX9_repeatDay at hF
  refine lv_aload_n hx hb dX9_repeatDay_0 rfl (lv_at hl 0 rfl) ?_
  refine lv_dup hx hb dX9_repeatDay_1 rfl ?_
  refine va_get (D := D) (ci := 8) (v := .int v_rights) (C := RX9) (T := TX9) (N := 10) hx hb hts inTX9 hown hK.1 hP 0 rfl rfl 9 (by decide) (hts _ t1_101) (fun _ h9 => h9) rfl dX9_repeatDay_2 ?_
  refine lv_iconst (v := 1) hx hb dX9_repeatDay_5 (by decide) ?_
  refine lv_iload_n hx hb dX9_repeatDay_6 rfl (lv_at hl 1 rfl) ?_
  refine lv_ishl hx hb dX9_repeatDay_7 ?_
  refine lv_iconst (v := (-1)) hx hb dX9_repeatDay_8 (by decide) ?_
  refine lv_ixor hx hb dX9_repeatDay_9 ?_
  refine lv_iand hx hb dX9_repeatDay_10 ?_
  refine va_put (D := D) (ci := 8) (v := .int (v_rights &&& (((1 : Int32) <<< (p0 &&& 31)) ^^^ (-1)))) (ty := .int) (C := RX9) (T := TX9) (N := 10) hx hb hts inTX9 tyX9 tyX9_ok nmX9 hown hK.1 hP hD hS 0 rfl rfl 9 (by decide) (hts _ t1_101) (fun _ h9 => h9) rfl (tyX9_ok 9 (by decide)) rfl rfl (Nat.le_of_ble_eq_true rfl) dX9_repeatDay_11 (fun H locs hP hD hS => ?_)
  have hP : va_P D CL [(h_this, .inr (8, [x_people, .ref h_memories, x_purses, x_lives, .int (bz v_there), .int v_size, .int v_date, .int (bz v_evening), .int v_well, .int (v_rights &&& (((1 : Int32) <<< (p0 &&& 31)) ^^^ (-1)))])), (h_memories, .inl (cy 0, 3, .inl v_memories))] H := hP
  have hD : va_D A [(h_this, .inr (8, [x_people, .ref h_memories, x_purses, x_lives, .int (bz v_there), .int v_size, .int v_date, .int (bz v_evening), .int v_well, .int (v_rights &&& (((1 : Int32) <<< (p0 &&& 31)) ^^^ (-1)))])), (h_memories, .inl (cy 0, 3, .inl v_memories))] := hD
  refine lv_aload_n hx hb dX9_repeatDay_14 rfl (lv_at hl 0 rfl) ?_
  refine va_get (D := D) (ci := 8) (v := .ref h_memories) (C := RX9) (T := TX9) (N := 10) hx hb hts inTX9 hown hK.1 hP 0 rfl rfl 1 (by decide) (hts _ t1_84) (fun _ h9 => h9) rfl dX9_repeatDay_15 ?_
  refine lv_iload_n hx hb dX9_repeatDay_18 rfl (lv_at hl 1 rfl) ?_
  refine lv_dup2_11 hx hb dX9_repeatDay_19 rfl rfl ?_
  obtain ⟨hi1, hF⟩ := hF
  refine s_iald (j := (p0).toNatClampNeg) hx hb hK.1 hP 1 0 rfl rfl hi1 rfl dX9_repeatDay_20 ?_
  refine lv_iconst (v := 1) hx hb dX9_repeatDay_21 (by decide) ?_
  refine lv_iadd hx hb dX9_repeatDay_22 ?_
  obtain ⟨hi2, hF⟩ := hF
  refine s_iast (j := (p0).toNatClampNeg) hx hb hK.1 hP hD hS 1 0 rfl rfl hi2 rfl dX9_repeatDay_23 (fun H locs hP hD hS => ?_)
  have hP : va_P D CL [(h_this, .inr (8, [x_people, .ref h_memories, x_purses, x_lives, .int (bz v_there), .int v_size, .int v_date, .int (bz v_evening), .int v_well, .int (v_rights &&& (((1 : Int32) <<< (p0 &&& 31)) ^^^ (-1)))])), (h_memories, .inl (cy 0, 3, .inl (upd v_memories ((p0).toNatClampNeg) ((v_memories ((p0).toNatClampNeg)) + 1))))] H := hP
  have hD : va_D A [(h_this, .inr (8, [x_people, .ref h_memories, x_purses, x_lives, .int (bz v_there), .int v_size, .int v_date, .int (bz v_evening), .int v_well, .int (v_rights &&& (((1 : Int32) <<< (p0 &&& 31)) ^^^ (-1)))])), (h_memories, .inl (cy 0, 3, .inl (upd v_memories ((p0).toNatClampNeg) ((v_memories ((p0).toNatClampNeg)) + 1))))] := hD
  refine lv_aload_n hx hb dX9_repeatDay_24 rfl (lv_at hl 0 rfl) ?_
  refine lv_iconst (v := 0) hx hb dX9_repeatDay_25 (by decide) ?_
  refine W.eq (g2 := F0 m 26 ls [.int (bz false), .ref h_this]) rfl ?_
  refine va_put (D := D) (ci := 8) (v := .int (bz false)) (ty := .boolean) (C := RX9) (T := TX9) (N := 10) hx hb hts inTX9 tyX9 tyX9_ok nmX9 hown hK.1 hP hD hS 0 rfl rfl 7 (by decide) (hts _ t1_97) (fun _ h9 => h9) rfl (tyX9_ok 7 (by decide)) (nr_bz _) (ft_bz _) (Nat.le_of_ble_eq_true rfl) dX9_repeatDay_26 (fun H locs hP hD hS => ?_)
  have hP : va_P D CL [(h_this, .inr (8, [x_people, .ref h_memories, x_purses, x_lives, .int (bz v_there), .int v_size, .int v_date, .int (bz false), .int v_well, .int (v_rights &&& (((1 : Int32) <<< (p0 &&& 31)) ^^^ (-1)))])), (h_memories, .inl (cy 0, 3, .inl (upd v_memories ((p0).toNatClampNeg) ((v_memories ((p0).toNatClampNeg)) + 1))))] H := hP
  have hD : va_D A [(h_this, .inr (8, [x_people, .ref h_memories, x_purses, x_lives, .int (bz v_there), .int v_size, .int v_date, .int (bz false), .int v_well, .int (v_rights &&& (((1 : Int32) <<< (p0 &&& 31)) ^^^ (-1)))])), (h_memories, .inl (cy 0, 3, .inl (upd v_memories ((p0).toNatClampNeg) ((v_memories ((p0).toNatClampNeg)) + 1))))] := hD
  refine lv_aload_n hx hb dX9_repeatDay_29 rfl (lv_at hl 0 rfl) ?_
  refine lv_iconst (v := 0) hx hb dX9_repeatDay_30 (by decide) ?_
  refine va_put (D := D) (ci := 8) (v := .int 0) (ty := .int) (C := RX9) (T := TX9) (N := 10) hx hb hts inTX9 tyX9 tyX9_ok nmX9 hown hK.1 hP hD hS 0 rfl rfl 8 (by decide) (hts _ t1_99) (fun _ h9 => h9) rfl (tyX9_ok 8 (by decide)) rfl rfl (Nat.le_of_ble_eq_true rfl) dX9_repeatDay_31 (fun H locs hP hD hS => ?_)
  have hP : va_P D CL [(h_this, .inr (8, [x_people, .ref h_memories, x_purses, x_lives, .int (bz v_there), .int v_size, .int v_date, .int (bz false), .int 0, .int (v_rights &&& (((1 : Int32) <<< (p0 &&& 31)) ^^^ (-1)))])), (h_memories, .inl (cy 0, 3, .inl (upd v_memories ((p0).toNatClampNeg) ((v_memories ((p0).toNatClampNeg)) + 1))))] H := hP
  have hD : va_D A [(h_this, .inr (8, [x_people, .ref h_memories, x_purses, x_lives, .int (bz v_there), .int v_size, .int v_date, .int (bz false), .int 0, .int (v_rights &&& (((1 : Int32) <<< (p0 &&& 31)) ^^^ (-1)))])), (h_memories, .inl (cy 0, 3, .inl (upd v_memories ((p0).toNatClampNeg) ((v_memories ((p0).toNatClampNeg)) + 1))))] := hD
  exact rt_v C hQ rfl hP hD hS ⟨false, 0, (v_rights &&& (((1 : Int32) <<< (p0 &&& 31)) ^^^ (-1))), (upd v_memories ((p0).toNatClampNeg) ((v_memories ((p0).toNatClampNeg)) + 1)), rfl, hF⟩ dX9_repeatDay_34

def wjX9_closeDay_51 (v_size : Int32) (v_people : Nat → Option Nat) (pe : Pe) (post : Unit → Bool → Int32 → (Nat → Int32) → (Nat → Int32) → Prop) (K_2 : Int32 → Bool → Int32 → (Nat → Int32) → (Nat → Int32) → Prop) (l1 : Int32) (w_evening : Bool) (w_well : Int32) (w_memories : Nat → Int32) (w_purses : Nat → Int32) : Prop := K_2 (l1 + 1) w_evening w_well w_memories w_purses
def wjX9_closeDay_46 (v_size : Int32) (v_people : Nat → Option Nat) (pe : Pe) (post : Unit → Bool → Int32 → (Nat → Int32) → (Nat → Int32) → Prop) (K_2 : Int32 → Bool → Int32 → (Nat → Int32) → (Nat → Int32) → Prop) (l1 : Int32) (k0 : Bool) (k1 : Nat) (k2 : Int32) (k3 : Int32) (w_evening : Bool) (w_well : Int32) (w_memories : Nat → Int32) (w_purses : Nat → Int32) : Prop := wv_bringsBy k0 (pe.2 k1) (fun r1 => vp_in k3 3 ∧ (wjX9_closeDay_51 v_size v_people pe post K_2 l1 w_evening w_well w_memories (upd w_purses ((k3).toNatClampNeg) (k2 + r1))))
def wlX9_closeDay_2 (v_size : Int32) (v_people : Nat → Option Nat) (pe : Pe) (post : Unit → Bool → Int32 → (Nat → Int32) → (Nat → Int32) → Prop) : Nat → Int32 → Bool → Int32 → (Nat → Int32) → (Nat → Int32) → Prop
  | 0, _, _, _, _, _ => False
  | n + 1, l1, w_evening, w_well, w_memories, w_purses => (v_size ≤ l1 → (wp_fillI 3 0 w_memories (fun _ u2_memories => post () false 0 u2_memories w_purses))) ∧ (¬ v_size ≤ l1 → (vp_in l1 3 ∧ (((v_people ((l1).toNatClampNeg)) = none → (wjX9_closeDay_51 v_size v_people pe post (wlX9_closeDay_2 v_size v_people pe post n) l1 w_evening w_well w_memories w_purses)) ∧ (∀ a4 : Nat, (v_people ((l1).toNatClampNeg)) = some a4 → a4 ∈ pe.1 ∧ (vp_in l1 3 ∧ ((¬ ((w_well >>> (l1 &&& 31)) &&& 1) = 1 → (wjX9_closeDay_46 v_size v_people pe post (wlX9_closeDay_2 v_size v_people pe post n) l1 false a4 (w_purses ((l1).toNatClampNeg)) l1 w_evening w_well w_memories w_purses)) ∧ (((w_well >>> (l1 &&& 31)) &&& 1) = 1 → (wjX9_closeDay_46 v_size v_people pe post (wlX9_closeDay_2 v_size v_people pe post n) l1 true a4 (w_purses ((l1).toNatClampNeg)) l1 w_evening w_well w_memories w_purses))))))))
def wpX9_closeDay (v_size : Int32) (v_evening : Bool) (v_well : Int32) (v_memories : Nat → Int32) (v_people : Nat → Option Nat) (v_purses : Nat → Int32) (pe : Pe) (post : Unit → Bool → Int32 → (Nat → Int32) → (Nat → Int32) → Prop) : Prop := wlX9_closeDay_2 v_size v_people pe post fu 0 v_evening v_well v_memories v_purses
abbrev miX9_closeDay : MI := (yX9_closeDay, cX9_closeDay, 3, none)
theorem mfX9_closeDay : MF miX9_closeDay 0 := ⟨t3_19, t1_5, by decide +kernel⟩
abbrev rmX9_closeDay : Room := { frames := 2, cells := 0, slots := 0, locals := 42 }
set_option maxHeartbeats 4000000 in
set_option maxRecDepth 100000 in
theorem ccX9_closeDay (l : Launch) (D : va_G) (cy : Nat → ClassId) (pe : Pe) (h_this : Nat) (h_memories : Nat) (h_people : Nat) (h_purses : Nat) (x_lives : Value) (v_there : Bool) (v_size : Int32) (v_date : Int32) (v_evening : Bool) (v_well : Int32) (v_rights : Int32) (v_memories : Nat → Int32) (v_people : Nat → Option Nat) (v_purses : Nat → Int32) (post : Unit → Bool → Int32 → (Nat → Int32) → (Nat → Int32) → Prop) (hF : wpX9_closeDay v_size v_evening v_well v_memories v_people v_purses pe post) : Ct l D cy miX9_closeDay rmX9_closeDay emV pe [.ref h_this] [(h_this, .inr (8, [.ref h_people, .ref h_memories, .ref h_purses, x_lives, .int (bz v_there), .int v_size, .int v_date, .int (bz v_evening), .int v_well, .int v_rights])), (h_memories, .inl (cy 0, 3, .inl v_memories)), (h_people, .inl (cy 3, 3, .inr (.inr (.inr (.inr v_people))))), (h_purses, .inl (cy 0, 3, .inl v_purses))] (fun r w1 => ∃ (w_evening : Bool) (w_well : Int32) (w_memories : Nat → Int32) (w_purses : Nat → Int32), w1 = [(h_this, .inr (8, [.ref h_people, .ref h_memories, .ref h_purses, x_lives, .int (bz v_there), .int v_size, .int v_date, .int (bz w_evening), .int w_well, .int v_rights])), (h_memories, .inl (cy 0, 3, .inl w_memories)), (h_people, .inl (cy 3, 3, .inr (.inr (.inr (.inr v_people))))), (h_purses, .inl (cy 0, 3, .inl w_purses))] ∧ post r w_evening w_well w_memories w_purses) := by
  refine Ct.of (by decide) (Nat.le_of_ble_eq_true rfl) ?_
  intro p e s m args below meth c A ls Q C hQ hA hI hP hD hS hl
  obtain ⟨hx, hb, hr, hml, hown, hts, hK, hlk, hnm⟩ := id C
  have hb : c.code = cX9_closeDay := hb
  have hml : c.maxLocals = 3 := hml
  have hown : s.vm.findClass RX9 = some m.cls := hown
  have hl : lv_has ls 3 [(0, .ref h_this)] := hl
  have L_2 : ∀ (n_2 : Nat) (l1 : Int32) (w_evening : Bool) (w_well : Int32) (w_memories : Nat → Int32) (w_purses : Nat → Int32) (H : Heap) (locs : List Loc) (ls : Array Slot), va_P D CL [(h_this, .inr (8, [.ref h_people, .ref h_memories, .ref h_purses, x_lives, .int (bz v_there), .int v_size, .int v_date, .int (bz w_evening), .int w_well, .int v_rights])), (h_memories, .inl (cy 0, 3, .inl w_memories)), (h_people, .inl (cy 3, 3, .inr (.inr (.inr (.inr v_people))))), (h_purses, .inl (cy 0, 3, .inl w_purses))] H → va_D A [(h_this, .inr (8, [.ref h_people, .ref h_memories, .ref h_purses, x_lives, .int (bz v_there), .int v_size, .int v_date, .int (bz w_evening), .int w_well, .int v_rights])), (h_memories, .inl (cy 0, 3, .inl w_memories)), (h_people, .inl (cy 3, 3, .inr (.inr (.inr (.inr v_people))))), (h_purses, .inl (cy 0, 3, .inl w_purses))] → va_S A s.heap H locs → lv_has ls 3 [(0, .ref h_this), (1, .int l1)] → wlX9_closeDay_2 v_size v_people pe post n_2 l1 w_evening w_well w_memories w_purses → W p l e rmX9_closeDay s m args below meth c H locs 0 0 Q (F0 m 2 ls []) := by
    intro n_2
    induction n_2 with
    | zero =>
      intro l1 w_evening w_well w_memories w_purses H locs ls  hP hD hS hl hF
      simp only [wlX9_closeDay_2] at hF
    | succ n_2 ih_2 =>
      have J_51 : ∀ (l1 : Int32) (w_evening : Bool) (w_well : Int32) (w_memories : Nat → Int32) (w_purses : Nat → Int32) (H : Heap) (locs : List Loc) (ls : Array Slot), va_P D CL [(h_this, .inr (8, [.ref h_people, .ref h_memories, .ref h_purses, x_lives, .int (bz v_there), .int v_size, .int v_date, .int (bz w_evening), .int w_well, .int v_rights])), (h_memories, .inl (cy 0, 3, .inl w_memories)), (h_people, .inl (cy 3, 3, .inr (.inr (.inr (.inr v_people))))), (h_purses, .inl (cy 0, 3, .inl w_purses))] H → va_D A [(h_this, .inr (8, [.ref h_people, .ref h_memories, .ref h_purses, x_lives, .int (bz v_there), .int v_size, .int v_date, .int (bz w_evening), .int w_well, .int v_rights])), (h_memories, .inl (cy 0, 3, .inl w_memories)), (h_people, .inl (cy 3, 3, .inr (.inr (.inr (.inr v_people))))), (h_purses, .inl (cy 0, 3, .inl w_purses))] → va_S A s.heap H locs → lv_has ls 3 [(0, .ref h_this), (1, .int l1)] → wjX9_closeDay_51 v_size v_people pe post (wlX9_closeDay_2 v_size v_people pe post n_2) l1 w_evening w_well w_memories w_purses → W p l e rmX9_closeDay s m args below meth c H locs 0 0 Q (F0 m 51 ls []) := by
        intro l1 w_evening w_well w_memories w_purses H locs ls  hP hD hS hl hF
        unfold wjX9_closeDay_51 at hF
        refine lv_iinc (v := (l1 + 1)) (lv' := [(1, .int (l1 + 1)), (0, .ref h_this)]) hx hb dX9_closeDay_51 hl (k := 1) rfl rfl (by decide) rfl (fun ls hl => ?_)
        refine lv_goto (tgt := 2) hx hb dX9_closeDay_54 (by decide) ?_
        exact ih_2 (l1 + 1) w_evening w_well w_memories w_purses _ _ ls  hP hD hS (lv_sub hl [1, 0] rfl) hF
      have J_46 : ∀ (l1 : Int32) (k0 : Bool) (k1 : Nat) (k2 : Int32) (k3 : Int32) (w_evening : Bool) (w_well : Int32) (w_memories : Nat → Int32) (w_purses : Nat → Int32) (H : Heap) (locs : List Loc) (ls : Array Slot), k1 ∈ pe.1 → va_P D CL [(h_this, .inr (8, [.ref h_people, .ref h_memories, .ref h_purses, x_lives, .int (bz v_there), .int v_size, .int v_date, .int (bz w_evening), .int w_well, .int v_rights])), (h_memories, .inl (cy 0, 3, .inl w_memories)), (h_people, .inl (cy 3, 3, .inr (.inr (.inr (.inr v_people))))), (h_purses, .inl (cy 0, 3, .inl w_purses))] H → va_D A [(h_this, .inr (8, [.ref h_people, .ref h_memories, .ref h_purses, x_lives, .int (bz v_there), .int v_size, .int v_date, .int (bz w_evening), .int w_well, .int v_rights])), (h_memories, .inl (cy 0, 3, .inl w_memories)), (h_people, .inl (cy 3, 3, .inr (.inr (.inr (.inr v_people))))), (h_purses, .inl (cy 0, 3, .inl w_purses))] → va_S A s.heap H locs → lv_has ls 3 [(0, .ref h_this), (1, .int l1)] → wjX9_closeDay_46 v_size v_people pe post (wlX9_closeDay_2 v_size v_people pe post n_2) l1 k0 k1 k2 k3 w_evening w_well w_memories w_purses → W p l e rmX9_closeDay s m args below meth c H locs 0 0 Q (F0 m 46 ls [.int (bz k0), .ref k1, .int k2, .int k3, .ref h_purses]) := by
        intro l1 k0 k1 k2 k3 w_evening w_well w_memories w_purses H locs ls ha_k1 hP hD hS hl hF
        unfold wjX9_closeDay_46 at hF
        refine pv_bringsBy C (hI.at hS) ha_k1 t3_20 hl.1 (Nat.le_of_ble_eq_true rfl) dX9_closeDay_46 ⟨Nat.le_of_ble_eq_true rfl, Nat.le_of_ble_eq_true rfl⟩ ⟨Nat.le_of_ble_eq_true rfl, Nat.le_of_ble_eq_true rfl⟩ hF rfl ?_
        intro r1 hF
        refine W.eq (g2 := F0 m 49 ls [.int r1, .int k2, .int k3, .ref h_purses]) rfl ?_
        refine lv_iadd hx hb dX9_closeDay_49 ?_
        obtain ⟨hi2, hF⟩ := hF
        refine s_iast (j := (k3).toNatClampNeg) hx hb hK.1 hP hD hS 3 0 rfl rfl hi2 rfl dX9_closeDay_50 (fun H locs hP hD hS => ?_)
        have hP : va_P D CL [(h_this, .inr (8, [.ref h_people, .ref h_memories, .ref h_purses, x_lives, .int (bz v_there), .int v_size, .int v_date, .int (bz w_evening), .int w_well, .int v_rights])), (h_memories, .inl (cy 0, 3, .inl w_memories)), (h_people, .inl (cy 3, 3, .inr (.inr (.inr (.inr v_people))))), (h_purses, .inl (cy 0, 3, .inl (upd w_purses ((k3).toNatClampNeg) (k2 + r1))))] H := hP
        have hD : va_D A [(h_this, .inr (8, [.ref h_people, .ref h_memories, .ref h_purses, x_lives, .int (bz v_there), .int v_size, .int v_date, .int (bz w_evening), .int w_well, .int v_rights])), (h_memories, .inl (cy 0, 3, .inl w_memories)), (h_people, .inl (cy 3, 3, .inr (.inr (.inr (.inr v_people))))), (h_purses, .inl (cy 0, 3, .inl (upd w_purses ((k3).toNatClampNeg) (k2 + r1))))] := hD
        exact J_51 l1 w_evening w_well w_memories (upd w_purses ((k3).toNatClampNeg) (k2 + r1)) _ _ ls  hP hD hS (lv_sub hl [0, 1] rfl) hF
      intro l1 w_evening w_well w_memories w_purses H locs ls  hP hD hS hl hF
      unfold wlX9_closeDay_2 at hF
      refine lv_iload_n hx hb dX9_closeDay_2 rfl (lv_at hl 1 rfl) ?_
      refine lv_aload_n hx hb dX9_closeDay_3 rfl (lv_at hl 0 rfl) ?_
      refine va_get (D := D) (ci := 8) (v := .int v_size) (C := RX9) (T := TX9) (N := 10) hx hb hts inTX9 hown hK.1 hP 0 rfl rfl 5 (by decide) (hts _ t1_92) (fun _ h9 => h9) rfl dX9_closeDay_4 ?_
      refine lv_icmp_ge (tgt := 57) hx hb dX9_closeDay_7 (by decide) (fun c_ => ?_) (fun c_ => ?_)
      · have hF := hF.1 c_
        refine lv_aload_n hx hb dX9_closeDay_57 rfl (lv_at hl 0 rfl) ?_
        refine va_get (D := D) (ci := 8) (v := .ref h_memories) (C := RX9) (T := TX9) (N := 10) hx hb hts inTX9 hown hK.1 hP 0 rfl rfl 1 (by decide) (hts _ t1_84) (fun _ h9 => h9) rfl dX9_closeDay_58 ?_
        refine lv_iconst (v := 0) hx hb dX9_closeDay_61 (by decide) ?_
        refine cS_t (As := [.ref h_memories, .int 0]) (wr := [(h_this, .inr (8, [.ref h_people, .ref h_memories, .ref h_purses, x_lives, .int (bz v_there), .int v_size, .int v_date, .int (bz w_evening), .int w_well, .int v_rights])), (h_people, .inl (cy 3, 3, .inr (.inr (.inr (.inr v_people))))), (h_purses, .inl (cy 0, 3, .inl w_purses))]) C hA hP hD hS mfJ7_fill_53178 t1_35 t2_155 (c_fillI l D cy 3 (by decide) h_memories w_memories 0 _ hF) [1] [0, 2, 3] rfl rfl (by decide) (by decide) (by decide) PO.np rfl hl.1 rfl (Nat.le_of_ble_eq_true rfl) dX9_closeDay_62 ⟨Nat.le_of_ble_eq_true rfl, Nat.le_of_ble_eq_true rfl⟩ ⟨Nat.le_of_ble_eq_true rfl, Nat.le_of_ble_eq_true rfl⟩ ?_
        rintro ⟨⟩ w1 H locs ⟨u2_memories, rfl, hF⟩ hP hD hS
        have hP : va_P D CL [(h_this, .inr (8, [.ref h_people, .ref h_memories, .ref h_purses, x_lives, .int (bz v_there), .int v_size, .int v_date, .int (bz w_evening), .int w_well, .int v_rights])), (h_people, .inl (cy 3, 3, .inr (.inr (.inr (.inr v_people))))), (h_purses, .inl (cy 0, 3, .inl w_purses)), (h_memories, .inl (cy 0, 3, .inl u2_memories))] H := hP
        have hD : va_D A [(h_this, .inr (8, [.ref h_people, .ref h_memories, .ref h_purses, x_lives, .int (bz v_there), .int v_size, .int v_date, .int (bz w_evening), .int w_well, .int v_rights])), (h_people, .inl (cy 3, 3, .inr (.inr (.inr (.inr v_people))))), (h_purses, .inl (cy 0, 3, .inl w_purses)), (h_memories, .inl (cy 0, 3, .inl u2_memories))] := hD
        refine W.eq (g2 := F0 m 65 ls []) rfl ?_
        refine lv_aload_n hx hb dX9_closeDay_65 rfl (lv_at hl 0 rfl) ?_
        refine lv_iconst (v := 0) hx hb dX9_closeDay_66 (by decide) ?_
        refine W.eq (g2 := F0 m 67 ls [.int (bz false), .ref h_this]) rfl ?_
        refine va_put (D := D) (ci := 8) (v := .int (bz false)) (ty := .boolean) (C := RX9) (T := TX9) (N := 10) hx hb hts inTX9 tyX9 tyX9_ok nmX9 hown hK.1 hP hD hS 0 rfl rfl 7 (by decide) (hts _ t1_97) (fun _ h9 => h9) rfl (tyX9_ok 7 (by decide)) (nr_bz _) (ft_bz _) (Nat.le_of_ble_eq_true rfl) dX9_closeDay_67 (fun H locs hP hD hS => ?_)
        have hP : va_P D CL [(h_this, .inr (8, [.ref h_people, .ref h_memories, .ref h_purses, x_lives, .int (bz v_there), .int v_size, .int v_date, .int (bz false), .int w_well, .int v_rights])), (h_people, .inl (cy 3, 3, .inr (.inr (.inr (.inr v_people))))), (h_purses, .inl (cy 0, 3, .inl w_purses)), (h_memories, .inl (cy 0, 3, .inl u2_memories))] H := hP
        have hD : va_D A [(h_this, .inr (8, [.ref h_people, .ref h_memories, .ref h_purses, x_lives, .int (bz v_there), .int v_size, .int v_date, .int (bz false), .int w_well, .int v_rights])), (h_people, .inl (cy 3, 3, .inr (.inr (.inr (.inr v_people))))), (h_purses, .inl (cy 0, 3, .inl w_purses)), (h_memories, .inl (cy 0, 3, .inl u2_memories))] := hD
        refine lv_aload_n hx hb dX9_closeDay_70 rfl (lv_at hl 0 rfl) ?_
        refine lv_iconst (v := 0) hx hb dX9_closeDay_71 (by decide) ?_
        refine va_put (D := D) (ci := 8) (v := .int 0) (ty := .int) (C := RX9) (T := TX9) (N := 10) hx hb hts inTX9 tyX9 tyX9_ok nmX9 hown hK.1 hP hD hS 0 rfl rfl 8 (by decide) (hts _ t1_99) (fun _ h9 => h9) rfl (tyX9_ok 8 (by decide)) rfl rfl (Nat.le_of_ble_eq_true rfl) dX9_closeDay_72 (fun H locs hP hD hS => ?_)
        have hP : va_P D CL [(h_this, .inr (8, [.ref h_people, .ref h_memories, .ref h_purses, x_lives, .int (bz v_there), .int v_size, .int v_date, .int (bz false), .int 0, .int v_rights])), (h_people, .inl (cy 3, 3, .inr (.inr (.inr (.inr v_people))))), (h_purses, .inl (cy 0, 3, .inl w_purses)), (h_memories, .inl (cy 0, 3, .inl u2_memories))] H := hP
        have hD : va_D A [(h_this, .inr (8, [.ref h_people, .ref h_memories, .ref h_purses, x_lives, .int (bz v_there), .int v_size, .int v_date, .int (bz false), .int 0, .int v_rights])), (h_people, .inl (cy 3, 3, .inr (.inr (.inr (.inr v_people))))), (h_purses, .inl (cy 0, 3, .inl w_purses)), (h_memories, .inl (cy 0, 3, .inl u2_memories))] := hD
        have hP : va_P D CL [(h_this, .inr (8, [.ref h_people, .ref h_memories, .ref h_purses, x_lives, .int (bz v_there), .int v_size, .int v_date, .int (bz false), .int 0, .int v_rights])), (h_memories, .inl (cy 0, 3, .inl u2_memories)), (h_people, .inl (cy 3, 3, .inr (.inr (.inr (.inr v_people))))), (h_purses, .inl (cy 0, 3, .inl w_purses))] H := (hP.sub [0, 3, 1, 2] rfl)
        have hD : va_D A [(h_this, .inr (8, [.ref h_people, .ref h_memories, .ref h_purses, x_lives, .int (bz v_there), .int v_size, .int v_date, .int (bz false), .int 0, .int v_rights])), (h_memories, .inl (cy 0, 3, .inl u2_memories)), (h_people, .inl (cy 3, 3, .inr (.inr (.inr (.inr v_people))))), (h_purses, .inl (cy 0, 3, .inl w_purses))] := (hD.sub [0, 3, 1, 2] (by decide) rfl)
        exact rt_v C hQ rfl hP hD hS ⟨false, 0, u2_memories, w_purses, rfl, hF⟩ dX9_closeDay_75
      · have hF := hF.2 c_
        refine lv_aload_n hx hb dX9_closeDay_10 rfl (lv_at hl 0 rfl) ?_
        refine va_get (D := D) (ci := 8) (v := .ref h_people) (C := RX9) (T := TX9) (N := 10) hx hb hts inTX9 hown hK.1 hP 0 rfl rfl 0 (by decide) (hts _ t1_83) (fun _ h9 => h9) rfl dX9_closeDay_11 ?_
        refine lv_iload_n hx hb dX9_closeDay_14 rfl (lv_at hl 1 rfl) ?_
        obtain ⟨hi3, hF⟩ := hF
        refine s_aldq (j := (l1).toNatClampNeg) hx hb hK.1 hP 2 3 rfl rfl hi3 rfl dX9_closeDay_15 (fun hq => ?_) (fun a4 hq => ?_)
        · have hF := hF.1 hq
          refine lv_astore_nN (lv' := [(2, .null), (0, .ref h_this), (1, .int l1)]) hx hb dX9_closeDay_16 rfl hl (by decide) rfl (fun ls hl => ?_)
          refine lv_aload_nN hx hb dX9_closeDay_17 rfl (lv_at hl 0 rfl) ?_
          refine lv_ifnullN (tgt := 51) hx hb dX9_closeDay_18 (by decide) ?_
          exact J_51 l1 w_evening w_well w_memories w_purses _ _ ls  hP hD hS (lv_sub hl [1, 2] rfl) hF
        · obtain ⟨ha_a4, hF⟩ := hF.2 a4 hq
          refine lv_astore_n (lv' := [(2, .ref a4), (0, .ref h_this), (1, .int l1)]) hx hb dX9_closeDay_16 rfl hl (by decide) rfl (fun ls hl => ?_)
          refine lv_aload_n hx hb dX9_closeDay_17 rfl (lv_at hl 0 rfl) ?_
          refine lv_ifnull hx hb dX9_closeDay_18 ?_
          refine lv_aload_n hx hb dX9_closeDay_21 rfl (lv_at hl 1 rfl) ?_
          refine va_get (D := D) (ci := 8) (v := .ref h_purses) (C := RX9) (T := TX9) (N := 10) hx hb hts inTX9 hown hK.1 hP 0 rfl rfl 2 (by decide) (hts _ t1_86) (fun _ h9 => h9) rfl dX9_closeDay_22 ?_
          refine lv_iload_n hx hb dX9_closeDay_25 rfl (lv_at hl 2 rfl) ?_
          refine lv_dup2_11 hx hb dX9_closeDay_26 rfl rfl ?_
          obtain ⟨hi5, hF⟩ := hF
          refine s_iald (j := (l1).toNatClampNeg) hx hb hK.1 hP 3 0 rfl rfl hi5 rfl dX9_closeDay_27 ?_
          refine lv_aload_n hx hb dX9_closeDay_28 rfl (lv_at hl 0 rfl) ?_
          refine lv_aload_n hx hb dX9_closeDay_29 rfl (lv_at hl 1 rfl) ?_
          refine va_get (D := D) (ci := 8) (v := .int w_well) (C := RX9) (T := TX9) (N := 10) hx hb hts inTX9 hown hK.1 hP 0 rfl rfl 8 (by decide) (hts _ t1_99) (fun _ h9 => h9) rfl dX9_closeDay_30 ?_
          refine lv_iload_n hx hb dX9_closeDay_33 rfl (lv_at hl 2 rfl) ?_
          refine lv_ishr hx hb dX9_closeDay_34 ?_
          refine lv_iconst (v := 1) hx hb dX9_closeDay_35 (by decide) ?_
          refine lv_iand hx hb dX9_closeDay_36 ?_
          refine lv_iconst (v := 1) hx hb dX9_closeDay_37 (by decide) ?_
          refine lv_icmp_ne (tgt := 45) hx hb dX9_closeDay_38 (by decide) (fun c_ => ?_) (fun c_ => ?_)
          · have hF := hF.1 c_
            refine lv_iconst (v := 0) hx hb dX9_closeDay_45 (by decide) ?_
            exact J_46 l1 false a4 (w_purses ((l1).toNatClampNeg)) l1 w_evening w_well w_memories w_purses _ _ ls ha_a4 hP hD hS (lv_sub hl [1, 2] rfl) hF
          · have hF := hF.2 c_
            refine lv_iconst (v := 1) hx hb dX9_closeDay_41 (by decide) ?_
            refine lv_goto (tgt := 46) hx hb dX9_closeDay_42 (by decide) ?_
            exact J_46 l1 true a4 (w_purses ((l1).toNatClampNeg)) l1 w_evening w_well w_memories w_purses _ _ ls ha_a4 hP hD hS (lv_sub hl [1, 2] rfl) hF
  unfold wpX9_closeDay at hF
  refine lv_iconst (v := 0) hx hb dX9_closeDay_0 (by decide) ?_
  refine lv_istore_n (lv' := [(1, .int 0), (0, .ref h_this)]) hx hb dX9_closeDay_1 rfl hl (by decide) rfl (fun ls hl => ?_)
  exact L_2 fu 0 v_evening v_well v_memories v_purses _ _ ls  hP hD hS (lv_sub hl [1, 0] rfl) hF

def wjX9_passDates_78 (v_size : Int32) (v_a0 : Nat → Int32) (v_people : Nat → Option Nat) (pe : Pe) (post : Int32 → Bool → Int32 → Int32 → (Nat → Int32) → (Nat → Int32) → Prop) (K_10 : Int32 → Int64 → Int32 → Int32 → Bool → Int32 → Int32 → (Nat → Int32) → (Nat → Int32) → Prop) (l2 : Int32) (l4 : Int64) (l6 : Int32) (l7 : Int32) (w_evening : Bool) (w_well : Int32) (w_rights : Int32) (w_memories : Nat → Int32) (w_purses : Nat → Int32) : Prop := wpX9_closeDay v_size w_evening w_well w_memories v_people w_purses pe (fun _ u2_evening u3_well u4_memories u5_purses => K_10 l2 l4 l6 (l7 + 1) u2_evening u3_well w_rights u4_memories u5_purses)
def wjX9_passDates_43 (v_size : Int32) (v_a0 : Nat → Int32) (v_people : Nat → Option Nat) (pe : Pe) (post : Int32 → Bool → Int32 → Int32 → (Nat → Int32) → (Nat → Int32) → Prop) (K_10 : Int32 → Int64 → Int32 → Int32 → Bool → Int32 → Int32 → (Nat → Int32) → (Nat → Int32) → Prop) (K_19 : Int32 → Int64 → Int32 → Int32 → Int32 → Bool → Int32 → Int32 → (Nat → Int32) → (Nat → Int32) → Prop) (l2 : Int32) (l4 : Int64) (l6 : Int32) (l7 : Int32) (l8 : Int32) (w_evening : Bool) (w_well : Int32) (w_rights : Int32) (w_memories : Nat → Int32) (w_purses : Nat → Int32) : Prop := wpX9_firstToRepeat w_rights w_well v_size v_a0 v_people pe (fun r1 => (0 ≤ r1 → (wpX9_repeatDay r1 w_evening w_well w_rights w_memories (fun _ u3_evening u4_well u5_rights u6_memories => K_19 l2 l4 l6 l7 (l8 + 1) u3_evening u4_well u5_rights u6_memories w_purses))) ∧ (¬ 0 ≤ r1 → (wjX9_passDates_78 v_size v_a0 v_people pe post K_10 l2 l4 l6 l7 w_evening w_well w_rights w_memories w_purses)))
def wlX9_passDates_19 (v_size : Int32) (v_a0 : Nat → Int32) (v_people : Nat → Option Nat) (pe : Pe) (post : Int32 → Bool → Int32 → Int32 → (Nat → Int32) → (Nat → Int32) → Prop) (K_10 : Int32 → Int64 → Int32 → Int32 → Bool → Int32 → Int32 → (Nat → Int32) → (Nat → Int32) → Prop) : Nat → Int32 → Int64 → Int32 → Int32 → Int32 → Bool → Int32 → Int32 → (Nat → Int32) → (Nat → Int32) → Prop
  | 0, _, _, _, _, _, _, _, _, _, _ => False
  | n + 1, l2, l4, l6, l7, l8, w_evening, w_well, w_rights, w_memories, w_purses => (3 < l8 → (wjX9_passDates_78 v_size v_a0 v_people pe post K_10 l2 l4 l6 l7 w_evening w_well w_rights w_memories w_purses)) ∧ (¬ 3 < l8 → ((w_evening = true → (wjX9_passDates_43 v_size v_a0 v_people pe post K_10 (wlX9_passDates_19 v_size v_a0 v_people pe post K_10 n) l2 l4 l6 l7 l8 w_evening w_well w_rights w_memories w_purses)) ∧ (w_evening = false → (wpX9_passDay l4 v_size w_evening w_well v_people w_memories pe (fun r1 u2_evening u3_well => wjX9_passDates_43 v_size v_a0 v_people pe post K_10 (wlX9_passDates_19 v_size v_a0 v_people pe post K_10 n) l2 r1 (l6 + 1) l7 l8 u2_evening u3_well w_rights w_memories w_purses)))))
def wlX9_passDates_10 (v_size : Int32) (v_a0 : Nat → Int32) (v_people : Nat → Option Nat) (pe : Pe) (post : Int32 → Bool → Int32 → Int32 → (Nat → Int32) → (Nat → Int32) → Prop) : Nat → Int32 → Int64 → Int32 → Int32 → Bool → Int32 → Int32 → (Nat → Int32) → (Nat → Int32) → Prop
  | 0, _, _, _, _, _, _, _, _, _ => False
  | n + 1, l2, l4, l6, l7, w_evening, w_well, w_rights, w_memories, w_purses => (l2 ≤ l7 → (post l6 w_evening w_well w_rights w_memories w_purses)) ∧ (¬ l2 ≤ l7 → (wlX9_passDates_19 v_size v_a0 v_people pe post (wlX9_passDates_10 v_size v_a0 v_people pe post n) fu l2 l4 l6 l7 0 w_evening w_well w_rights w_memories w_purses))
def wpX9_passDates (p1 : Int32) (p2 : Int32) (v_size : Int32) (v_evening : Bool) (v_well : Int32) (v_rights : Int32) (v_a0 : Nat → Int32) (v_people : Nat → Option Nat) (v_memories : Nat → Int32) (v_purses : Nat → Int32) (pe : Pe) (post : Int32 → Bool → Int32 → Int32 → (Nat → Int32) → (Nat → Int32) → Prop) : Prop := wlX9_passDates_10 v_size v_a0 v_people pe post fu p1 ((p2).toInt64) 0 0 v_evening v_well v_rights v_memories v_purses
abbrev miX9_passDates : MI := (yX9_passDates, cX9_passDates, 10, (some .int))
theorem mfX9_passDates : MF miX9_passDates 3 := ⟨t3_225, t1_5, by decide +kernel⟩
abbrev rmX9_passDates : Room := { frames := 3, cells := 0, slots := 0, locals := 69 }
set_option maxHeartbeats 4000000 in
set_option maxRecDepth 100000 in
theorem ccX9_passDates (l : Launch) (D : va_G) (cy : Nat → ClassId) (pe : Pe) (h_this : Nat) (h_a0 : Nat) (h_people : Nat) (h_memories : Nat) (h_purses : Nat) (x_lives : Value) (v_there : Bool) (v_size : Int32) (v_date : Int32) (v_evening : Bool) (v_well : Int32) (v_rights : Int32) (v_a0 : Nat → Int32) (v_people : Nat → Option Nat) (v_memories : Nat → Int32) (v_purses : Nat → Int32) (p1 : Int32) (p2 : Int32) (post : Int32 → Bool → Int32 → Int32 → (Nat → Int32) → (Nat → Int32) → Prop) (hF : wpX9_passDates p1 p2 v_size v_evening v_well v_rights v_a0 v_people v_memories v_purses pe post) : Ct l D cy miX9_passDates rmX9_passDates emI pe [.ref h_this, .ref h_a0, .int p1, .int p2] [(h_this, .inr (8, [.ref h_people, .ref h_memories, .ref h_purses, x_lives, .int (bz v_there), .int v_size, .int v_date, .int (bz v_evening), .int v_well, .int v_rights])), (h_a0, .inl (cy 0, 3, .inl v_a0)), (h_people, .inl (cy 3, 3, .inr (.inr (.inr (.inr v_people))))), (h_memories, .inl (cy 0, 3, .inl v_memories)), (h_purses, .inl (cy 0, 3, .inl v_purses))] (fun r w1 => ∃ (w_evening : Bool) (w_well : Int32) (w_rights : Int32) (w_memories : Nat → Int32) (w_purses : Nat → Int32), w1 = [(h_this, .inr (8, [.ref h_people, .ref h_memories, .ref h_purses, x_lives, .int (bz v_there), .int v_size, .int v_date, .int (bz w_evening), .int w_well, .int w_rights])), (h_a0, .inl (cy 0, 3, .inl v_a0)), (h_people, .inl (cy 3, 3, .inr (.inr (.inr (.inr v_people))))), (h_memories, .inl (cy 0, 3, .inl w_memories)), (h_purses, .inl (cy 0, 3, .inl w_purses))] ∧ post r w_evening w_well w_rights w_memories w_purses) := by
  refine Ct.of (by decide) (Nat.le_of_ble_eq_true rfl) ?_
  intro p e s m args below meth c A ls Q C hQ hA hI hP hD hS hl
  obtain ⟨hx, hb, hr, hml, hown, hts, hK, hlk, hnm⟩ := id C
  have hb : c.code = cX9_passDates := hb
  have hml : c.maxLocals = 10 := hml
  have hown : s.vm.findClass RX9 = some m.cls := hown
  have hl : lv_has ls 10 [(0, .ref h_this), (1, .ref h_a0), (2, .int p1), (3, .int p2)] := hl
  have L_10 : ∀ (n_10 : Nat) (l2 : Int32) (l4 : Int64) (l6 : Int32) (l7 : Int32) (w_evening : Bool) (w_well : Int32) (w_rights : Int32) (w_memories : Nat → Int32) (w_purses : Nat → Int32) (H : Heap) (locs : List Loc) (ls : Array Slot), va_P D CL [(h_this, .inr (8, [.ref h_people, .ref h_memories, .ref h_purses, x_lives, .int (bz v_there), .int v_size, .int v_date, .int (bz w_evening), .int w_well, .int w_rights])), (h_a0, .inl (cy 0, 3, .inl v_a0)), (h_people, .inl (cy 3, 3, .inr (.inr (.inr (.inr v_people))))), (h_memories, .inl (cy 0, 3, .inl w_memories)), (h_purses, .inl (cy 0, 3, .inl w_purses))] H → va_D A [(h_this, .inr (8, [.ref h_people, .ref h_memories, .ref h_purses, x_lives, .int (bz v_there), .int v_size, .int v_date, .int (bz w_evening), .int w_well, .int w_rights])), (h_a0, .inl (cy 0, 3, .inl v_a0)), (h_people, .inl (cy 3, 3, .inr (.inr (.inr (.inr v_people))))), (h_memories, .inl (cy 0, 3, .inl w_memories)), (h_purses, .inl (cy 0, 3, .inl w_purses))] → va_S A s.heap H locs → lv_has ls 10 [(0, .ref h_this), (1, .ref h_a0), (2, .int l2), (4, .long l4), (6, .int l6), (7, .int l7)] → wlX9_passDates_10 v_size v_a0 v_people pe post n_10 l2 l4 l6 l7 w_evening w_well w_rights w_memories w_purses → W p l e rmX9_passDates s m args below meth c H locs 0 0 Q (F0 m 10 ls []) := by
    intro n_10
    induction n_10 with
    | zero =>
      intro l2 l4 l6 l7 w_evening w_well w_rights w_memories w_purses H locs ls  hP hD hS hl hF
      simp only [wlX9_passDates_10] at hF
    | succ n_10 ih_10 =>
      have J_78 : ∀ (l2 : Int32) (l4 : Int64) (l6 : Int32) (l7 : Int32) (w_evening : Bool) (w_well : Int32) (w_rights : Int32) (w_memories : Nat → Int32) (w_purses : Nat → Int32) (H : Heap) (locs : List Loc) (ls : Array Slot), va_P D CL [(h_this, .inr (8, [.ref h_people, .ref h_memories, .ref h_purses, x_lives, .int (bz v_there), .int v_size, .int v_date, .int (bz w_evening), .int w_well, .int w_rights])), (h_a0, .inl (cy 0, 3, .inl v_a0)), (h_people, .inl (cy 3, 3, .inr (.inr (.inr (.inr v_people))))), (h_memories, .inl (cy 0, 3, .inl w_memories)), (h_purses, .inl (cy 0, 3, .inl w_purses))] H → va_D A [(h_this, .inr (8, [.ref h_people, .ref h_memories, .ref h_purses, x_lives, .int (bz v_there), .int v_size, .int v_date, .int (bz w_evening), .int w_well, .int w_rights])), (h_a0, .inl (cy 0, 3, .inl v_a0)), (h_people, .inl (cy 3, 3, .inr (.inr (.inr (.inr v_people))))), (h_memories, .inl (cy 0, 3, .inl w_memories)), (h_purses, .inl (cy 0, 3, .inl w_purses))] → va_S A s.heap H locs → lv_has ls 10 [(0, .ref h_this), (1, .ref h_a0), (2, .int l2), (4, .long l4), (6, .int l6), (7, .int l7)] → wjX9_passDates_78 v_size v_a0 v_people pe post (wlX9_passDates_10 v_size v_a0 v_people pe post n_10) l2 l4 l6 l7 w_evening w_well w_rights w_memories w_purses → W p l e rmX9_passDates s m args below meth c H locs 0 0 Q (F0 m 78 ls []) := by
        intro l2 l4 l6 l7 w_evening w_well w_rights w_memories w_purses H locs ls  hP hD hS hl hF
        unfold wjX9_passDates_78 at hF
        refine lv_aload_n hx hb dX9_passDates_78 rfl (lv_at hl 0 rfl) ?_
        refine cV_t (As := []) (wr := [(h_a0, .inl (cy 0, 3, .inl v_a0))]) C hA hP hD hS mfX9_closeDay t3_17 t3_18 t3_229 (ccX9_closeDay l D cy pe h_this h_memories h_people h_purses x_lives v_there v_size v_date w_evening w_well w_rights w_memories v_people w_purses _ hF) [0, 3, 2, 4] [1] rfl rfl (by decide) (by decide) (by decide) (hI.po hS hD [0, 3, 2, 4] rfl) 0 8 rfl rfl rfl rfl hl.1 rfl (Nat.le_of_ble_eq_true rfl) dX9_passDates_79 ⟨Nat.le_of_ble_eq_true rfl, Nat.le_of_ble_eq_true rfl⟩ ⟨Nat.le_of_ble_eq_true rfl, Nat.le_of_ble_eq_true rfl⟩ ?_
        rintro ⟨⟩ w1 H locs ⟨u2_evening, u3_well, u4_memories, u5_purses, rfl, hF⟩ hP hD hS
        have hP : va_P D CL [(h_a0, .inl (cy 0, 3, .inl v_a0)), (h_this, .inr (8, [.ref h_people, .ref h_memories, .ref h_purses, x_lives, .int (bz v_there), .int v_size, .int v_date, .int (bz u2_evening), .int u3_well, .int w_rights])), (h_memories, .inl (cy 0, 3, .inl u4_memories)), (h_people, .inl (cy 3, 3, .inr (.inr (.inr (.inr v_people))))), (h_purses, .inl (cy 0, 3, .inl u5_purses))] H := hP
        have hD : va_D A [(h_a0, .inl (cy 0, 3, .inl v_a0)), (h_this, .inr (8, [.ref h_people, .ref h_memories, .ref h_purses, x_lives, .int (bz v_there), .int v_size, .int v_date, .int (bz u2_evening), .int u3_well, .int w_rights])), (h_memories, .inl (cy 0, 3, .inl u4_memories)), (h_people, .inl (cy 3, 3, .inr (.inr (.inr (.inr v_people))))), (h_purses, .inl (cy 0, 3, .inl u5_purses))] := hD
        refine W.eq (g2 := F0 m 82 ls []) rfl ?_
        refine lv_iinc (v := (l7 + 1)) (lv' := [(7, .int (l7 + 1)), (0, .ref h_this), (1, .ref h_a0), (2, .int l2), (4, .long l4), (6, .int l6)]) hx hb dX9_passDates_82 hl (k := 5) rfl rfl (by decide) rfl (fun ls hl => ?_)
        refine lv_goto (tgt := 10) hx hb dX9_passDates_85 (by decide) ?_
        exact ih_10 l2 l4 l6 (l7 + 1) u2_evening u3_well w_rights u4_memories u5_purses _ _ ls  (hP.sub [1, 0, 3, 2, 4] rfl) (hD.sub [1, 0, 3, 2, 4] (by decide) rfl) hS (lv_sub hl [1, 2, 3, 4, 5, 0] rfl) hF
      have L_19 : ∀ (n_19 : Nat) (l2 : Int32) (l4 : Int64) (l6 : Int32) (l7 : Int32) (l8 : Int32) (w_evening : Bool) (w_well : Int32) (w_rights : Int32) (w_memories : Nat → Int32) (w_purses : Nat → Int32) (H : Heap) (locs : List Loc) (ls : Array Slot), va_P D CL [(h_this, .inr (8, [.ref h_people, .ref h_memories, .ref h_purses, x_lives, .int (bz v_there), .int v_size, .int v_date, .int (bz w_evening), .int w_well, .int w_rights])), (h_a0, .inl (cy 0, 3, .inl v_a0)), (h_people, .inl (cy 3, 3, .inr (.inr (.inr (.inr v_people))))), (h_memories, .inl (cy 0, 3, .inl w_memories)), (h_purses, .inl (cy 0, 3, .inl w_purses))] H → va_D A [(h_this, .inr (8, [.ref h_people, .ref h_memories, .ref h_purses, x_lives, .int (bz v_there), .int v_size, .int v_date, .int (bz w_evening), .int w_well, .int w_rights])), (h_a0, .inl (cy 0, 3, .inl v_a0)), (h_people, .inl (cy 3, 3, .inr (.inr (.inr (.inr v_people))))), (h_memories, .inl (cy 0, 3, .inl w_memories)), (h_purses, .inl (cy 0, 3, .inl w_purses))] → va_S A s.heap H locs → lv_has ls 10 [(0, .ref h_this), (1, .ref h_a0), (2, .int l2), (4, .long l4), (6, .int l6), (7, .int l7), (8, .int l8)] → wlX9_passDates_19 v_size v_a0 v_people pe post (wlX9_passDates_10 v_size v_a0 v_people pe post n_10) n_19 l2 l4 l6 l7 l8 w_evening w_well w_rights w_memories w_purses → W p l e rmX9_passDates s m args below meth c H locs 0 0 Q (F0 m 19 ls []) := by
        intro n_19
        induction n_19 with
        | zero =>
          intro l2 l4 l6 l7 l8 w_evening w_well w_rights w_memories w_purses H locs ls  hP hD hS hl hF
          simp only [wlX9_passDates_19] at hF
        | succ n_19 ih_19 =>
          have J_43 : ∀ (l2 : Int32) (l4 : Int64) (l6 : Int32) (l7 : Int32) (l8 : Int32) (w_evening : Bool) (w_well : Int32) (w_rights : Int32) (w_memories : Nat → Int32) (w_purses : Nat → Int32) (H : Heap) (locs : List Loc) (ls : Array Slot), va_P D CL [(h_this, .inr (8, [.ref h_people, .ref h_memories, .ref h_purses, x_lives, .int (bz v_there), .int v_size, .int v_date, .int (bz w_evening), .int w_well, .int w_rights])), (h_a0, .inl (cy 0, 3, .inl v_a0)), (h_people, .inl (cy 3, 3, .inr (.inr (.inr (.inr v_people))))), (h_memories, .inl (cy 0, 3, .inl w_memories)), (h_purses, .inl (cy 0, 3, .inl w_purses))] H → va_D A [(h_this, .inr (8, [.ref h_people, .ref h_memories, .ref h_purses, x_lives, .int (bz v_there), .int v_size, .int v_date, .int (bz w_evening), .int w_well, .int w_rights])), (h_a0, .inl (cy 0, 3, .inl v_a0)), (h_people, .inl (cy 3, 3, .inr (.inr (.inr (.inr v_people))))), (h_memories, .inl (cy 0, 3, .inl w_memories)), (h_purses, .inl (cy 0, 3, .inl w_purses))] → va_S A s.heap H locs → lv_has ls 10 [(0, .ref h_this), (1, .ref h_a0), (2, .int l2), (4, .long l4), (6, .int l6), (7, .int l7), (8, .int l8)] → wjX9_passDates_43 v_size v_a0 v_people pe post (wlX9_passDates_10 v_size v_a0 v_people pe post n_10) (wlX9_passDates_19 v_size v_a0 v_people pe post (wlX9_passDates_10 v_size v_a0 v_people pe post n_10) n_19) l2 l4 l6 l7 l8 w_evening w_well w_rights w_memories w_purses → W p l e rmX9_passDates s m args below meth c H locs 0 0 Q (F0 m 43 ls []) := by
            intro l2 l4 l6 l7 l8 w_evening w_well w_rights w_memories w_purses H locs ls  hP hD hS hl hF
            unfold wjX9_passDates_43 at hF
            refine lv_aload_n hx hb dX9_passDates_43 rfl (lv_at hl 0 rfl) ?_
            refine lv_aload_n hx hb dX9_passDates_44 rfl (lv_at hl 1 rfl) ?_
            refine lv_aload_n hx hb dX9_passDates_45 rfl (lv_at hl 0 rfl) ?_
            refine va_get (D := D) (ci := 8) (v := .int w_rights) (C := RX9) (T := TX9) (N := 10) hx hb hts inTX9 hown hK.1 hP 0 rfl rfl 9 (by decide) (hts _ t1_101) (fun _ h9 => h9) rfl dX9_passDates_46 ?_
            refine lv_aload_n hx hb dX9_passDates_49 rfl (lv_at hl 0 rfl) ?_
            refine va_get (D := D) (ci := 8) (v := .int w_well) (C := RX9) (T := TX9) (N := 10) hx hb hts inTX9 hown hK.1 hP 0 rfl rfl 8 (by decide) (hts _ t1_99) (fun _ h9 => h9) rfl dX9_passDates_50 ?_
            refine cV_r (As := [.ref h_a0, .int w_rights, .int w_well]) C mfX9_firstToRepeat t3_112 t3_113 t3_227 (ccX9_firstToRepeat l D cy pe h_this h_a0 h_people (.ref h_memories) (.ref h_purses) x_lives v_there v_size v_date w_evening w_well w_rights v_a0 v_people w_rights w_well _ hF) rfl rfl (hP.sub [0, 1, 2] rfl) (hI.at hS) hP 0 8 rfl rfl rfl rfl hl.1 rfl (Nat.le_of_ble_eq_true rfl) dX9_passDates_53 ⟨Nat.le_of_ble_eq_true rfl, Nat.le_of_ble_eq_true rfl⟩ ⟨Nat.le_of_ble_eq_true rfl, Nat.le_of_ble_eq_true rfl⟩ ?_
            intro r1 hF
            refine W.eq (g2 := F0 m 56 ls [.int r1]) rfl ?_
            refine lv_istore (lv' := [(9, .int r1), (0, .ref h_this), (1, .ref h_a0), (2, .int l2), (4, .long l4), (6, .int l6), (7, .int l7), (8, .int l8)]) hx hb dX9_passDates_56 hl (by decide) rfl (fun ls hl => ?_)
            refine lv_iload hx hb dX9_passDates_58 (lv_at hl 0 rfl) ?_
            refine lv_if_ge (tgt := 66) hx hb dX9_passDates_60 (by decide) (fun c_ => ?_) (fun c_ => ?_)
            · have hF := hF.1 c_
              refine lv_aload_n hx hb dX9_passDates_66 rfl (lv_at hl 1 rfl) ?_
              refine lv_iload hx hb dX9_passDates_67 (lv_at hl 0 rfl) ?_
              refine cV_t (As := [.int r1]) (wr := [(h_a0, .inl (cy 0, 3, .inl v_a0)), (h_people, .inl (cy 3, 3, .inr (.inr (.inr (.inr v_people))))), (h_purses, .inl (cy 0, 3, .inl w_purses))]) C hA hP hD hS mfX9_repeatDay t3_9 t3_10 t3_228 (ccX9_repeatDay l D cy h_this h_memories (.ref h_people) (.ref h_purses) x_lives v_there v_size v_date w_evening w_well w_rights w_memories r1 _ hF) [0, 3] [1, 2, 4] rfl rfl (by decide) (by decide) (by decide) PO.np 0 8 rfl rfl rfl rfl hl.1 rfl (Nat.le_of_ble_eq_true rfl) dX9_passDates_69 ⟨Nat.le_of_ble_eq_true rfl, Nat.le_of_ble_eq_true rfl⟩ ⟨Nat.le_of_ble_eq_true rfl, Nat.le_of_ble_eq_true rfl⟩ ?_
              rintro ⟨⟩ w1 H locs ⟨u3_evening, u4_well, u5_rights, u6_memories, rfl, hF⟩ hP hD hS
              have hP : va_P D CL [(h_a0, .inl (cy 0, 3, .inl v_a0)), (h_people, .inl (cy 3, 3, .inr (.inr (.inr (.inr v_people))))), (h_purses, .inl (cy 0, 3, .inl w_purses)), (h_this, .inr (8, [.ref h_people, .ref h_memories, .ref h_purses, x_lives, .int (bz v_there), .int v_size, .int v_date, .int (bz u3_evening), .int u4_well, .int u5_rights])), (h_memories, .inl (cy 0, 3, .inl u6_memories))] H := hP
              have hD : va_D A [(h_a0, .inl (cy 0, 3, .inl v_a0)), (h_people, .inl (cy 3, 3, .inr (.inr (.inr (.inr v_people))))), (h_purses, .inl (cy 0, 3, .inl w_purses)), (h_this, .inr (8, [.ref h_people, .ref h_memories, .ref h_purses, x_lives, .int (bz v_there), .int v_size, .int v_date, .int (bz u3_evening), .int u4_well, .int u5_rights])), (h_memories, .inl (cy 0, 3, .inl u6_memories))] := hD
              refine W.eq (g2 := F0 m 72 ls []) rfl ?_
              refine lv_iinc (v := (l8 + 1)) (lv' := [(8, .int (l8 + 1)), (9, .int r1), (0, .ref h_this), (1, .ref h_a0), (2, .int l2), (4, .long l4), (6, .int l6), (7, .int l7)]) hx hb dX9_passDates_72 hl (k := 7) rfl rfl (by decide) rfl (fun ls hl => ?_)
              refine lv_goto (tgt := 19) hx hb dX9_passDates_75 (by decide) ?_
              exact ih_19 l2 l4 l6 l7 (l8 + 1) u3_evening u4_well u5_rights u6_memories w_purses _ _ ls  (hP.sub [3, 0, 1, 4, 2] rfl) (hD.sub [3, 0, 1, 4, 2] (by decide) rfl) hS (lv_sub hl [2, 3, 4, 5, 6, 7, 0] rfl) hF
            · have hF := hF.2 c_
              refine lv_goto (tgt := 78) hx hb dX9_passDates_63 (by decide) ?_
              exact J_78 l2 l4 l6 l7 w_evening w_well w_rights w_memories w_purses _ _ ls  hP hD hS (lv_sub hl [1, 2, 3, 4, 5, 6] rfl) hF
          intro l2 l4 l6 l7 l8 w_evening w_well w_rights w_memories w_purses H locs ls  hP hD hS hl hF
          unfold wlX9_passDates_19 at hF
          refine lv_iload hx hb dX9_passDates_19 (lv_at hl 6 rfl) ?_
          refine lv_iconst (v := 3) hx hb dX9_passDates_21 (by decide) ?_
          refine lv_icmp_gt (tgt := 78) hx hb dX9_passDates_22 (by decide) (fun c_ => ?_) (fun c_ => ?_)
          · have hF := hF.1 c_
            exact J_78 l2 l4 l6 l7 w_evening w_well w_rights w_memories w_purses _ _ ls  hP hD hS (lv_sub hl [0, 1, 2, 3, 4, 5] rfl) hF
          · have hF := hF.2 c_
            refine lv_aload_n hx hb dX9_passDates_25 rfl (lv_at hl 0 rfl) ?_
            refine va_get (D := D) (ci := 8) (v := .int (bz w_evening)) (C := RX9) (T := TX9) (N := 10) hx hb hts inTX9 hown hK.1 hP 0 rfl rfl 7 (by decide) (hts _ t1_97) (fun _ h9 => h9) rfl dX9_passDates_26 ?_
            refine lv_if_ne (tgt := 43) hx hb dX9_passDates_29 (by decide) (fun c_ => ?_) (fun c_ => ?_)
            · have hF := hF.1 ((bz_1 _).mp c_)
              exact J_43 l2 l4 l6 l7 l8 w_evening w_well w_rights w_memories w_purses _ _ ls  hP hD hS (lv_sub hl [0, 1, 2, 3, 4, 5, 6] rfl) hF
            · have hF := hF.2 ((bz_0 _).mp c_)
              refine lv_aload_n hx hb dX9_passDates_32 rfl (lv_at hl 0 rfl) ?_
              refine lv_lload hx hb dX9_passDates_33 (lv_at hl 3 rfl) ?_
              refine cV_t (As := [.long l4]) (wr := [(h_a0, .inl (cy 0, 3, .inl v_a0)), (h_purses, .inl (cy 0, 3, .inl w_purses))]) C hA hP hD hS mfX9_passDay t2_195 t2_196 t3_226 (ccX9_passDay l D cy pe h_this h_people h_memories (.ref h_purses) x_lives v_there v_size v_date w_evening w_well w_rights v_people w_memories l4 _ hF) [0, 2, 3] [1, 4] rfl rfl (by decide) (by decide) (by decide) (hI.po hS hD [0, 2, 3] rfl) 0 8 rfl rfl rfl rfl hl.1 rfl (Nat.le_of_ble_eq_true rfl) dX9_passDates_35 ⟨Nat.le_of_ble_eq_true rfl, Nat.le_of_ble_eq_true rfl⟩ ⟨Nat.le_of_ble_eq_true rfl, Nat.le_of_ble_eq_true rfl⟩ ?_
              rintro r1 w1 H locs ⟨u2_evening, u3_well, rfl, hF⟩ hP hD hS
              have hP : va_P D CL [(h_a0, .inl (cy 0, 3, .inl v_a0)), (h_purses, .inl (cy 0, 3, .inl w_purses)), (h_this, .inr (8, [.ref h_people, .ref h_memories, .ref h_purses, x_lives, .int (bz v_there), .int v_size, .int v_date, .int (bz u2_evening), .int u3_well, .int w_rights])), (h_people, .inl (cy 3, 3, .inr (.inr (.inr (.inr v_people))))), (h_memories, .inl (cy 0, 3, .inl w_memories))] H := hP
              have hD : va_D A [(h_a0, .inl (cy 0, 3, .inl v_a0)), (h_purses, .inl (cy 0, 3, .inl w_purses)), (h_this, .inr (8, [.ref h_people, .ref h_memories, .ref h_purses, x_lives, .int (bz v_there), .int v_size, .int v_date, .int (bz u2_evening), .int u3_well, .int w_rights])), (h_people, .inl (cy 3, 3, .inr (.inr (.inr (.inr v_people))))), (h_memories, .inl (cy 0, 3, .inl w_memories))] := hD
              refine W.eq (g2 := F0 m 38 ls [.long r1]) rfl ?_
              refine lv_lstore (lv' := [(4, .long r1), (0, .ref h_this), (1, .ref h_a0), (2, .int l2), (6, .int l6), (7, .int l7), (8, .int l8)]) hx hb dX9_passDates_38 hl (by decide) rfl (fun ls hl => ?_)
              refine lv_iinc (v := (l6 + 1)) (lv' := [(6, .int (l6 + 1)), (4, .long r1), (0, .ref h_this), (1, .ref h_a0), (2, .int l2), (7, .int l7), (8, .int l8)]) hx hb dX9_passDates_40 hl (k := 4) rfl rfl (by decide) rfl (fun ls hl => ?_)
              exact J_43 l2 r1 (l6 + 1) l7 l8 u2_evening u3_well w_rights w_memories w_purses _ _ ls  (hP.sub [2, 0, 3, 4, 1] rfl) (hD.sub [2, 0, 3, 4, 1] (by decide) rfl) hS (lv_sub hl [2, 3, 4, 1, 0, 5, 6] rfl) hF
      intro l2 l4 l6 l7 w_evening w_well w_rights w_memories w_purses H locs ls  hP hD hS hl hF
      unfold wlX9_passDates_10 at hF
      refine lv_iload hx hb dX9_passDates_10 (lv_at hl 5 rfl) ?_
      refine lv_iload_n hx hb dX9_passDates_12 rfl (lv_at hl 2 rfl) ?_
      refine lv_icmp_ge (tgt := 88) hx hb dX9_passDates_13 (by decide) (fun c_ => ?_) (fun c_ => ?_)
      · have hF := hF.1 c_
        refine lv_iload hx hb dX9_passDates_88 (lv_at hl 4 rfl) ?_
        exact rt_i C hQ rfl hP hD hS ⟨w_evening, w_well, w_rights, w_memories, w_purses, rfl, hF⟩ dX9_passDates_90
      · have hF := hF.2 c_
        refine lv_iconst (v := 0) hx hb dX9_passDates_16 (by decide) ?_
        refine lv_istore (lv' := [(8, .int 0), (0, .ref h_this), (1, .ref h_a0), (2, .int l2), (4, .long l4), (6, .int l6), (7, .int l7)]) hx hb dX9_passDates_17 hl (by decide) rfl (fun ls hl => ?_)
        exact L_19 fu l2 l4 l6 l7 0 w_evening w_well w_rights w_memories w_purses _ _ ls  hP hD hS (lv_sub hl [1, 2, 3, 4, 5, 6, 0] rfl) hF
  unfold wpX9_passDates at hF
  refine lv_iload_n hx hb dX9_passDates_0 rfl (lv_at hl 3 rfl) ?_
  refine lv_i2l hx hb dX9_passDates_1 rfl ?_
  refine lv_lstore (lv' := [(4, .long ((p2).toInt64)), (0, .ref h_this), (1, .ref h_a0), (2, .int p1), (3, .int p2)]) hx hb dX9_passDates_2 hl (by decide) rfl (fun ls hl => ?_)
  refine lv_iconst (v := 0) hx hb dX9_passDates_4 (by decide) ?_
  refine lv_istore (lv' := [(6, .int 0), (4, .long ((p2).toInt64)), (0, .ref h_this), (1, .ref h_a0), (2, .int p1), (3, .int p2)]) hx hb dX9_passDates_5 hl (by decide) rfl (fun ls hl => ?_)
  refine lv_iconst (v := 0) hx hb dX9_passDates_7 (by decide) ?_
  refine lv_istore (lv' := [(7, .int 0), (6, .int 0), (4, .long ((p2).toInt64)), (0, .ref h_this), (1, .ref h_a0), (2, .int p1), (3, .int p2)]) hx hb dX9_passDates_8 hl (by decide) rfl (fun ls hl => ?_)
  exact L_10 fu p1 ((p2).toInt64) 0 0 v_evening v_well v_rights v_memories v_purses _ _ ls  hP hD hS (lv_sub hl [3, 4, 5, 2, 1, 0] rfl) hF

def wjX9_settle_106 (v_a0 : Nat → Option Nat) (pe : Pe) (post : Unit → Bool → Int32 → Int32 → Bool → Int32 → Int32 → (Nat → Int32) → (Nat → Int32) → (Nat → Int32) → (Nat → Option Nat) → Prop) (K_60 : Int32 → Bool → Int32 → Int32 → Bool → Int32 → Int32 → (Nat → Int32) → (Nat → Int32) → (Nat → Int32) → (Nat → Option Nat) → Prop) (l3 : Int32) (w_there : Bool) (w_size : Int32) (w_date : Int32) (w_evening : Bool) (w_well : Int32) (w_rights : Int32) (w_memories : Nat → Int32) (w_purses : Nat → Int32) (w_lives : Nat → Int32) (w_people : Nat → Option Nat) : Prop := K_60 (l3 + 1) w_there w_size w_date w_evening w_well w_rights w_memories w_purses w_lives w_people
def wlX9_settle_60 (v_a0 : Nat → Option Nat) (pe : Pe) (post : Unit → Bool → Int32 → Int32 → Bool → Int32 → Int32 → (Nat → Int32) → (Nat → Int32) → (Nat → Int32) → (Nat → Option Nat) → Prop) : Nat → Int32 → Bool → Int32 → Int32 → Bool → Int32 → Int32 → (Nat → Int32) → (Nat → Int32) → (Nat → Int32) → (Nat → Option Nat) → Prop
  | 0, _, _, _, _, _, _, _, _, _, _, _ => False
  | n + 1, l3, w_there, w_size, w_date, w_evening, w_well, w_rights, w_memories, w_purses, w_lives, w_people => (w_size ≤ l3 → (post () w_there w_size w_date w_evening w_well w_rights w_memories w_purses w_lives w_people)) ∧ (¬ w_size ≤ l3 → (vp_in l3 3 ∧ (((v_a0 ((l3).toNatClampNeg)) = none → (vp_in l3 3 ∧ (wjX9_settle_106 v_a0 pe post (wlX9_settle_60 v_a0 pe post n) l3 w_there w_size w_date w_evening w_well w_rights w_memories w_purses w_lives (va_up w_people (l3).toNatClampNeg none)))) ∧ (∀ a2 : Nat, (v_a0 ((l3).toNatClampNeg)) = some a2 → a2 ∈ pe.1 ∧ (vp_in l3 3 ∧ (wv_beginsWithRight (pe.2 a2) (fun r5 => (r5 = false → (wjX9_settle_106 v_a0 pe post (wlX9_settle_60 v_a0 pe post n) l3 w_there w_size w_date w_evening w_well w_rights w_memories w_purses w_lives (va_up w_people (l3).toNatClampNeg (some a2)))) ∧ (r5 = true → (wjX9_settle_106 v_a0 pe post (wlX9_settle_60 v_a0 pe post n) l3 w_there w_size w_date w_evening w_well (w_rights ||| ((1 : Int32) <<< (l3 &&& 31))) w_memories w_purses w_lives (va_up w_people (l3).toNatClampNeg (some a2)))))))))))
def wpX9_settle (p1 : Int32) (v_there : Bool) (v_size : Int32) (v_date : Int32) (v_evening : Bool) (v_well : Int32) (v_rights : Int32) (v_a0 : Nat → Option Nat) (v_memories : Nat → Int32) (v_purses : Nat → Int32) (v_lives : Nat → Int32) (v_people : Nat → Option Nat) (pe : Pe) (post : Unit → Bool → Int32 → Int32 → Bool → Int32 → Int32 → (Nat → Int32) → (Nat → Int32) → (Nat → Int32) → (Nat → Option Nat) → Prop) : Prop := wp_fillI 3 0 v_memories (fun _ u2_memories => wp_fillI 3 0 v_purses (fun _ u4_purses => wp_fillI 100 0 v_lives (fun _ u6_lives => wlX9_settle_60 v_a0 pe post fu 0 true (if 3 < p1 then 3 else p1) 0 false 0 0 u2_memories u4_purses u6_lives v_people)))
abbrev miX9_settle : MI := (yX9_settle, cX9_settle, 5, none)
theorem mfX9_settle : MF miX9_settle 2 := ⟨t2_151, t1_5, by decide +kernel⟩
abbrev rmX9_settle : Room := { frames := 1, cells := 0, slots := 0, locals := 23 }
set_option maxHeartbeats 4000000 in
set_option maxRecDepth 100000 in
theorem ccX9_settle (l : Launch) (D : va_G) (cy : Nat → ClassId) (pe : Pe) (h_this : Nat) (h_a0 : Nat) (h_memories : Nat) (h_purses : Nat) (h_lives : Nat) (h_people : Nat) (v_there : Bool) (v_size : Int32) (v_date : Int32) (v_evening : Bool) (v_well : Int32) (v_rights : Int32) (v_a0 : Nat → Option Nat) (v_memories : Nat → Int32) (v_purses : Nat → Int32) (v_lives : Nat → Int32) (v_people : Nat → Option Nat) (p1 : Int32) (post : Unit → Bool → Int32 → Int32 → Bool → Int32 → Int32 → (Nat → Int32) → (Nat → Int32) → (Nat → Int32) → (Nat → Option Nat) → Prop) (hF : wpX9_settle p1 v_there v_size v_date v_evening v_well v_rights v_a0 v_memories v_purses v_lives v_people pe post) : Ct l D cy miX9_settle rmX9_settle emV pe [.ref h_this, .ref h_a0, .int p1] [(h_this, .inr (8, [.ref h_people, .ref h_memories, .ref h_purses, .ref h_lives, .int (bz v_there), .int v_size, .int v_date, .int (bz v_evening), .int v_well, .int v_rights])), (h_a0, .inl (cy 3, 3, .inr (.inr (.inr (.inr v_a0))))), (h_memories, .inl (cy 0, 3, .inl v_memories)), (h_purses, .inl (cy 0, 3, .inl v_purses)), (h_lives, .inl (cy 0, 100, .inl v_lives)), (h_people, .inl (cy 3, 3, .inr (.inr (.inr (.inr v_people)))))] (fun r w1 => ∃ (w_there : Bool) (w_size : Int32) (w_date : Int32) (w_evening : Bool) (w_well : Int32) (w_rights : Int32) (w_memories : Nat → Int32) (w_purses : Nat → Int32) (w_lives : Nat → Int32) (w_people : Nat → Option Nat), w1 = [(h_this, .inr (8, [.ref h_people, .ref h_memories, .ref h_purses, .ref h_lives, .int (bz w_there), .int w_size, .int w_date, .int (bz w_evening), .int w_well, .int w_rights])), (h_a0, .inl (cy 3, 3, .inr (.inr (.inr (.inr v_a0))))), (h_memories, .inl (cy 0, 3, .inl w_memories)), (h_purses, .inl (cy 0, 3, .inl w_purses)), (h_lives, .inl (cy 0, 100, .inl w_lives)), (h_people, .inl (cy 3, 3, .inr (.inr (.inr (.inr w_people)))))] ∧ post r w_there w_size w_date w_evening w_well w_rights w_memories w_purses w_lives w_people) := by
  refine Ct.of (by decide) (Nat.le_of_ble_eq_true rfl) ?_
  intro p e s m args below meth c A ls Q C hQ hA hI hP hD hS hl
  obtain ⟨hx, hb, hr, hml, hown, hts, hK, hlk, hnm⟩ := id C
  have hb : c.code = cX9_settle := hb
  have hml : c.maxLocals = 5 := hml
  have hown : s.vm.findClass RX9 = some m.cls := hown
  have hl : lv_has ls 5 [(0, .ref h_this), (1, .ref h_a0), (2, .int p1)] := hl
  have L_60 : ∀ (n_60 : Nat) (l3 : Int32) (w_there : Bool) (w_size : Int32) (w_date : Int32) (w_evening : Bool) (w_well : Int32) (w_rights : Int32) (w_memories : Nat → Int32) (w_purses : Nat → Int32) (w_lives : Nat → Int32) (w_people : Nat → Option Nat) (H : Heap) (locs : List Loc) (ls : Array Slot), va_P D CL [(h_this, .inr (8, [.ref h_people, .ref h_memories, .ref h_purses, .ref h_lives, .int (bz w_there), .int w_size, .int w_date, .int (bz w_evening), .int w_well, .int w_rights])), (h_a0, .inl (cy 3, 3, .inr (.inr (.inr (.inr v_a0))))), (h_memories, .inl (cy 0, 3, .inl w_memories)), (h_purses, .inl (cy 0, 3, .inl w_purses)), (h_lives, .inl (cy 0, 100, .inl w_lives)), (h_people, .inl (cy 3, 3, .inr (.inr (.inr (.inr w_people)))))] H → va_D A [(h_this, .inr (8, [.ref h_people, .ref h_memories, .ref h_purses, .ref h_lives, .int (bz w_there), .int w_size, .int w_date, .int (bz w_evening), .int w_well, .int w_rights])), (h_a0, .inl (cy 3, 3, .inr (.inr (.inr (.inr v_a0))))), (h_memories, .inl (cy 0, 3, .inl w_memories)), (h_purses, .inl (cy 0, 3, .inl w_purses)), (h_lives, .inl (cy 0, 100, .inl w_lives)), (h_people, .inl (cy 3, 3, .inr (.inr (.inr (.inr w_people)))))] → va_S A s.heap H locs → lv_has ls 5 [(0, .ref h_this), (1, .ref h_a0), (3, .int l3)] → wlX9_settle_60 v_a0 pe post n_60 l3 w_there w_size w_date w_evening w_well w_rights w_memories w_purses w_lives w_people → W p l e rmX9_settle s m args below meth c H locs 0 0 Q (F0 m 60 ls []) := by
    intro n_60
    induction n_60 with
    | zero =>
      intro l3 w_there w_size w_date w_evening w_well w_rights w_memories w_purses w_lives w_people H locs ls  hP hD hS hl hF
      simp only [wlX9_settle_60] at hF
    | succ n_60 ih_60 =>
      have J_106 : ∀ (l3 : Int32) (w_there : Bool) (w_size : Int32) (w_date : Int32) (w_evening : Bool) (w_well : Int32) (w_rights : Int32) (w_memories : Nat → Int32) (w_purses : Nat → Int32) (w_lives : Nat → Int32) (w_people : Nat → Option Nat) (H : Heap) (locs : List Loc) (ls : Array Slot), va_P D CL [(h_this, .inr (8, [.ref h_people, .ref h_memories, .ref h_purses, .ref h_lives, .int (bz w_there), .int w_size, .int w_date, .int (bz w_evening), .int w_well, .int w_rights])), (h_a0, .inl (cy 3, 3, .inr (.inr (.inr (.inr v_a0))))), (h_memories, .inl (cy 0, 3, .inl w_memories)), (h_purses, .inl (cy 0, 3, .inl w_purses)), (h_lives, .inl (cy 0, 100, .inl w_lives)), (h_people, .inl (cy 3, 3, .inr (.inr (.inr (.inr w_people)))))] H → va_D A [(h_this, .inr (8, [.ref h_people, .ref h_memories, .ref h_purses, .ref h_lives, .int (bz w_there), .int w_size, .int w_date, .int (bz w_evening), .int w_well, .int w_rights])), (h_a0, .inl (cy 3, 3, .inr (.inr (.inr (.inr v_a0))))), (h_memories, .inl (cy 0, 3, .inl w_memories)), (h_purses, .inl (cy 0, 3, .inl w_purses)), (h_lives, .inl (cy 0, 100, .inl w_lives)), (h_people, .inl (cy 3, 3, .inr (.inr (.inr (.inr w_people)))))] → va_S A s.heap H locs → lv_has ls 5 [(0, .ref h_this), (1, .ref h_a0), (3, .int l3)] → wjX9_settle_106 v_a0 pe post (wlX9_settle_60 v_a0 pe post n_60) l3 w_there w_size w_date w_evening w_well w_rights w_memories w_purses w_lives w_people → W p l e rmX9_settle s m args below meth c H locs 0 0 Q (F0 m 106 ls []) := by
        intro l3 w_there w_size w_date w_evening w_well w_rights w_memories w_purses w_lives w_people H locs ls  hP hD hS hl hF
        unfold wjX9_settle_106 at hF
        refine lv_iinc (v := (l3 + 1)) (lv' := [(3, .int (l3 + 1)), (0, .ref h_this), (1, .ref h_a0)]) hx hb dX9_settle_106 hl (k := 2) rfl rfl (by decide) rfl (fun ls hl => ?_)
        refine lv_goto (tgt := 60) hx hb dX9_settle_109 (by decide) ?_
        exact ih_60 (l3 + 1) w_there w_size w_date w_evening w_well w_rights w_memories w_purses w_lives w_people _ _ ls  hP hD hS (lv_sub hl [1, 2, 0] rfl) hF
      intro l3 w_there w_size w_date w_evening w_well w_rights w_memories w_purses w_lives w_people H locs ls  hP hD hS hl hF
      unfold wlX9_settle_60 at hF
      refine lv_iload_n hx hb dX9_settle_60 rfl (lv_at hl 2 rfl) ?_
      refine lv_aload_n hx hb dX9_settle_61 rfl (lv_at hl 0 rfl) ?_
      refine va_get (D := D) (ci := 8) (v := .int w_size) (C := RX9) (T := TX9) (N := 10) hx hb hts inTX9 hown hK.1 hP 0 rfl rfl 5 (by decide) (hts _ t1_92) (fun _ h9 => h9) rfl dX9_settle_62 ?_
      refine lv_icmp_ge (tgt := 112) hx hb dX9_settle_65 (by decide) (fun c_ => ?_) (fun c_ => ?_)
      · have hF := hF.1 c_
        exact rt_v C hQ rfl hP hD hS ⟨w_there, w_size, w_date, w_evening, w_well, w_rights, w_memories, w_purses, w_lives, w_people, rfl, hF⟩ dX9_settle_112
      · have hF := hF.2 c_
        refine lv_aload_n hx hb dX9_settle_68 rfl (lv_at hl 1 rfl) ?_
        refine lv_iload_n hx hb dX9_settle_69 rfl (lv_at hl 2 rfl) ?_
        obtain ⟨hi1, hF⟩ := hF
        refine s_aldq (j := (l3).toNatClampNeg) hx hb hK.1 hP 1 3 rfl rfl hi1 rfl dX9_settle_70 (fun hq => ?_) (fun a2 hq => ?_)
        · have hF := hF.1 hq
          refine lv_astoreN (lv' := [(4, .null), (0, .ref h_this), (1, .ref h_a0), (3, .int l3)]) hx hb dX9_settle_71 hl (by decide) rfl (fun ls hl => ?_)
          refine lv_aload_n hx hb dX9_settle_73 rfl (lv_at hl 1 rfl) ?_
          refine va_get (D := D) (ci := 8) (v := .ref h_people) (C := RX9) (T := TX9) (N := 10) hx hb hts inTX9 hown hK.1 hP 0 rfl rfl 0 (by decide) (hts _ t1_83) (fun _ h9 => h9) rfl dX9_settle_74 ?_
          refine lv_iload_n hx hb dX9_settle_77 rfl (lv_at hl 3 rfl) ?_
          refine lv_aloadN hx hb dX9_settle_78 (lv_at hl 0 rfl) ?_
          obtain ⟨hi3, hF⟩ := hF
          refine va_astqN hx hb hK.1 hP hD hS 5 3 rfl rfl hi3 dX9_settle_80 (fun H locs hP hD hS => ?_)
          have hP : va_P D CL [(h_this, .inr (8, [.ref h_people, .ref h_memories, .ref h_purses, .ref h_lives, .int (bz w_there), .int w_size, .int w_date, .int (bz w_evening), .int w_well, .int w_rights])), (h_a0, .inl (cy 3, 3, .inr (.inr (.inr (.inr v_a0))))), (h_memories, .inl (cy 0, 3, .inl w_memories)), (h_purses, .inl (cy 0, 3, .inl w_purses)), (h_lives, .inl (cy 0, 100, .inl w_lives)), (h_people, .inl (cy 3, 3, .inr (.inr (.inr (.inr (va_up w_people (l3).toNatClampNeg none))))))] H := hP
          have hD : va_D A [(h_this, .inr (8, [.ref h_people, .ref h_memories, .ref h_purses, .ref h_lives, .int (bz w_there), .int w_size, .int w_date, .int (bz w_evening), .int w_well, .int w_rights])), (h_a0, .inl (cy 3, 3, .inr (.inr (.inr (.inr v_a0))))), (h_memories, .inl (cy 0, 3, .inl w_memories)), (h_purses, .inl (cy 0, 3, .inl w_purses)), (h_lives, .inl (cy 0, 100, .inl w_lives)), (h_people, .inl (cy 3, 3, .inr (.inr (.inr (.inr (va_up w_people (l3).toNatClampNeg none))))))] := hD
          refine lv_aloadN hx hb dX9_settle_81 (lv_at hl 0 rfl) ?_
          refine lv_ifnullN (tgt := 106) hx hb dX9_settle_83 (by decide) ?_
          exact J_106 l3 w_there w_size w_date w_evening w_well w_rights w_memories w_purses w_lives (va_up w_people (l3).toNatClampNeg none) _ _ ls  hP hD hS (lv_sub hl [1, 2, 3] rfl) hF
        · obtain ⟨ha_a2, hF⟩ := hF.2 a2 hq
          refine lv_astore (lv' := [(4, .ref a2), (0, .ref h_this), (1, .ref h_a0), (3, .int l3)]) hx hb dX9_settle_71 hl (by decide) rfl (fun ls hl => ?_)
          refine lv_aload_n hx hb dX9_settle_73 rfl (lv_at hl 1 rfl) ?_
          refine va_get (D := D) (ci := 8) (v := .ref h_people) (C := RX9) (T := TX9) (N := 10) hx hb hts inTX9 hown hK.1 hP 0 rfl rfl 0 (by decide) (hts _ t1_83) (fun _ h9 => h9) rfl dX9_settle_74 ?_
          refine lv_iload_n hx hb dX9_settle_77 rfl (lv_at hl 3 rfl) ?_
          refine lv_aload hx hb dX9_settle_78 (lv_at hl 0 rfl) ?_
          obtain ⟨hi4, hF⟩ := hF
          refine va_astqM hx hb hK.1 hP hD hS 5 3 rfl rfl (pe_any hK (hI.at hS) ha_a2) hi4 dX9_settle_80 (fun H locs hP hD hS => ?_)
          have hP : va_P D CL [(h_this, .inr (8, [.ref h_people, .ref h_memories, .ref h_purses, .ref h_lives, .int (bz w_there), .int w_size, .int w_date, .int (bz w_evening), .int w_well, .int w_rights])), (h_a0, .inl (cy 3, 3, .inr (.inr (.inr (.inr v_a0))))), (h_memories, .inl (cy 0, 3, .inl w_memories)), (h_purses, .inl (cy 0, 3, .inl w_purses)), (h_lives, .inl (cy 0, 100, .inl w_lives)), (h_people, .inl (cy 3, 3, .inr (.inr (.inr (.inr (va_up w_people (l3).toNatClampNeg (some a2)))))))] H := hP
          have hD : va_D A [(h_this, .inr (8, [.ref h_people, .ref h_memories, .ref h_purses, .ref h_lives, .int (bz w_there), .int w_size, .int w_date, .int (bz w_evening), .int w_well, .int w_rights])), (h_a0, .inl (cy 3, 3, .inr (.inr (.inr (.inr v_a0))))), (h_memories, .inl (cy 0, 3, .inl w_memories)), (h_purses, .inl (cy 0, 3, .inl w_purses)), (h_lives, .inl (cy 0, 100, .inl w_lives)), (h_people, .inl (cy 3, 3, .inr (.inr (.inr (.inr (va_up w_people (l3).toNatClampNeg (some a2)))))))] := hD
          refine lv_aload hx hb dX9_settle_81 (lv_at hl 0 rfl) ?_
          refine lv_ifnull hx hb dX9_settle_83 ?_
          refine lv_aload hx hb dX9_settle_86 (lv_at hl 0 rfl) ?_
          refine pv_beginsWithRight C (hI.at hS) ha_a2 t2_156 hl.1 (Nat.le_of_ble_eq_true rfl) dX9_settle_88 ⟨Nat.le_of_ble_eq_true rfl, Nat.le_of_ble_eq_true rfl⟩ ⟨Nat.le_of_ble_eq_true rfl, Nat.le_of_ble_eq_true rfl⟩ hF rfl ?_
          intro r5 hF
          refine W.eq (g2 := F0 m 91 ls [.int (bz r5)]) rfl ?_
          refine lv_if_eq (tgt := 106) hx hb dX9_settle_91 (by decide) (fun c_ => ?_) (fun c_ => ?_)
          · have hF := hF.1 ((bz_0 _).mp c_)
            exact J_106 l3 w_there w_size w_date w_evening w_well w_rights w_memories w_purses w_lives (va_up w_people (l3).toNatClampNeg (some a2)) _ _ ls  hP hD hS (lv_sub hl [1, 2, 3] rfl) hF
          · have hF := hF.2 ((bz_1 _).mp c_)
            refine lv_aload_n hx hb dX9_settle_94 rfl (lv_at hl 1 rfl) ?_
            refine lv_dup hx hb dX9_settle_95 rfl ?_
            refine va_get (D := D) (ci := 8) (v := .int w_rights) (C := RX9) (T := TX9) (N := 10) hx hb hts inTX9 hown hK.1 hP 0 rfl rfl 9 (by decide) (hts _ t1_101) (fun _ h9 => h9) rfl dX9_settle_96 ?_
            refine lv_iconst (v := 1) hx hb dX9_settle_99 (by decide) ?_
            refine lv_iload_n hx hb dX9_settle_100 rfl (lv_at hl 3 rfl) ?_
            refine lv_ishl hx hb dX9_settle_101 ?_
            refine lv_ior hx hb dX9_settle_102 ?_
            refine va_put (D := D) (ci := 8) (v := .int (w_rights ||| ((1 : Int32) <<< (l3 &&& 31)))) (ty := .int) (C := RX9) (T := TX9) (N := 10) hx hb hts inTX9 tyX9 tyX9_ok nmX9 hown hK.1 hP hD hS 0 rfl rfl 9 (by decide) (hts _ t1_101) (fun _ h9 => h9) rfl (tyX9_ok 9 (by decide)) rfl rfl (Nat.le_of_ble_eq_true rfl) dX9_settle_103 (fun H locs hP hD hS => ?_)
            have hP : va_P D CL [(h_this, .inr (8, [.ref h_people, .ref h_memories, .ref h_purses, .ref h_lives, .int (bz w_there), .int w_size, .int w_date, .int (bz w_evening), .int w_well, .int (w_rights ||| ((1 : Int32) <<< (l3 &&& 31)))])), (h_a0, .inl (cy 3, 3, .inr (.inr (.inr (.inr v_a0))))), (h_memories, .inl (cy 0, 3, .inl w_memories)), (h_purses, .inl (cy 0, 3, .inl w_purses)), (h_lives, .inl (cy 0, 100, .inl w_lives)), (h_people, .inl (cy 3, 3, .inr (.inr (.inr (.inr (va_up w_people (l3).toNatClampNeg (some a2)))))))] H := hP
            have hD : va_D A [(h_this, .inr (8, [.ref h_people, .ref h_memories, .ref h_purses, .ref h_lives, .int (bz w_there), .int w_size, .int w_date, .int (bz w_evening), .int w_well, .int (w_rights ||| ((1 : Int32) <<< (l3 &&& 31)))])), (h_a0, .inl (cy 3, 3, .inr (.inr (.inr (.inr v_a0))))), (h_memories, .inl (cy 0, 3, .inl w_memories)), (h_purses, .inl (cy 0, 3, .inl w_purses)), (h_lives, .inl (cy 0, 100, .inl w_lives)), (h_people, .inl (cy 3, 3, .inr (.inr (.inr (.inr (va_up w_people (l3).toNatClampNeg (some a2)))))))] := hD
            exact J_106 l3 w_there w_size w_date w_evening w_well (w_rights ||| ((1 : Int32) <<< (l3 &&& 31))) w_memories w_purses w_lives (va_up w_people (l3).toNatClampNeg (some a2)) _ _ ls  hP hD hS (lv_sub hl [1, 2, 3] rfl) hF
  unfold wpX9_settle at hF
  refine lv_aload_n hx hb dX9_settle_0 rfl (lv_at hl 0 rfl) ?_
  refine lv_iconst (v := 1) hx hb dX9_settle_1 (by decide) ?_
  refine W.eq (g2 := F0 m 2 ls [.int (bz true), .ref h_this]) rfl ?_
  refine va_put (D := D) (ci := 8) (v := .int (bz true)) (ty := .boolean) (C := RX9) (T := TX9) (N := 10) hx hb hts inTX9 tyX9 tyX9_ok nmX9 hown hK.1 hP hD hS 0 rfl rfl 4 (by decide) (hts _ t1_90) (fun _ h9 => h9) rfl (tyX9_ok 4 (by decide)) (nr_bz _) (ft_bz _) (Nat.le_of_ble_eq_true rfl) dX9_settle_2 (fun H locs hP hD hS => ?_)
  have hP : va_P D CL [(h_this, .inr (8, [.ref h_people, .ref h_memories, .ref h_purses, .ref h_lives, .int (bz true), .int v_size, .int v_date, .int (bz v_evening), .int v_well, .int v_rights])), (h_a0, .inl (cy 3, 3, .inr (.inr (.inr (.inr v_a0))))), (h_memories, .inl (cy 0, 3, .inl v_memories)), (h_purses, .inl (cy 0, 3, .inl v_purses)), (h_lives, .inl (cy 0, 100, .inl v_lives)), (h_people, .inl (cy 3, 3, .inr (.inr (.inr (.inr v_people)))))] H := hP
  have hD : va_D A [(h_this, .inr (8, [.ref h_people, .ref h_memories, .ref h_purses, .ref h_lives, .int (bz true), .int v_size, .int v_date, .int (bz v_evening), .int v_well, .int v_rights])), (h_a0, .inl (cy 3, 3, .inr (.inr (.inr (.inr v_a0))))), (h_memories, .inl (cy 0, 3, .inl v_memories)), (h_purses, .inl (cy 0, 3, .inl v_purses)), (h_lives, .inl (cy 0, 100, .inl v_lives)), (h_people, .inl (cy 3, 3, .inr (.inr (.inr (.inr v_people)))))] := hD
  refine lv_aload_n hx hb dX9_settle_5 rfl (lv_at hl 0 rfl) ?_
  refine lv_iload_n hx hb dX9_settle_6 rfl (lv_at hl 2 rfl) ?_
  refine lv_iconst (v := 3) hx hb dX9_settle_7 (by decide) ?_
  refine va_mmin hx hb (hml.trans hl.1.symm) hown (hts _ t2_152) (hts _ t2_153) (hts _ t1_16) (hts _ t2_154) (by decide) (Nat.le_of_ble_eq_true rfl) (by decide) (by decide) dX9_settle_8 ?_
  refine va_put (D := D) (ci := 8) (v := .int (if 3 < p1 then 3 else p1)) (ty := .int) (C := RX9) (T := TX9) (N := 10) hx hb hts inTX9 tyX9 tyX9_ok nmX9 hown hK.1 hP hD hS 0 rfl rfl 5 (by decide) (hts _ t1_92) (fun _ h9 => h9) rfl (tyX9_ok 5 (by decide)) rfl rfl (Nat.le_of_ble_eq_true rfl) dX9_settle_11 (fun H locs hP hD hS => ?_)
  have hP : va_P D CL [(h_this, .inr (8, [.ref h_people, .ref h_memories, .ref h_purses, .ref h_lives, .int (bz true), .int (if 3 < p1 then 3 else p1), .int v_date, .int (bz v_evening), .int v_well, .int v_rights])), (h_a0, .inl (cy 3, 3, .inr (.inr (.inr (.inr v_a0))))), (h_memories, .inl (cy 0, 3, .inl v_memories)), (h_purses, .inl (cy 0, 3, .inl v_purses)), (h_lives, .inl (cy 0, 100, .inl v_lives)), (h_people, .inl (cy 3, 3, .inr (.inr (.inr (.inr v_people)))))] H := hP
  have hD : va_D A [(h_this, .inr (8, [.ref h_people, .ref h_memories, .ref h_purses, .ref h_lives, .int (bz true), .int (if 3 < p1 then 3 else p1), .int v_date, .int (bz v_evening), .int v_well, .int v_rights])), (h_a0, .inl (cy 3, 3, .inr (.inr (.inr (.inr v_a0))))), (h_memories, .inl (cy 0, 3, .inl v_memories)), (h_purses, .inl (cy 0, 3, .inl v_purses)), (h_lives, .inl (cy 0, 100, .inl v_lives)), (h_people, .inl (cy 3, 3, .inr (.inr (.inr (.inr v_people)))))] := hD
  refine lv_aload_n hx hb dX9_settle_14 rfl (lv_at hl 0 rfl) ?_
  refine lv_iconst (v := 0) hx hb dX9_settle_15 (by decide) ?_
  refine va_put (D := D) (ci := 8) (v := .int 0) (ty := .int) (C := RX9) (T := TX9) (N := 10) hx hb hts inTX9 tyX9 tyX9_ok nmX9 hown hK.1 hP hD hS 0 rfl rfl 6 (by decide) (hts _ t1_95) (fun _ h9 => h9) rfl (tyX9_ok 6 (by decide)) rfl rfl (Nat.le_of_ble_eq_true rfl) dX9_settle_16 (fun H locs hP hD hS => ?_)
  have hP : va_P D CL [(h_this, .inr (8, [.ref h_people, .ref h_memories, .ref h_purses, .ref h_lives, .int (bz true), .int (if 3 < p1 then 3 else p1), .int 0, .int (bz v_evening), .int v_well, .int v_rights])), (h_a0, .inl (cy 3, 3, .inr (.inr (.inr (.inr v_a0))))), (h_memories, .inl (cy 0, 3, .inl v_memories)), (h_purses, .inl (cy 0, 3, .inl v_purses)), (h_lives, .inl (cy 0, 100, .inl v_lives)), (h_people, .inl (cy 3, 3, .inr (.inr (.inr (.inr v_people)))))] H := hP
  have hD : va_D A [(h_this, .inr (8, [.ref h_people, .ref h_memories, .ref h_purses, .ref h_lives, .int (bz true), .int (if 3 < p1 then 3 else p1), .int 0, .int (bz v_evening), .int v_well, .int v_rights])), (h_a0, .inl (cy 3, 3, .inr (.inr (.inr (.inr v_a0))))), (h_memories, .inl (cy 0, 3, .inl v_memories)), (h_purses, .inl (cy 0, 3, .inl v_purses)), (h_lives, .inl (cy 0, 100, .inl v_lives)), (h_people, .inl (cy 3, 3, .inr (.inr (.inr (.inr v_people)))))] := hD
  refine lv_aload_n hx hb dX9_settle_19 rfl (lv_at hl 0 rfl) ?_
  refine lv_iconst (v := 0) hx hb dX9_settle_20 (by decide) ?_
  refine W.eq (g2 := F0 m 21 ls [.int (bz false), .ref h_this]) rfl ?_
  refine va_put (D := D) (ci := 8) (v := .int (bz false)) (ty := .boolean) (C := RX9) (T := TX9) (N := 10) hx hb hts inTX9 tyX9 tyX9_ok nmX9 hown hK.1 hP hD hS 0 rfl rfl 7 (by decide) (hts _ t1_97) (fun _ h9 => h9) rfl (tyX9_ok 7 (by decide)) (nr_bz _) (ft_bz _) (Nat.le_of_ble_eq_true rfl) dX9_settle_21 (fun H locs hP hD hS => ?_)
  have hP : va_P D CL [(h_this, .inr (8, [.ref h_people, .ref h_memories, .ref h_purses, .ref h_lives, .int (bz true), .int (if 3 < p1 then 3 else p1), .int 0, .int (bz false), .int v_well, .int v_rights])), (h_a0, .inl (cy 3, 3, .inr (.inr (.inr (.inr v_a0))))), (h_memories, .inl (cy 0, 3, .inl v_memories)), (h_purses, .inl (cy 0, 3, .inl v_purses)), (h_lives, .inl (cy 0, 100, .inl v_lives)), (h_people, .inl (cy 3, 3, .inr (.inr (.inr (.inr v_people)))))] H := hP
  have hD : va_D A [(h_this, .inr (8, [.ref h_people, .ref h_memories, .ref h_purses, .ref h_lives, .int (bz true), .int (if 3 < p1 then 3 else p1), .int 0, .int (bz false), .int v_well, .int v_rights])), (h_a0, .inl (cy 3, 3, .inr (.inr (.inr (.inr v_a0))))), (h_memories, .inl (cy 0, 3, .inl v_memories)), (h_purses, .inl (cy 0, 3, .inl v_purses)), (h_lives, .inl (cy 0, 100, .inl v_lives)), (h_people, .inl (cy 3, 3, .inr (.inr (.inr (.inr v_people)))))] := hD
  refine lv_aload_n hx hb dX9_settle_24 rfl (lv_at hl 0 rfl) ?_
  refine lv_iconst (v := 0) hx hb dX9_settle_25 (by decide) ?_
  refine va_put (D := D) (ci := 8) (v := .int 0) (ty := .int) (C := RX9) (T := TX9) (N := 10) hx hb hts inTX9 tyX9 tyX9_ok nmX9 hown hK.1 hP hD hS 0 rfl rfl 8 (by decide) (hts _ t1_99) (fun _ h9 => h9) rfl (tyX9_ok 8 (by decide)) rfl rfl (Nat.le_of_ble_eq_true rfl) dX9_settle_26 (fun H locs hP hD hS => ?_)
  have hP : va_P D CL [(h_this, .inr (8, [.ref h_people, .ref h_memories, .ref h_purses, .ref h_lives, .int (bz true), .int (if 3 < p1 then 3 else p1), .int 0, .int (bz false), .int 0, .int v_rights])), (h_a0, .inl (cy 3, 3, .inr (.inr (.inr (.inr v_a0))))), (h_memories, .inl (cy 0, 3, .inl v_memories)), (h_purses, .inl (cy 0, 3, .inl v_purses)), (h_lives, .inl (cy 0, 100, .inl v_lives)), (h_people, .inl (cy 3, 3, .inr (.inr (.inr (.inr v_people)))))] H := hP
  have hD : va_D A [(h_this, .inr (8, [.ref h_people, .ref h_memories, .ref h_purses, .ref h_lives, .int (bz true), .int (if 3 < p1 then 3 else p1), .int 0, .int (bz false), .int 0, .int v_rights])), (h_a0, .inl (cy 3, 3, .inr (.inr (.inr (.inr v_a0))))), (h_memories, .inl (cy 0, 3, .inl v_memories)), (h_purses, .inl (cy 0, 3, .inl v_purses)), (h_lives, .inl (cy 0, 100, .inl v_lives)), (h_people, .inl (cy 3, 3, .inr (.inr (.inr (.inr v_people)))))] := hD
  refine lv_aload_n hx hb dX9_settle_29 rfl (lv_at hl 0 rfl) ?_
  refine lv_iconst (v := 0) hx hb dX9_settle_30 (by decide) ?_
  refine va_put (D := D) (ci := 8) (v := .int 0) (ty := .int) (C := RX9) (T := TX9) (N := 10) hx hb hts inTX9 tyX9 tyX9_ok nmX9 hown hK.1 hP hD hS 0 rfl rfl 9 (by decide) (hts _ t1_101) (fun _ h9 => h9) rfl (tyX9_ok 9 (by decide)) rfl rfl (Nat.le_of_ble_eq_true rfl) dX9_settle_31 (fun H locs hP hD hS => ?_)
  have hP : va_P D CL [(h_this, .inr (8, [.ref h_people, .ref h_memories, .ref h_purses, .ref h_lives, .int (bz true), .int (if 3 < p1 then 3 else p1), .int 0, .int (bz false), .int 0, .int 0])), (h_a0, .inl (cy 3, 3, .inr (.inr (.inr (.inr v_a0))))), (h_memories, .inl (cy 0, 3, .inl v_memories)), (h_purses, .inl (cy 0, 3, .inl v_purses)), (h_lives, .inl (cy 0, 100, .inl v_lives)), (h_people, .inl (cy 3, 3, .inr (.inr (.inr (.inr v_people)))))] H := hP
  have hD : va_D A [(h_this, .inr (8, [.ref h_people, .ref h_memories, .ref h_purses, .ref h_lives, .int (bz true), .int (if 3 < p1 then 3 else p1), .int 0, .int (bz false), .int 0, .int 0])), (h_a0, .inl (cy 3, 3, .inr (.inr (.inr (.inr v_a0))))), (h_memories, .inl (cy 0, 3, .inl v_memories)), (h_purses, .inl (cy 0, 3, .inl v_purses)), (h_lives, .inl (cy 0, 100, .inl v_lives)), (h_people, .inl (cy 3, 3, .inr (.inr (.inr (.inr v_people)))))] := hD
  refine lv_aload_n hx hb dX9_settle_34 rfl (lv_at hl 0 rfl) ?_
  refine va_get (D := D) (ci := 8) (v := .ref h_memories) (C := RX9) (T := TX9) (N := 10) hx hb hts inTX9 hown hK.1 hP 0 rfl rfl 1 (by decide) (hts _ t1_84) (fun _ h9 => h9) rfl dX9_settle_35 ?_
  refine lv_iconst (v := 0) hx hb dX9_settle_38 (by decide) ?_
  refine cS_t (As := [.ref h_memories, .int 0]) (wr := [(h_this, .inr (8, [.ref h_people, .ref h_memories, .ref h_purses, .ref h_lives, .int (bz true), .int (if 3 < p1 then 3 else p1), .int 0, .int (bz false), .int 0, .int 0])), (h_a0, .inl (cy 3, 3, .inr (.inr (.inr (.inr v_a0))))), (h_purses, .inl (cy 0, 3, .inl v_purses)), (h_lives, .inl (cy 0, 100, .inl v_lives)), (h_people, .inl (cy 3, 3, .inr (.inr (.inr (.inr v_people)))))]) C hA hP hD hS mfJ7_fill_53178 t1_35 t2_155 (c_fillI l D cy 3 (by decide) h_memories v_memories 0 _ hF) [2] [0, 1, 3, 4, 5] rfl rfl (by decide) (by decide) (by decide) PO.np rfl hl.1 rfl (Nat.le_of_ble_eq_true rfl) dX9_settle_39 ⟨Nat.le_of_ble_eq_true rfl, Nat.le_of_ble_eq_true rfl⟩ ⟨Nat.le_of_ble_eq_true rfl, Nat.le_of_ble_eq_true rfl⟩ ?_
  rintro ⟨⟩ w1 H locs ⟨u2_memories, rfl, hF⟩ hP hD hS
  have hP : va_P D CL [(h_this, .inr (8, [.ref h_people, .ref h_memories, .ref h_purses, .ref h_lives, .int (bz true), .int (if 3 < p1 then 3 else p1), .int 0, .int (bz false), .int 0, .int 0])), (h_a0, .inl (cy 3, 3, .inr (.inr (.inr (.inr v_a0))))), (h_purses, .inl (cy 0, 3, .inl v_purses)), (h_lives, .inl (cy 0, 100, .inl v_lives)), (h_people, .inl (cy 3, 3, .inr (.inr (.inr (.inr v_people))))), (h_memories, .inl (cy 0, 3, .inl u2_memories))] H := hP
  have hD : va_D A [(h_this, .inr (8, [.ref h_people, .ref h_memories, .ref h_purses, .ref h_lives, .int (bz true), .int (if 3 < p1 then 3 else p1), .int 0, .int (bz false), .int 0, .int 0])), (h_a0, .inl (cy 3, 3, .inr (.inr (.inr (.inr v_a0))))), (h_purses, .inl (cy 0, 3, .inl v_purses)), (h_lives, .inl (cy 0, 100, .inl v_lives)), (h_people, .inl (cy 3, 3, .inr (.inr (.inr (.inr v_people))))), (h_memories, .inl (cy 0, 3, .inl u2_memories))] := hD
  refine W.eq (g2 := F0 m 42 ls []) rfl ?_
  refine lv_aload_n hx hb dX9_settle_42 rfl (lv_at hl 0 rfl) ?_
  refine va_get (D := D) (ci := 8) (v := .ref h_purses) (C := RX9) (T := TX9) (N := 10) hx hb hts inTX9 hown hK.1 hP 0 rfl rfl 2 (by decide) (hts _ t1_86) (fun _ h9 => h9) rfl dX9_settle_43 ?_
  refine lv_iconst (v := 0) hx hb dX9_settle_46 (by decide) ?_
  refine cS_t (As := [.ref h_purses, .int 0]) (wr := [(h_this, .inr (8, [.ref h_people, .ref h_memories, .ref h_purses, .ref h_lives, .int (bz true), .int (if 3 < p1 then 3 else p1), .int 0, .int (bz false), .int 0, .int 0])), (h_a0, .inl (cy 3, 3, .inr (.inr (.inr (.inr v_a0))))), (h_lives, .inl (cy 0, 100, .inl v_lives)), (h_people, .inl (cy 3, 3, .inr (.inr (.inr (.inr v_people))))), (h_memories, .inl (cy 0, 3, .inl u2_memories))]) C hA hP hD hS mfJ7_fill_53178 t1_35 t2_155 (c_fillI l D cy 3 (by decide) h_purses v_purses 0 _ hF) [2] [0, 1, 3, 4, 5] rfl rfl (by decide) (by decide) (by decide) PO.np rfl hl.1 rfl (Nat.le_of_ble_eq_true rfl) dX9_settle_47 ⟨Nat.le_of_ble_eq_true rfl, Nat.le_of_ble_eq_true rfl⟩ ⟨Nat.le_of_ble_eq_true rfl, Nat.le_of_ble_eq_true rfl⟩ ?_
  rintro ⟨⟩ w1 H locs ⟨u4_purses, rfl, hF⟩ hP hD hS
  have hP : va_P D CL [(h_this, .inr (8, [.ref h_people, .ref h_memories, .ref h_purses, .ref h_lives, .int (bz true), .int (if 3 < p1 then 3 else p1), .int 0, .int (bz false), .int 0, .int 0])), (h_a0, .inl (cy 3, 3, .inr (.inr (.inr (.inr v_a0))))), (h_lives, .inl (cy 0, 100, .inl v_lives)), (h_people, .inl (cy 3, 3, .inr (.inr (.inr (.inr v_people))))), (h_memories, .inl (cy 0, 3, .inl u2_memories)), (h_purses, .inl (cy 0, 3, .inl u4_purses))] H := hP
  have hD : va_D A [(h_this, .inr (8, [.ref h_people, .ref h_memories, .ref h_purses, .ref h_lives, .int (bz true), .int (if 3 < p1 then 3 else p1), .int 0, .int (bz false), .int 0, .int 0])), (h_a0, .inl (cy 3, 3, .inr (.inr (.inr (.inr v_a0))))), (h_lives, .inl (cy 0, 100, .inl v_lives)), (h_people, .inl (cy 3, 3, .inr (.inr (.inr (.inr v_people))))), (h_memories, .inl (cy 0, 3, .inl u2_memories)), (h_purses, .inl (cy 0, 3, .inl u4_purses))] := hD
  refine W.eq (g2 := F0 m 50 ls []) rfl ?_
  refine lv_aload_n hx hb dX9_settle_50 rfl (lv_at hl 0 rfl) ?_
  refine va_get (D := D) (ci := 8) (v := .ref h_lives) (C := RX9) (T := TX9) (N := 10) hx hb hts inTX9 hown hK.1 hP 0 rfl rfl 3 (by decide) (hts _ t1_88) (fun _ h9 => h9) rfl dX9_settle_51 ?_
  refine lv_iconst (v := 0) hx hb dX9_settle_54 (by decide) ?_
  refine cS_t (As := [.ref h_lives, .int 0]) (wr := [(h_this, .inr (8, [.ref h_people, .ref h_memories, .ref h_purses, .ref h_lives, .int (bz true), .int (if 3 < p1 then 3 else p1), .int 0, .int (bz false), .int 0, .int 0])), (h_a0, .inl (cy 3, 3, .inr (.inr (.inr (.inr v_a0))))), (h_people, .inl (cy 3, 3, .inr (.inr (.inr (.inr v_people))))), (h_memories, .inl (cy 0, 3, .inl u2_memories)), (h_purses, .inl (cy 0, 3, .inl u4_purses))]) C hA hP hD hS mfJ7_fill_53178 t1_35 t2_155 (c_fillI l D cy 100 (by decide) h_lives v_lives 0 _ hF) [2] [0, 1, 3, 4, 5] rfl rfl (by decide) (by decide) (by decide) PO.np rfl hl.1 rfl (Nat.le_of_ble_eq_true rfl) dX9_settle_55 ⟨Nat.le_of_ble_eq_true rfl, Nat.le_of_ble_eq_true rfl⟩ ⟨Nat.le_of_ble_eq_true rfl, Nat.le_of_ble_eq_true rfl⟩ ?_
  rintro ⟨⟩ w1 H locs ⟨u6_lives, rfl, hF⟩ hP hD hS
  have hP : va_P D CL [(h_this, .inr (8, [.ref h_people, .ref h_memories, .ref h_purses, .ref h_lives, .int (bz true), .int (if 3 < p1 then 3 else p1), .int 0, .int (bz false), .int 0, .int 0])), (h_a0, .inl (cy 3, 3, .inr (.inr (.inr (.inr v_a0))))), (h_people, .inl (cy 3, 3, .inr (.inr (.inr (.inr v_people))))), (h_memories, .inl (cy 0, 3, .inl u2_memories)), (h_purses, .inl (cy 0, 3, .inl u4_purses)), (h_lives, .inl (cy 0, 100, .inl u6_lives))] H := hP
  have hD : va_D A [(h_this, .inr (8, [.ref h_people, .ref h_memories, .ref h_purses, .ref h_lives, .int (bz true), .int (if 3 < p1 then 3 else p1), .int 0, .int (bz false), .int 0, .int 0])), (h_a0, .inl (cy 3, 3, .inr (.inr (.inr (.inr v_a0))))), (h_people, .inl (cy 3, 3, .inr (.inr (.inr (.inr v_people))))), (h_memories, .inl (cy 0, 3, .inl u2_memories)), (h_purses, .inl (cy 0, 3, .inl u4_purses)), (h_lives, .inl (cy 0, 100, .inl u6_lives))] := hD
  refine W.eq (g2 := F0 m 58 ls []) rfl ?_
  refine lv_iconst (v := 0) hx hb dX9_settle_58 (by decide) ?_
  refine lv_istore_n (lv' := [(3, .int 0), (0, .ref h_this), (1, .ref h_a0), (2, .int p1)]) hx hb dX9_settle_59 rfl hl (by decide) rfl (fun ls hl => ?_)
  exact L_60 fu 0 true (if 3 < p1 then 3 else p1) 0 false 0 0 u2_memories u4_purses u6_lives v_people _ _ ls  (hP.sub [0, 1, 3, 4, 5, 2] rfl) (hD.sub [0, 1, 3, 4, 5, 2] (by decide) rfl) hS (lv_sub hl [1, 2, 0] rfl) hF
