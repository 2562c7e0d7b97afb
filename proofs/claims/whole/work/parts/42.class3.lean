def wpX11_kind (p0 : Int32) (v_now_size : Int32) (v_now_people : Nat → Option Nat) (pe : Pe) (post : Int32 → Prop) : Prop := wpX9_personAt p0 v_now_size v_now_people pe (fun r1 => (r1 = none → (post (-1000001))) ∧ (∀ a2 : Nat, r1 = some a2 → a2 ∈ pe.1 ∧ (wv_ownKind (pe.2 a2) (fun r3 => post r3))))
abbrev miX11_kind : MI := (yX11_kind, cX11_kind, 3, (some .int))
theorem mfX11_kind : MF miX11_kind 1 := ⟨t4_5, t1_1, by decide +kernel⟩
abbrev rmX11_kind : Room := { frames := 1, cells := 0, slots := 0, locals := 21 }
set_option maxHeartbeats 4000000 in
set_option maxRecDepth 100000 in
theorem ccX11_kind (l : Launch) (D : va_G) (cy : Nat → ClassId) (pe : Pe) (h_this : Nat) (h_now : Nat) (h_now_people : Nat) (x_rows : Value) (x_tape : Value) (x_guess : Value) (x_images : Value) (x_foretelling : Value) (x_asked : Value) (x_acts : Value) (x_now_memories : Value) (x_now_purses : Value) (x_now_lives : Value) (v_nextAct : Int32) (v_keptActs : Int32) (v_latestFault : Int32) (v_latestFinding : Int32) (v_now_there : Bool) (v_now_size : Int32) (v_now_date : Int32) (v_now_evening : Bool) (v_now_well : Int32) (v_now_rights : Int32) (v_now_people : Nat → Option Nat) (p0 : Int32) (post : Int32 → Prop) (hF : wpX11_kind p0 v_now_size v_now_people pe post) : Cr l D cy miX11_kind rmX11_kind emI pe [.ref h_this, .int p0] [(h_this, .inr (10, [x_rows, x_tape, .ref h_now, x_guess, x_images, x_foretelling, x_asked, x_acts, .int v_nextAct, .int v_keptActs, .int v_latestFault, .int v_latestFinding])), (h_now, .inr (8, [.ref h_now_people, x_now_memories, x_now_purses, x_now_lives, .int (bz v_now_there), .int v_now_size, .int v_now_date, .int (bz v_now_evening), .int v_now_well, .int v_now_rights])), (h_now_people, .inl (cy 3, 3, .inr (.inr (.inr (.inr v_now_people)))))] post := by
  refine Cr.of (by decide) (Nat.le_of_ble_eq_true rfl) ?_
  intro p e s m args below meth c ls Q C hQ hO hP hl
  obtain ⟨hx, hb, hr, hml, hown, hts, hK, hlk, hnm⟩ := id C
  have hb : c.code = cX11_kind := hb
  have hml : c.maxLocals = 3 := hml
  have hown : s.vm.findClass RX11 = some m.cls := hown
  have hl : lv_has ls 3 [(0, .ref h_this), (1, .int p0)] := hl
  unfold wpX11_kind at hF
  refine lv_aload_n hx hb dX11_kind_0 rfl (lv_at hl 0 rfl) ?_
  refine va_get (D := D) (ci := 10) (v := .ref h_now) (C := RX11) (T := TX11) (N := 12) hx hb hts inTX11 hown hK.1 hP 0 rfl rfl 2 (by decide) (hts _ t1_179) (fun _ h9 => h9) rfl dX11_kind_1 ?_
  refine lv_iload_n hx hb dX11_kind_4 rfl (lv_at hl 1 rfl) ?_
  refine cV_r (As := [.int p0]) C mfX9_personAt t2_227 t2_228 t2_226 (ccX9_personAt l D cy pe h_now h_now_people x_now_memories x_now_purses x_now_lives v_now_there v_now_size v_now_date v_now_evening v_now_well v_now_rights v_now_people p0 _ hF) rfl rfl (hP.sub [1, 2] rfl) hO hP 1 8 rfl rfl rfl rfl hl.1 rfl (Nat.le_of_ble_eq_true rfl) dX11_kind_5 ⟨Nat.le_of_ble_eq_true rfl, Nat.le_of_ble_eq_true rfl⟩ ⟨Nat.le_of_ble_eq_true rfl, Nat.le_of_ble_eq_true rfl⟩ ?_
  intro r1 hF
  rcases r1 with _ | a2
  · have hF := hF.1 rfl
    refine lv_astore_nN (lv' := [(2, .null), (0, .ref h_this), (1, .int p0)]) hx hb dX11_kind_8 rfl hl (by decide) rfl (fun ls hl => ?_)
    refine lv_aload_nN hx hb dX11_kind_9 rfl (lv_at hl 0 rfl) ?_
    refine lv_ifnonnullN hx hb dX11_kind_10 ?_
    refine lv_ldc hx hb hown (hts _ t1_221) dX11_kind_13 ?_
    refine lv_goto (tgt := 22) hx hb dX11_kind_15 (by decide) ?_
    exact rr_i C hQ rfl hF dX11_kind_22
  · obtain ⟨ha_a2, hF⟩ := hF.2 a2 rfl
    refine lv_astore_n (lv' := [(2, .ref a2), (0, .ref h_this), (1, .int p0)]) hx hb dX11_kind_8 rfl hl (by decide) rfl (fun ls hl => ?_)
    refine lv_aload_n hx hb dX11_kind_9 rfl (lv_at hl 0 rfl) ?_
    refine lv_ifnonnull (tgt := 18) hx hb dX11_kind_10 (by decide) ?_
    refine lv_aload_n hx hb dX11_kind_18 rfl (lv_at hl 0 rfl) ?_
    refine pv_ownKind C hO ha_a2 t4_6 hl.1 (Nat.le_of_ble_eq_true rfl) dX11_kind_19 ⟨Nat.le_of_ble_eq_true rfl, Nat.le_of_ble_eq_true rfl⟩ ⟨Nat.le_of_ble_eq_true rfl, Nat.le_of_ble_eq_true rfl⟩ hF rfl ?_
    intro r3 hF
    refine W.eq (g2 := F0 m 22 ls [.int r3]) rfl ?_
    exact rr_i C hQ rfl hF dX11_kind_22

def wpX11_isOfKind (p0 : PT) (p1 : Int32) (pe : Pe) (post : Bool → Prop) : Prop := (p1 = 0 → (post true)) ∧ (¬ p1 = 0 → ((p1 = 1 → (post (iF p0.1))) ∧ (¬ p1 = 1 → ((p1 = 2 → (post (iG p0.1))) ∧ (¬ p1 = 2 → ((p1 = 3 → (post (iS p0.1))) ∧ (¬ p1 = 3 → ((p1 = 4 → (post (iW p0.1))) ∧ (¬ p1 = 4 → (post (iX p0.1)))))))))))
abbrev miX11_isOfKind : MI := (yX11_isOfKind, cX11_isOfKind, 2, (some .boolean))
theorem mfX11_isOfKind : MF miX11_isOfKind 2 := ⟨t4_30, t1_1, by decide +kernel⟩
abbrev rmX11_isOfKind : Room := { frames := 0, cells := 0, slots := 0, locals := 0 }
set_option maxHeartbeats 4000000 in
set_option maxRecDepth 100000 in
theorem ccX11_isOfKind (l : Launch) (D : va_G) (cy : Nat → ClassId) (pe : Pe) (p0 : Nat) (ha_p0 : p0 ∈ pe.1) (p1 : Int32) (post : Bool → Prop) (hF : wpX11_isOfKind (pe.2 p0) p1 pe post) : Cr l D cy miX11_isOfKind rmX11_isOfKind emB pe [.ref p0, .int p1] [] post := by
  refine Cr.of (by decide) (Nat.le_of_ble_eq_true rfl) ?_
  intro p e s m args below meth c ls Q C hQ hO hP hl
  obtain ⟨hx, hb, hr, hml, hown, hts, hK, hlk, hnm⟩ := id C
  have hb : c.code = cX11_isOfKind := hb
  have hml : c.maxLocals = 2 := hml
  have hown : s.vm.findClass RX11 = some m.cls := hown
  have hl : lv_has ls 2 [(0, .ref p0), (1, .int p1)] := hl
  unfold wpX11_isOfKind at hF
  refine lv_iload_n hx hb dX11_isOfKind_0 rfl (lv_at hl 1 rfl) ?_
  by_cases cs_0 : p1 = 0
  · have hF := hF.1 cs_0
    refine lv_tableIn (tgt := 36) hx hb dX11_isOfKind_1 (by rw [cs_0]; decide) (by rw [cs_0]; decide) (by rw [cs_0]; rfl) (by decide) ?_
    refine lv_iconst (v := 1) hx hb dX11_isOfKind_36 (by decide) ?_
    refine W.eq (g2 := F0 m 37 ls [.int (bz true)]) rfl ?_
    exact rr_b C hQ rfl hF dX11_isOfKind_37
  · have hF := hF.2 cs_0
    by_cases cs_1 : p1 = 1
    · have hF := hF.1 cs_1
      refine lv_tableIn (tgt := 38) hx hb dX11_isOfKind_1 (by rw [cs_1]; decide) (by rw [cs_1]; decide) (by rw [cs_1]; rfl) (by decide) ?_
      refine lv_aload_n hx hb dX11_isOfKind_38 rfl (lv_at hl 0 rfl) ?_
      refine pe_iF C hO ha_p0 t4_31 dX11_isOfKind_39 ?_
      exact rr_b C hQ rfl hF dX11_isOfKind_42
    · have hF := hF.2 cs_1
      by_cases cs_2 : p1 = 2
      · have hF := hF.1 cs_2
        refine lv_tableIn (tgt := 43) hx hb dX11_isOfKind_1 (by rw [cs_2]; decide) (by rw [cs_2]; decide) (by rw [cs_2]; rfl) (by decide) ?_
        refine lv_aload_n hx hb dX11_isOfKind_43 rfl (lv_at hl 0 rfl) ?_
        refine pe_iG C hO ha_p0 t4_32 dX11_isOfKind_44 ?_
        exact rr_b C hQ rfl hF dX11_isOfKind_47
      · have hF := hF.2 cs_2
        by_cases cs_3 : p1 = 3
        · have hF := hF.1 cs_3
          refine lv_tableIn (tgt := 48) hx hb dX11_isOfKind_1 (by rw [cs_3]; decide) (by rw [cs_3]; decide) (by rw [cs_3]; rfl) (by decide) ?_
          refine lv_aload_n hx hb dX11_isOfKind_48 rfl (lv_at hl 0 rfl) ?_
          refine pe_iS C hO ha_p0 t4_33 dX11_isOfKind_49 ?_
          exact rr_b C hQ rfl hF dX11_isOfKind_52
        · have hF := hF.2 cs_3
          by_cases cs_4 : p1 = 4
          · have hF := hF.1 cs_4
            refine lv_tableIn (tgt := 53) hx hb dX11_isOfKind_1 (by rw [cs_4]; decide) (by rw [cs_4]; decide) (by rw [cs_4]; rfl) (by decide) ?_
            refine lv_aload_n hx hb dX11_isOfKind_53 rfl (lv_at hl 0 rfl) ?_
            refine pe_iW C hO ha_p0 t4_34 dX11_isOfKind_54 ?_
            exact rr_b C hQ rfl hF dX11_isOfKind_57
          · have hF := hF.2 cs_4
            refine lv_tableOut (tgt := 58) hx hb dX11_isOfKind_1 (sw_out (x := p1) 5 (by decide) (fun k9 h9 => match k9, h9 with | 0, _ => cs_0 | 1, _ => cs_1 | 2, _ => cs_2 | 3, _ => cs_3 | 4, _ => cs_4 | k9 + 5, h9 => absurd h9 (by omega))) (by decide) ?_
            refine lv_aload_n hx hb dX11_isOfKind_58 rfl (lv_at hl 0 rfl) ?_
            refine pe_iX C hO ha_p0 t4_35 dX11_isOfKind_59 ?_
            exact rr_b C hQ rfl hF dX11_isOfKind_62

def wpX11_as (p0 : Int32) (p1 : Int32) (v_latestFinding : Int32) (v_now_size : Int32) (v_now_people : Nat → Option Nat) (pe : Pe) (post : Int32 → Int32 → Prop) : Prop := wpX9_personAt p0 v_now_size v_now_people pe (fun r1 => (r1 = none → (post (-1000001) v_latestFinding)) ∧ (∀ a2 : Nat, r1 = some a2 → a2 ∈ pe.1 ∧ ((p1 < 0 → (post (-1000001) v_latestFinding)) ∧ (¬ p1 < 0 → ((p1 ≤ 5 → (wpX11_isOfKind (pe.2 a2) p1 pe (fun r3 => (r3 = false → (wpX11_found 3 v_latestFinding (fun r4 u5_latestFinding => post r4 u5_latestFinding))) ∧ (r3 = true → (wpX11_answered p0 v_latestFinding (fun r6 u7_latestFinding => post r6 u7_latestFinding)))))) ∧ (¬ p1 ≤ 5 → (post (-1000001) v_latestFinding)))))))
abbrev miX11_as : MI := (yX11_as, cX11_as, 4, (some .int))
theorem mfX11_as : MF miX11_as 2 := ⟨t4_27, t1_1, by decide +kernel⟩
abbrev rmX11_as : Room := { frames := 1, cells := 0, slots := 0, locals := 21 }
set_option maxHeartbeats 4000000 in
set_option maxRecDepth 100000 in
theorem ccX11_as (l : Launch) (D : va_G) (cy : Nat → ClassId) (pe : Pe) (h_this : Nat) (h_now : Nat) (h_now_people : Nat) (x_rows : Value) (x_tape : Value) (x_guess : Value) (x_images : Value) (x_foretelling : Value) (x_asked : Value) (x_acts : Value) (x_now_memories : Value) (x_now_purses : Value) (x_now_lives : Value) (v_nextAct : Int32) (v_keptActs : Int32) (v_latestFault : Int32) (v_latestFinding : Int32) (v_now_there : Bool) (v_now_size : Int32) (v_now_date : Int32) (v_now_evening : Bool) (v_now_well : Int32) (v_now_rights : Int32) (v_now_people : Nat → Option Nat) (p0 : Int32) (p1 : Int32) (post : Int32 → Int32 → Prop) (hF : wpX11_as p0 p1 v_latestFinding v_now_size v_now_people pe post) : Ct l D cy miX11_as rmX11_as emI pe [.ref h_this, .int p0, .int p1] [(h_this, .inr (10, [x_rows, x_tape, .ref h_now, x_guess, x_images, x_foretelling, x_asked, x_acts, .int v_nextAct, .int v_keptActs, .int v_latestFault, .int v_latestFinding])), (h_now, .inr (8, [.ref h_now_people, x_now_memories, x_now_purses, x_now_lives, .int (bz v_now_there), .int v_now_size, .int v_now_date, .int (bz v_now_evening), .int v_now_well, .int v_now_rights])), (h_now_people, .inl (cy 3, 3, .inr (.inr (.inr (.inr v_now_people)))))] (fun r w1 => ∃ (w_latestFinding : Int32), w1 = [(h_this, .inr (10, [x_rows, x_tape, .ref h_now, x_guess, x_images, x_foretelling, x_asked, x_acts, .int v_nextAct, .int v_keptActs, .int v_latestFault, .int w_latestFinding])), (h_now, .inr (8, [.ref h_now_people, x_now_memories, x_now_purses, x_now_lives, .int (bz v_now_there), .int v_now_size, .int v_now_date, .int (bz v_now_evening), .int v_now_well, .int v_now_rights])), (h_now_people, .inl (cy 3, 3, .inr (.inr (.inr (.inr v_now_people)))))] ∧ post r w_latestFinding) := by
  refine Ct.of (by decide) (Nat.le_of_ble_eq_true rfl) ?_
  intro p e s m args below meth c A ls Q C hQ hA hI hP hD hS hl
  obtain ⟨hx, hb, hr, hml, hown, hts, hK, hlk, hnm⟩ := id C
  have hb : c.code = cX11_as := hb
  have hml : c.maxLocals = 4 := hml
  have hown : s.vm.findClass RX11 = some m.cls := hown
  have hl : lv_has ls 4 [(0, .ref h_this), (1, .int p0), (2, .int p1)] := hl
  unfold wpX11_as at hF
  refine lv_aload_n hx hb dX11_as_0 rfl (lv_at hl 0 rfl) ?_
  refine va_get (D := D) (ci := 10) (v := .ref h_now) (C := RX11) (T := TX11) (N := 12) hx hb hts inTX11 hown hK.1 hP 0 rfl rfl 2 (by decide) (hts _ t1_179) (fun _ h9 => h9) rfl dX11_as_1 ?_
  refine lv_iload_n hx hb dX11_as_4 rfl (lv_at hl 1 rfl) ?_
  refine cV_r (As := [.int p0]) C mfX9_personAt t2_227 t2_228 t2_226 (ccX9_personAt l D cy pe h_now h_now_people x_now_memories x_now_purses x_now_lives v_now_there v_now_size v_now_date v_now_evening v_now_well v_now_rights v_now_people p0 _ hF) rfl rfl (hP.sub [1, 2] rfl) (hI.at hS) hP 1 8 rfl rfl rfl rfl hl.1 rfl (Nat.le_of_ble_eq_true rfl) dX11_as_5 ⟨Nat.le_of_ble_eq_true rfl, Nat.le_of_ble_eq_true rfl⟩ ⟨Nat.le_of_ble_eq_true rfl, Nat.le_of_ble_eq_true rfl⟩ ?_
  intro r1 hF
  rcases r1 with _ | a2
  · have hF := hF.1 rfl
    refine lv_astore_nN (lv' := [(3, .null), (0, .ref h_this), (1, .int p0), (2, .int p1)]) hx hb dX11_as_8 rfl hl (by decide) rfl (fun ls hl => ?_)
    refine lv_aload_nN hx hb dX11_as_9 rfl (lv_at hl 0 rfl) ?_
    refine lv_ifnullN (tgt := 22) hx hb dX11_as_10 (by decide) ?_
    refine lv_ldc hx hb hown (hts _ t1_221) dX11_as_22 ?_
    exact rt_i C hQ rfl hP hD hS ⟨v_latestFinding, rfl, hF⟩ dX11_as_24
  · obtain ⟨ha_a2, hF⟩ := hF.2 a2 rfl
    refine lv_astore_n (lv' := [(3, .ref a2), (0, .ref h_this), (1, .int p0), (2, .int p1)]) hx hb dX11_as_8 rfl hl (by decide) rfl (fun ls hl => ?_)
    refine lv_aload_n hx hb dX11_as_9 rfl (lv_at hl 0 rfl) ?_
    refine lv_ifnull hx hb dX11_as_10 ?_
    refine lv_iload_n hx hb dX11_as_13 rfl (lv_at hl 3 rfl) ?_
    refine lv_if_lt (tgt := 22) hx hb dX11_as_14 (by decide) (fun c_ => ?_) (fun c_ => ?_)
    · have hF := hF.1 c_
      refine lv_ldc hx hb hown (hts _ t1_221) dX11_as_22 ?_
      exact rt_i C hQ rfl hP hD hS ⟨v_latestFinding, rfl, hF⟩ dX11_as_24
    · have hF := hF.2 c_
      refine lv_iload_n hx hb dX11_as_17 rfl (lv_at hl 3 rfl) ?_
      refine lv_iconst (v := 5) hx hb dX11_as_18 (by decide) ?_
      refine lv_icmp_le (tgt := 25) hx hb dX11_as_19 (by decide) (fun c_ => ?_) (fun c_ => ?_)
      · have hF := hF.1 c_
        refine lv_aload_n hx hb dX11_as_25 rfl (lv_at hl 0 rfl) ?_
        refine lv_iload_n hx hb dX11_as_26 rfl (lv_at hl 3 rfl) ?_
        refine cS_r (As := [.ref a2, .int p1]) C mfX11_isOfKind t4_29 t4_28 (ccX11_isOfKind l D cy pe a2 ha_a2 p1 _ hF) rfl rfl (hP.sub [] rfl) (hI.at hS) rfl hl.1 rfl (Nat.le_of_ble_eq_true rfl) dX11_as_27 ⟨Nat.le_of_ble_eq_true rfl, Nat.le_of_ble_eq_true rfl⟩ ⟨Nat.le_of_ble_eq_true rfl, Nat.le_of_ble_eq_true rfl⟩ ?_
        intro r3 hF
        refine W.eq (g2 := F0 m 30 ls [.int (bz r3)]) rfl ?_
        refine lv_if_eq (tgt := 41) hx hb dX11_as_30 (by decide) (fun c_ => ?_) (fun c_ => ?_)
        · have hF := hF.1 ((bz_0 _).mp c_)
          refine lv_aload_n hx hb dX11_as_41 rfl (lv_at hl 1 rfl) ?_
          refine lv_iconst (v := 3) hx hb dX11_as_42 (by decide) ?_
          refine cV_t (As := [.int 3]) (wr := [(h_now, .inr (8, [.ref h_now_people, x_now_memories, x_now_purses, x_now_lives, .int (bz v_now_there), .int v_now_size, .int v_now_date, .int (bz v_now_evening), .int v_now_well, .int v_now_rights])), (h_now_people, .inl (cy 3, 3, .inr (.inr (.inr (.inr v_now_people)))))]) C hA hP hD hS mfX11_found t1_224 ts_0 t1_222 (ccX11_found l D cy h_this x_rows x_tape (.ref h_now) x_guess x_images x_foretelling x_asked x_acts v_nextAct v_keptActs v_latestFault v_latestFinding 3 _ hF) [0] [1, 2] rfl rfl (by decide) (by decide) (by decide) PO.np 0 10 rfl rfl rfl rfl hl.1 rfl (Nat.le_of_ble_eq_true rfl) dX11_as_43 ⟨Nat.le_of_ble_eq_true rfl, Nat.le_of_ble_eq_true rfl⟩ ⟨Nat.le_of_ble_eq_true rfl, Nat.le_of_ble_eq_true rfl⟩ ?_
          rintro r4 w1 H locs ⟨u5_latestFinding, rfl, hF⟩ hP hD hS
          have hP : va_P D CL [(h_now, .inr (8, [.ref h_now_people, x_now_memories, x_now_purses, x_now_lives, .int (bz v_now_there), .int v_now_size, .int v_now_date, .int (bz v_now_evening), .int v_now_well, .int v_now_rights])), (h_now_people, .inl (cy 3, 3, .inr (.inr (.inr (.inr v_now_people))))), (h_this, .inr (10, [x_rows, x_tape, .ref h_now, x_guess, x_images, x_foretelling, x_asked, x_acts, .int v_nextAct, .int v_keptActs, .int v_latestFault, .int u5_latestFinding]))] H := hP
          have hD : va_D A [(h_now, .inr (8, [.ref h_now_people, x_now_memories, x_now_purses, x_now_lives, .int (bz v_now_there), .int v_now_size, .int v_now_date, .int (bz v_now_evening), .int v_now_well, .int v_now_rights])), (h_now_people, .inl (cy 3, 3, .inr (.inr (.inr (.inr v_now_people))))), (h_this, .inr (10, [x_rows, x_tape, .ref h_now, x_guess, x_images, x_foretelling, x_asked, x_acts, .int v_nextAct, .int v_keptActs, .int v_latestFault, .int u5_latestFinding]))] := hD
          refine W.eq (g2 := F0 m 46 ls [.int r4]) rfl ?_
          have hP : va_P D CL [(h_this, .inr (10, [x_rows, x_tape, .ref h_now, x_guess, x_images, x_foretelling, x_asked, x_acts, .int v_nextAct, .int v_keptActs, .int v_latestFault, .int u5_latestFinding])), (h_now, .inr (8, [.ref h_now_people, x_now_memories, x_now_purses, x_now_lives, .int (bz v_now_there), .int v_now_size, .int v_now_date, .int (bz v_now_evening), .int v_now_well, .int v_now_rights])), (h_now_people, .inl (cy 3, 3, .inr (.inr (.inr (.inr v_now_people)))))] H := (hP.sub [2, 0, 1] rfl)
          have hD : va_D A [(h_this, .inr (10, [x_rows, x_tape, .ref h_now, x_guess, x_images, x_foretelling, x_asked, x_acts, .int v_nextAct, .int v_keptActs, .int v_latestFault, .int u5_latestFinding])), (h_now, .inr (8, [.ref h_now_people, x_now_memories, x_now_purses, x_now_lives, .int (bz v_now_there), .int v_now_size, .int v_now_date, .int (bz v_now_evening), .int v_now_well, .int v_now_rights])), (h_now_people, .inl (cy 3, 3, .inr (.inr (.inr (.inr v_now_people)))))] := (hD.sub [2, 0, 1] (by decide) rfl)
          exact rt_i C hQ rfl hP hD hS ⟨u5_latestFinding, rfl, hF⟩ dX11_as_46
        · have hF := hF.2 ((bz_1 _).mp c_)
          refine lv_aload_n hx hb dX11_as_33 rfl (lv_at hl 1 rfl) ?_
          refine lv_iload_n hx hb dX11_as_34 rfl (lv_at hl 2 rfl) ?_
          refine cV_t (As := [.int p0]) (wr := [(h_now, .inr (8, [.ref h_now_people, x_now_memories, x_now_purses, x_now_lives, .int (bz v_now_there), .int v_now_size, .int v_now_date, .int (bz v_now_evening), .int v_now_well, .int v_now_rights])), (h_now_people, .inl (cy 3, 3, .inr (.inr (.inr (.inr v_now_people)))))]) C hA hP hD hS mfX11_answered t1_233 ts_1 t1_231 (ccX11_answered l D cy h_this x_rows x_tape (.ref h_now) x_guess x_images x_foretelling x_asked x_acts v_nextAct v_keptActs v_latestFault v_latestFinding p0 _ hF) [0] [1, 2] rfl rfl (by decide) (by decide) (by decide) PO.np 0 10 rfl rfl rfl rfl hl.1 rfl (Nat.le_of_ble_eq_true rfl) dX11_as_35 ⟨Nat.le_of_ble_eq_true rfl, Nat.le_of_ble_eq_true rfl⟩ ⟨Nat.le_of_ble_eq_true rfl, Nat.le_of_ble_eq_true rfl⟩ ?_
          rintro r6 w1 H locs ⟨u7_latestFinding, rfl, hF⟩ hP hD hS
          have hP : va_P D CL [(h_now, .inr (8, [.ref h_now_people, x_now_memories, x_now_purses, x_now_lives, .int (bz v_now_there), .int v_now_size, .int v_now_date, .int (bz v_now_evening), .int v_now_well, .int v_now_rights])), (h_now_people, .inl (cy 3, 3, .inr (.inr (.inr (.inr v_now_people))))), (h_this, .inr (10, [x_rows, x_tape, .ref h_now, x_guess, x_images, x_foretelling, x_asked, x_acts, .int v_nextAct, .int v_keptActs, .int v_latestFault, .int u7_latestFinding]))] H := hP
          have hD : va_D A [(h_now, .inr (8, [.ref h_now_people, x_now_memories, x_now_purses, x_now_lives, .int (bz v_now_there), .int v_now_size, .int v_now_date, .int (bz v_now_evening), .int v_now_well, .int v_now_rights])), (h_now_people, .inl (cy 3, 3, .inr (.inr (.inr (.inr v_now_people))))), (h_this, .inr (10, [x_rows, x_tape, .ref h_now, x_guess, x_images, x_foretelling, x_asked, x_acts, .int v_nextAct, .int v_keptActs, .int v_latestFault, .int u7_latestFinding]))] := hD
          refine W.eq (g2 := F0 m 38 ls [.int r6]) rfl ?_
          refine lv_goto (tgt := 46) hx hb dX11_as_38 (by decide) ?_
          have hP : va_P D CL [(h_this, .inr (10, [x_rows, x_tape, .ref h_now, x_guess, x_images, x_foretelling, x_asked, x_acts, .int v_nextAct, .int v_keptActs, .int v_latestFault, .int u7_latestFinding])), (h_now, .inr (8, [.ref h_now_people, x_now_memories, x_now_purses, x_now_lives, .int (bz v_now_there), .int v_now_size, .int v_now_date, .int (bz v_now_evening), .int v_now_well, .int v_now_rights])), (h_now_people, .inl (cy 3, 3, .inr (.inr (.inr (.inr v_now_people)))))] H := (hP.sub [2, 0, 1] rfl)
          have hD : va_D A [(h_this, .inr (10, [x_rows, x_tape, .ref h_now, x_guess, x_images, x_foretelling, x_asked, x_acts, .int v_nextAct, .int v_keptActs, .int v_latestFault, .int u7_latestFinding])), (h_now, .inr (8, [.ref h_now_people, x_now_memories, x_now_purses, x_now_lives, .int (bz v_now_there), .int v_now_size, .int v_now_date, .int (bz v_now_evening), .int v_now_well, .int v_now_rights])), (h_now_people, .inl (cy 3, 3, .inr (.inr (.inr (.inr v_now_people)))))] := (hD.sub [2, 0, 1] (by decide) rfl)
          exact rt_i C hQ rfl hP hD hS ⟨u7_latestFinding, rfl, hF⟩ dX11_as_46
      · have hF := hF.2 c_
        refine lv_ldc hx hb hown (hts _ t1_221) dX11_as_22 ?_
        exact rt_i C hQ rfl hP hD hS ⟨v_latestFinding, rfl, hF⟩ dX11_as_24

def wpX11_ask (p0 : Int32) (p1 : Int32) (v_now_size : Int32) (v_now_people : Nat → Option Nat) (v_asked_left : Int32) (v_asked_purse : Int32) (v_asked_memory : Int32) (v_now_purses : Nat → Int32) (v_now_memories : Nat → Int32) (v_asked_numbers : Nat → Int32) (pe : Pe) (post : Int32 → Int32 → Int32 → Int32 → (Nat → Int32) → Prop) : Prop := wpX9_personAt p0 v_now_size v_now_people pe (fun r1 => (r1 = none → (post (-1000001) v_asked_left v_asked_purse v_asked_memory v_asked_numbers)) ∧ (∀ a2 : Nat, r1 = some a2 → a2 ∈ pe.1 ∧ ((p1 < 0 → (post (-1000001) v_asked_left v_asked_purse v_asked_memory v_asked_numbers)) ∧ (¬ p1 < 0 → ((p1 ≤ 1 → (vp_in p0 3 ∧ (vp_in p0 3 ∧ (wpX8_begin (v_now_purses ((p0).toNatClampNeg)) (v_now_memories ((p0).toNatClampNeg)) v_asked_left v_asked_purse v_asked_memory (fun _ u6_asked_left u7_asked_purse u8_asked_memory => (¬ p1 = 0 → (wv_markBy u6_asked_left u7_asked_purse u8_asked_memory v_asked_numbers (pe.2 a2) (fun r9 u10_asked_left u11_asked_numbers => post r9 u10_asked_left u7_asked_purse u8_asked_memory u11_asked_numbers))) ∧ (p1 = 0 → (wv_sizeBy u6_asked_left u7_asked_purse u8_asked_memory v_asked_numbers (pe.2 a2) (fun r12 u13_asked_left u14_asked_numbers => post r12 u13_asked_left u7_asked_purse u8_asked_memory u14_asked_numbers)))))))) ∧ (¬ p1 ≤ 1 → (post (-1000001) v_asked_left v_asked_purse v_asked_memory v_asked_numbers)))))))
abbrev miX11_ask : MI := (yX11_ask, cX11_ask, 4, (some .int))
theorem mfX11_ask : MF miX11_ask 2 := ⟨t4_39, t1_1, by decide +kernel⟩
abbrev rmX11_ask : Room := { frames := 6, cells := 0, slots := 0, locals := 127 }
set_option maxHeartbeats 4000000 in
set_option maxRecDepth 100000 in
theorem ccX11_ask (l : Launch) (D : va_G) (cy : Nat → ClassId) (pe : Pe) (h_this : Nat) (h_now : Nat) (h_now_people : Nat) (h_asked : Nat) (h_now_purses : Nat) (h_now_memories : Nat) (h_asked_numbers : Nat) (x_rows : Value) (x_tape : Value) (x_guess : Value) (x_images : Value) (x_foretelling : Value) (x_acts : Value) (x_now_lives : Value) (v_nextAct : Int32) (v_keptActs : Int32) (v_latestFault : Int32) (v_latestFinding : Int32) (v_now_there : Bool) (v_now_size : Int32) (v_now_date : Int32) (v_now_evening : Bool) (v_now_well : Int32) (v_now_rights : Int32) (v_now_people : Nat → Option Nat) (v_asked_left : Int32) (v_asked_purse : Int32) (v_asked_memory : Int32) (v_now_purses : Nat → Int32) (v_now_memories : Nat → Int32) (v_asked_numbers : Nat → Int32) (p0 : Int32) (p1 : Int32) (post : Int32 → Int32 → Int32 → Int32 → (Nat → Int32) → Prop) (hF : wpX11_ask p0 p1 v_now_size v_now_people v_asked_left v_asked_purse v_asked_memory v_now_purses v_now_memories v_asked_numbers pe post) : Ct l D cy miX11_ask rmX11_ask emI pe [.ref h_this, .int p0, .int p1] [(h_this, .inr (10, [x_rows, x_tape, .ref h_now, x_guess, x_images, x_foretelling, .ref h_asked, x_acts, .int v_nextAct, .int v_keptActs, .int v_latestFault, .int v_latestFinding])), (h_now, .inr (8, [.ref h_now_people, .ref h_now_memories, .ref h_now_purses, x_now_lives, .int (bz v_now_there), .int v_now_size, .int v_now_date, .int (bz v_now_evening), .int v_now_well, .int v_now_rights])), (h_now_people, .inl (cy 3, 3, .inr (.inr (.inr (.inr v_now_people))))), (h_asked, .inr (7, [.ref h_asked_numbers, .int v_asked_left, .int v_asked_purse, .int v_asked_memory])), (h_now_purses, .inl (cy 0, 3, .inl v_now_purses)), (h_now_memories, .inl (cy 0, 3, .inl v_now_memories)), (h_asked_numbers, .inl (cy 0, 16, .inl v_asked_numbers))] (fun r w1 => ∃ (w_asked_left : Int32) (w_asked_purse : Int32) (w_asked_memory : Int32) (w_asked_numbers : Nat → Int32), w1 = [(h_this, .inr (10, [x_rows, x_tape, .ref h_now, x_guess, x_images, x_foretelling, .ref h_asked, x_acts, .int v_nextAct, .int v_keptActs, .int v_latestFault, .int v_latestFinding])), (h_now, .inr (8, [.ref h_now_people, .ref h_now_memories, .ref h_now_purses, x_now_lives, .int (bz v_now_there), .int v_now_size, .int v_now_date, .int (bz v_now_evening), .int v_now_well, .int v_now_rights])), (h_now_people, .inl (cy 3, 3, .inr (.inr (.inr (.inr v_now_people))))), (h_asked, .inr (7, [.ref h_asked_numbers, .int w_asked_left, .int w_asked_purse, .int w_asked_memory])), (h_now_purses, .inl (cy 0, 3, .inl v_now_purses)), (h_now_memories, .inl (cy 0, 3, .inl v_now_memories)), (h_asked_numbers, .inl (cy 0, 16, .inl w_asked_numbers))] ∧ post r w_asked_left w_asked_purse w_asked_memory w_asked_numbers) := by
  refine Ct.of (by decide) (Nat.le_of_ble_eq_true rfl) ?_
  intro p e s m args below meth c A ls Q C hQ hA hI hP hD hS hl
  obtain ⟨hx, hb, hr, hml, hown, hts, hK, hlk, hnm⟩ := id C
  have hb : c.code = cX11_ask := hb
  have hml : c.maxLocals = 4 := hml
  have hown : s.vm.findClass RX11 = some m.cls := hown
  have hl : lv_has ls 4 [(0, .ref h_this), (1, .int p0), (2, .int p1)] := hl
  unfold wpX11_ask at hF
  refine lv_aload_n hx hb dX11_ask_0 rfl (lv_at hl 0 rfl) ?_
  refine va_get (D := D) (ci := 10) (v := .ref h_now) (C := RX11) (T := TX11) (N := 12) hx hb hts inTX11 hown hK.1 hP 0 rfl rfl 2 (by decide) (hts _ t1_179) (fun _ h9 => h9) rfl dX11_ask_1 ?_
  refine lv_iload_n hx hb dX11_ask_4 rfl (lv_at hl 1 rfl) ?_
  refine cV_r (As := [.int p0]) C mfX9_personAt t2_227 t2_228 t2_226 (ccX9_personAt l D cy pe h_now h_now_people (.ref h_now_memories) (.ref h_now_purses) x_now_lives v_now_there v_now_size v_now_date v_now_evening v_now_well v_now_rights v_now_people p0 _ hF) rfl rfl (hP.sub [1, 2] rfl) (hI.at hS) hP 1 8 rfl rfl rfl rfl hl.1 rfl (Nat.le_of_ble_eq_true rfl) dX11_ask_5 ⟨Nat.le_of_ble_eq_true rfl, Nat.le_of_ble_eq_true rfl⟩ ⟨Nat.le_of_ble_eq_true rfl, Nat.le_of_ble_eq_true rfl⟩ ?_
  intro r1 hF
  rcases r1 with _ | a2
  · have hF := hF.1 rfl
    refine lv_astore_nN (lv' := [(3, .null), (0, .ref h_this), (1, .int p0), (2, .int p1)]) hx hb dX11_ask_8 rfl hl (by decide) rfl (fun ls hl => ?_)
    refine lv_aload_nN hx hb dX11_ask_9 rfl (lv_at hl 0 rfl) ?_
    refine lv_ifnullN (tgt := 22) hx hb dX11_ask_10 (by decide) ?_
    refine lv_ldc hx hb hown (hts _ t1_221) dX11_ask_22 ?_
    exact rt_i C hQ rfl hP hD hS ⟨v_asked_left, v_asked_purse, v_asked_memory, v_asked_numbers, rfl, hF⟩ dX11_ask_24
  · obtain ⟨ha_a2, hF⟩ := hF.2 a2 rfl
    refine lv_astore_n (lv' := [(3, .ref a2), (0, .ref h_this), (1, .int p0), (2, .int p1)]) hx hb dX11_ask_8 rfl hl (by decide) rfl (fun ls hl => ?_)
    refine lv_aload_n hx hb dX11_ask_9 rfl (lv_at hl 0 rfl) ?_
    refine lv_ifnull hx hb dX11_ask_10 ?_
    refine lv_iload_n hx hb dX11_ask_13 rfl (lv_at hl 3 rfl) ?_
    refine lv_if_lt (tgt := 22) hx hb dX11_ask_14 (by decide) (fun c_ => ?_) (fun c_ => ?_)
    · have hF := hF.1 c_
      refine lv_ldc hx hb hown (hts _ t1_221) dX11_ask_22 ?_
      exact rt_i C hQ rfl hP hD hS ⟨v_asked_left, v_asked_purse, v_asked_memory, v_asked_numbers, rfl, hF⟩ dX11_ask_24
    · have hF := hF.2 c_
      refine lv_iload_n hx hb dX11_ask_17 rfl (lv_at hl 3 rfl) ?_
      refine lv_iconst (v := 1) hx hb dX11_ask_18 (by decide) ?_
      refine lv_icmp_le (tgt := 25) hx hb dX11_ask_19 (by decide) (fun c_ => ?_) (fun c_ => ?_)
      · have hF := hF.1 c_
        refine lv_aload_n hx hb dX11_ask_25 rfl (lv_at hl 1 rfl) ?_
        refine va_get (D := D) (ci := 10) (v := .ref h_asked) (C := RX11) (T := TX11) (N := 12) hx hb hts inTX11 hown hK.1 hP 0 rfl rfl 6 (by decide) (hts _ t1_183) (fun _ h9 => h9) rfl dX11_ask_26 ?_
        refine lv_aload_n hx hb dX11_ask_29 rfl (lv_at hl 1 rfl) ?_
        refine va_get (D := D) (ci := 10) (v := .ref h_now) (C := RX11) (T := TX11) (N := 12) hx hb hts inTX11 hown hK.1 hP 0 rfl rfl 2 (by decide) (hts _ t1_179) (fun _ h9 => h9) rfl dX11_ask_30 ?_
        refine va_get (D := D) (ci := 8) (v := .ref h_now_purses) (C := RX9) (T := TX9) (N := 10) hx hb hts inTX9 hown hK.1 hP 1 rfl rfl 2 (by decide) (hts _ t1_87) (fun _ h9 => h9) rfl dX11_ask_33 ?_
        refine lv_iload_n hx hb dX11_ask_36 rfl (lv_at hl 2 rfl) ?_
        obtain ⟨hi3, hF⟩ := hF
        refine s_iald (j := (p0).toNatClampNeg) hx hb hK.1 hP 4 0 rfl rfl hi3 rfl dX11_ask_37 ?_
        refine lv_aload_n hx hb dX11_ask_38 rfl (lv_at hl 1 rfl) ?_
        refine va_get (D := D) (ci := 10) (v := .ref h_now) (C := RX11) (T := TX11) (N := 12) hx hb hts inTX11 hown hK.1 hP 0 rfl rfl 2 (by decide) (hts _ t1_179) (fun _ h9 => h9) rfl dX11_ask_39 ?_
        refine va_get (D := D) (ci := 8) (v := .ref h_now_memories) (C := RX9) (T := TX9) (N := 10) hx hb hts inTX9 hown hK.1 hP 1 rfl rfl 1 (by decide) (hts _ t1_85) (fun _ h9 => h9) rfl dX11_ask_42 ?_
        refine lv_iload_n hx hb dX11_ask_45 rfl (lv_at hl 2 rfl) ?_
        obtain ⟨hi4, hF⟩ := hF
        refine s_iald (j := (p0).toNatClampNeg) hx hb hK.1 hP 5 0 rfl rfl hi4 rfl dX11_ask_46 ?_
        refine cV_t (As := [.int (v_now_purses ((p0).toNatClampNeg)), .int (v_now_memories ((p0).toNatClampNeg))]) (wr := [(h_this, .inr (10, [x_rows, x_tape, .ref h_now, x_guess, x_images, x_foretelling, .ref h_asked, x_acts, .int v_nextAct, .int v_keptActs, .int v_latestFault, .int v_latestFinding])), (h_now, .inr (8, [.ref h_now_people, .ref h_now_memories, .ref h_now_purses, x_now_lives, .int (bz v_now_there), .int v_now_size, .int v_now_date, .int (bz v_now_evening), .int v_now_well, .int v_now_rights])), (h_now_people, .inl (cy 3, 3, .inr (.inr (.inr (.inr v_now_people))))), (h_now_purses, .inl (cy 0, 3, .inl v_now_purses)), (h_now_memories, .inl (cy 0, 3, .inl v_now_memories)), (h_asked_numbers, .inl (cy 0, 16, .inl v_asked_numbers))]) C hA hP hD hS mfX8_begin t4_41 t4_42 t4_40 (ccX8_begin l D cy h_asked (.ref h_asked_numbers) v_asked_left v_asked_purse v_asked_memory (v_now_purses ((p0).toNatClampNeg)) (v_now_memories ((p0).toNatClampNeg)) _ hF) [3] [0, 1, 2, 4, 5, 6] rfl rfl (by decide) (by decide) (by decide) PO.np 3 7 rfl rfl rfl rfl hl.1 rfl (Nat.le_of_ble_eq_true rfl) dX11_ask_47 ⟨Nat.le_of_ble_eq_true rfl, Nat.le_of_ble_eq_true rfl⟩ ⟨Nat.le_of_ble_eq_true rfl, Nat.le_of_ble_eq_true rfl⟩ ?_
        rintro ⟨⟩ w1 H locs ⟨u6_asked_left, u7_asked_purse, u8_asked_memory, rfl, hF⟩ hP hD hS
        have hP : va_P D CL [(h_this, .inr (10, [x_rows, x_tape, .ref h_now, x_guess, x_images, x_foretelling, .ref h_asked, x_acts, .int v_nextAct, .int v_keptActs, .int v_latestFault, .int v_latestFinding])), (h_now, .inr (8, [.ref h_now_people, .ref h_now_memories, .ref h_now_purses, x_now_lives, .int (bz v_now_there), .int v_now_size, .int v_now_date, .int (bz v_now_evening), .int v_now_well, .int v_now_rights])), (h_now_people, .inl (cy 3, 3, .inr (.inr (.inr (.inr v_now_people))))), (h_now_purses, .inl (cy 0, 3, .inl v_now_purses)), (h_now_memories, .inl (cy 0, 3, .inl v_now_memories)), (h_asked_numbers, .inl (cy 0, 16, .inl v_asked_numbers)), (h_asked, .inr (7, [.ref h_asked_numbers, .int u6_asked_left, .int u7_asked_purse, .int u8_asked_memory]))] H := hP
        have hD : va_D A [(h_this, .inr (10, [x_rows, x_tape, .ref h_now, x_guess, x_images, x_foretelling, .ref h_asked, x_acts, .int v_nextAct, .int v_keptActs, .int v_latestFault, .int v_latestFinding])), (h_now, .inr (8, [.ref h_now_people, .ref h_now_memories, .ref h_now_purses, x_now_lives, .int (bz v_now_there), .int v_now_size, .int v_now_date, .int (bz v_now_evening), .int v_now_well, .int v_now_rights])), (h_now_people, .inl (cy 3, 3, .inr (.inr (.inr (.inr v_now_people))))), (h_now_purses, .inl (cy 0, 3, .inl v_now_purses)), (h_now_memories, .inl (cy 0, 3, .inl v_now_memories)), (h_asked_numbers, .inl (cy 0, 16, .inl v_asked_numbers)), (h_asked, .inr (7, [.ref h_asked_numbers, .int u6_asked_left, .int u7_asked_purse, .int u8_asked_memory]))] := hD
        refine W.eq (g2 := F0 m 50 ls []) rfl ?_
        refine lv_iload_n hx hb dX11_ask_50 rfl (lv_at hl 3 rfl) ?_
        refine lv_if_ne (tgt := 65) hx hb dX11_ask_51 (by decide) (fun c_ => ?_) (fun c_ => ?_)
        · have hF := hF.1 c_
          refine lv_aload_n hx hb dX11_ask_65 rfl (lv_at hl 0 rfl) ?_
          refine lv_aload_n hx hb dX11_ask_66 rfl (lv_at hl 1 rfl) ?_
          refine va_get (D := D) (ci := 10) (v := .ref h_asked) (C := RX11) (T := TX11) (N := 12) hx hb hts inTX11 hown hK.1 hP 0 rfl rfl 6 (by decide) (hts _ t1_183) (fun _ h9 => h9) rfl dX11_ask_67 ?_
          refine pv_markBy (wr := [(h_this, .inr (10, [x_rows, x_tape, .ref h_now, x_guess, x_images, x_foretelling, .ref h_asked, x_acts, .int v_nextAct, .int v_keptActs, .int v_latestFault, .int v_latestFinding])), (h_now, .inr (8, [.ref h_now_people, .ref h_now_memories, .ref h_now_purses, x_now_lives, .int (bz v_now_there), .int v_now_size, .int v_now_date, .int (bz v_now_evening), .int v_now_well, .int v_now_rights])), (h_now_people, .inl (cy 3, 3, .inr (.inr (.inr (.inr v_now_people))))), (h_now_purses, .inl (cy 0, 3, .inl v_now_purses)), (h_now_memories, .inl (cy 0, 3, .inl v_now_memories))]) C hA hP hD hS (hI.at hS) ha_a2 t4_90 [6, 5] [0, 1, 2, 3, 4] rfl rfl (by decide) (by decide) (by decide) (hI.po hS hD [6, 5] rfl) hl.1 (Nat.le_of_ble_eq_true rfl) dX11_ask_70 ⟨Nat.le_of_ble_eq_true rfl, Nat.le_of_ble_eq_true rfl⟩ ⟨Nat.le_of_ble_eq_true rfl, Nat.le_of_ble_eq_true rfl⟩ hF rfl ?_
          rintro r9 w1 H locs ⟨u10_asked_left, u11_asked_numbers, rfl, hF⟩ hP hD hS
          have hP : va_P D CL [(h_this, .inr (10, [x_rows, x_tape, .ref h_now, x_guess, x_images, x_foretelling, .ref h_asked, x_acts, .int v_nextAct, .int v_keptActs, .int v_latestFault, .int v_latestFinding])), (h_now, .inr (8, [.ref h_now_people, .ref h_now_memories, .ref h_now_purses, x_now_lives, .int (bz v_now_there), .int v_now_size, .int v_now_date, .int (bz v_now_evening), .int v_now_well, .int v_now_rights])), (h_now_people, .inl (cy 3, 3, .inr (.inr (.inr (.inr v_now_people))))), (h_now_purses, .inl (cy 0, 3, .inl v_now_purses)), (h_now_memories, .inl (cy 0, 3, .inl v_now_memories)), (h_asked, .inr (7, [.ref h_asked_numbers, .int u10_asked_left, .int u7_asked_purse, .int u8_asked_memory])), (h_asked_numbers, .inl (cy 0, 16, .inl u11_asked_numbers))] H := hP
          have hD : va_D A [(h_this, .inr (10, [x_rows, x_tape, .ref h_now, x_guess, x_images, x_foretelling, .ref h_asked, x_acts, .int v_nextAct, .int v_keptActs, .int v_latestFault, .int v_latestFinding])), (h_now, .inr (8, [.ref h_now_people, .ref h_now_memories, .ref h_now_purses, x_now_lives, .int (bz v_now_there), .int v_now_size, .int v_now_date, .int (bz v_now_evening), .int v_now_well, .int v_now_rights])), (h_now_people, .inl (cy 3, 3, .inr (.inr (.inr (.inr v_now_people))))), (h_now_purses, .inl (cy 0, 3, .inl v_now_purses)), (h_now_memories, .inl (cy 0, 3, .inl v_now_memories)), (h_asked, .inr (7, [.ref h_asked_numbers, .int u10_asked_left, .int u7_asked_purse, .int u8_asked_memory])), (h_asked_numbers, .inl (cy 0, 16, .inl u11_asked_numbers))] := hD
          refine W.eq (g2 := F0 m 73 ls [.int r9]) rfl ?_
          have hP : va_P D CL [(h_this, .inr (10, [x_rows, x_tape, .ref h_now, x_guess, x_images, x_foretelling, .ref h_asked, x_acts, .int v_nextAct, .int v_keptActs, .int v_latestFault, .int v_latestFinding])), (h_now, .inr (8, [.ref h_now_people, .ref h_now_memories, .ref h_now_purses, x_now_lives, .int (bz v_now_there), .int v_now_size, .int v_now_date, .int (bz v_now_evening), .int v_now_well, .int v_now_rights])), (h_now_people, .inl (cy 3, 3, .inr (.inr (.inr (.inr v_now_people))))), (h_asked, .inr (7, [.ref h_asked_numbers, .int u10_asked_left, .int u7_asked_purse, .int u8_asked_memory])), (h_now_purses, .inl (cy 0, 3, .inl v_now_purses)), (h_now_memories, .inl (cy 0, 3, .inl v_now_memories)), (h_asked_numbers, .inl (cy 0, 16, .inl u11_asked_numbers))] H := (hP.sub [0, 1, 2, 5, 3, 4, 6] rfl)
          have hD : va_D A [(h_this, .inr (10, [x_rows, x_tape, .ref h_now, x_guess, x_images, x_foretelling, .ref h_asked, x_acts, .int v_nextAct, .int v_keptActs, .int v_latestFault, .int v_latestFinding])), (h_now, .inr (8, [.ref h_now_people, .ref h_now_memories, .ref h_now_purses, x_now_lives, .int (bz v_now_there), .int v_now_size, .int v_now_date, .int (bz v_now_evening), .int v_now_well, .int v_now_rights])), (h_now_people, .inl (cy 3, 3, .inr (.inr (.inr (.inr v_now_people))))), (h_asked, .inr (7, [.ref h_asked_numbers, .int u10_asked_left, .int u7_asked_purse, .int u8_asked_memory])), (h_now_purses, .inl (cy 0, 3, .inl v_now_purses)), (h_now_memories, .inl (cy 0, 3, .inl v_now_memories)), (h_asked_numbers, .inl (cy 0, 16, .inl u11_asked_numbers))] := (hD.sub [0, 1, 2, 5, 3, 4, 6] (by decide) rfl)
          exact rt_i C hQ rfl hP hD hS ⟨u10_asked_left, u7_asked_purse, u8_asked_memory, u11_asked_numbers, rfl, hF⟩ dX11_ask_73
        · have hF := hF.2 c_
          refine lv_aload_n hx hb dX11_ask_54 rfl (lv_at hl 0 rfl) ?_
          refine lv_aload_n hx hb dX11_ask_55 rfl (lv_at hl 1 rfl) ?_
          refine va_get (D := D) (ci := 10) (v := .ref h_asked) (C := RX11) (T := TX11) (N := 12) hx hb hts inTX11 hown hK.1 hP 0 rfl rfl 6 (by decide) (hts _ t1_183) (fun _ h9 => h9) rfl dX11_ask_56 ?_
          refine pv_sizeBy (wr := [(h_this, .inr (10, [x_rows, x_tape, .ref h_now, x_guess, x_images, x_foretelling, .ref h_asked, x_acts, .int v_nextAct, .int v_keptActs, .int v_latestFault, .int v_latestFinding])), (h_now, .inr (8, [.ref h_now_people, .ref h_now_memories, .ref h_now_purses, x_now_lives, .int (bz v_now_there), .int v_now_size, .int v_now_date, .int (bz v_now_evening), .int v_now_well, .int v_now_rights])), (h_now_people, .inl (cy 3, 3, .inr (.inr (.inr (.inr v_now_people))))), (h_now_purses, .inl (cy 0, 3, .inl v_now_purses)), (h_now_memories, .inl (cy 0, 3, .inl v_now_memories))]) C hA hP hD hS (hI.at hS) ha_a2 t4_44 [6, 5] [0, 1, 2, 3, 4] rfl rfl (by decide) (by decide) (by decide) (hI.po hS hD [6, 5] rfl) hl.1 (Nat.le_of_ble_eq_true rfl) dX11_ask_59 ⟨Nat.le_of_ble_eq_true rfl, Nat.le_of_ble_eq_true rfl⟩ ⟨Nat.le_of_ble_eq_true rfl, Nat.le_of_ble_eq_true rfl⟩ hF rfl ?_
          rintro r12 w1 H locs ⟨u13_asked_left, u14_asked_numbers, rfl, hF⟩ hP hD hS
          have hP : va_P D CL [(h_this, .inr (10, [x_rows, x_tape, .ref h_now, x_guess, x_images, x_foretelling, .ref h_asked, x_acts, .int v_nextAct, .int v_keptActs, .int v_latestFault, .int v_latestFinding])), (h_now, .inr (8, [.ref h_now_people, .ref h_now_memories, .ref h_now_purses, x_now_lives, .int (bz v_now_there), .int v_now_size, .int v_now_date, .int (bz v_now_evening), .int v_now_well, .int v_now_rights])), (h_now_people, .inl (cy 3, 3, .inr (.inr (.inr (.inr v_now_people))))), (h_now_purses, .inl (cy 0, 3, .inl v_now_purses)), (h_now_memories, .inl (cy 0, 3, .inl v_now_memories)), (h_asked, .inr (7, [.ref h_asked_numbers, .int u13_asked_left, .int u7_asked_purse, .int u8_asked_memory])), (h_asked_numbers, .inl (cy 0, 16, .inl u14_asked_numbers))] H := hP
          have hD : va_D A [(h_this, .inr (10, [x_rows, x_tape, .ref h_now, x_guess, x_images, x_foretelling, .ref h_asked, x_acts, .int v_nextAct, .int v_keptActs, .int v_latestFault, .int v_latestFinding])), (h_now, .inr (8, [.ref h_now_people, .ref h_now_memories, .ref h_now_purses, x_now_lives, .int (bz v_now_there), .int v_now_size, .int v_now_date, .int (bz v_now_evening), .int v_now_well, .int v_now_rights])), (h_now_people, .inl (cy 3, 3, .inr (.inr (.inr (.inr v_now_people))))), (h_now_purses, .inl (cy 0, 3, .inl v_now_purses)), (h_now_memories, .inl (cy 0, 3, .inl v_now_memories)), (h_asked, .inr (7, [.ref h_asked_numbers, .int u13_asked_left, .int u7_asked_purse, .int u8_asked_memory])), (h_asked_numbers, .inl (cy 0, 16, .inl u14_asked_numbers))] := hD
          refine W.eq (g2 := F0 m 62 ls [.int r12]) rfl ?_
          refine lv_goto (tgt := 73) hx hb dX11_ask_62 (by decide) ?_
          have hP : va_P D CL [(h_this, .inr (10, [x_rows, x_tape, .ref h_now, x_guess, x_images, x_foretelling, .ref h_asked, x_acts, .int v_nextAct, .int v_keptActs, .int v_latestFault, .int v_latestFinding])), (h_now, .inr (8, [.ref h_now_people, .ref h_now_memories, .ref h_now_purses, x_now_lives, .int (bz v_now_there), .int v_now_size, .int v_now_date, .int (bz v_now_evening), .int v_now_well, .int v_now_rights])), (h_now_people, .inl (cy 3, 3, .inr (.inr (.inr (.inr v_now_people))))), (h_asked, .inr (7, [.ref h_asked_numbers, .int u13_asked_left, .int u7_asked_purse, .int u8_asked_memory])), (h_now_purses, .inl (cy 0, 3, .inl v_now_purses)), (h_now_memories, .inl (cy 0, 3, .inl v_now_memories)), (h_asked_numbers, .inl (cy 0, 16, .inl u14_asked_numbers))] H := (hP.sub [0, 1, 2, 5, 3, 4, 6] rfl)
          have hD : va_D A [(h_this, .inr (10, [x_rows, x_tape, .ref h_now, x_guess, x_images, x_foretelling, .ref h_asked, x_acts, .int v_nextAct, .int v_keptActs, .int v_latestFault, .int v_latestFinding])), (h_now, .inr (8, [.ref h_now_people, .ref h_now_memories, .ref h_now_purses, x_now_lives, .int (bz v_now_there), .int v_now_size, .int v_now_date, .int (bz v_now_evening), .int v_now_well, .int v_now_rights])), (h_now_people, .inl (cy 3, 3, .inr (.inr (.inr (.inr v_now_people))))), (h_asked, .inr (7, [.ref h_asked_numbers, .int u13_asked_left, .int u7_asked_purse, .int u8_asked_memory])), (h_now_purses, .inl (cy 0, 3, .inl v_now_purses)), (h_now_memories, .inl (cy 0, 3, .inl v_now_memories)), (h_asked_numbers, .inl (cy 0, 16, .inl u14_asked_numbers))] := (hD.sub [0, 1, 2, 5, 3, 4, 6] (by decide) rfl)
          exact rt_i C hQ rfl hP hD hS ⟨u13_asked_left, u7_asked_purse, u8_asked_memory, u14_asked_numbers, rfl, hF⟩ dX11_ask_73
      · have hF := hF.2 c_
        refine lv_ldc hx hb hown (hts _ t1_221) dX11_ask_22 ?_
        exact rt_i C hQ rfl hP hD hS ⟨v_asked_left, v_asked_purse, v_asked_memory, v_asked_numbers, rfl, hF⟩ dX11_ask_24

def wpX11_trace (p0 : Int32) (v_asked_left : Int32) (v_asked_numbers : Nat → Int32) (post : Int32 → Prop) : Prop := wpX8_numberAt p0 v_asked_left v_asked_numbers (fun r1 => post r1)
abbrev miX11_trace : MI := (yX11_trace, cX11_trace, 2, (some .int))
theorem mfX11_trace : MF miX11_trace 1 := ⟨t4_98, t1_1, by decide +kernel⟩
abbrev rmX11_trace : Room := { frames := 1, cells := 0, slots := 0, locals := 21 }
set_option maxHeartbeats 4000000 in
set_option maxRecDepth 100000 in
theorem ccX11_trace (l : Launch) (D : va_G) (cy : Nat → ClassId) (h_this : Nat) (h_asked : Nat) (h_asked_numbers : Nat) (x_rows : Value) (x_tape : Value) (x_now : Value) (x_guess : Value) (x_images : Value) (x_foretelling : Value) (x_acts : Value) (v_nextAct : Int32) (v_keptActs : Int32) (v_latestFault : Int32) (v_latestFinding : Int32) (v_asked_left : Int32) (v_asked_purse : Int32) (v_asked_memory : Int32) (v_asked_numbers : Nat → Int32) (p0 : Int32) (post : Int32 → Prop) (hF : wpX11_trace p0 v_asked_left v_asked_numbers post) : Cr l D cy miX11_trace rmX11_trace emI NP [.ref h_this, .int p0] [(h_this, .inr (10, [x_rows, x_tape, x_now, x_guess, x_images, x_foretelling, .ref h_asked, x_acts, .int v_nextAct, .int v_keptActs, .int v_latestFault, .int v_latestFinding])), (h_asked, .inr (7, [.ref h_asked_numbers, .int v_asked_left, .int v_asked_purse, .int v_asked_memory])), (h_asked_numbers, .inl (cy 0, 16, .inl v_asked_numbers))] post := by
  refine Cr.of (by decide) (Nat.le_of_ble_eq_true rfl) ?_
  intro p e s m args below meth c ls Q C hQ hO hP hl
  obtain ⟨hx, hb, hr, hml, hown, hts, hK, hlk, hnm⟩ := id C
  have hb : c.code = cX11_trace := hb
  have hml : c.maxLocals = 2 := hml
  have hown : s.vm.findClass RX11 = some m.cls := hown
  have hl : lv_has ls 2 [(0, .ref h_this), (1, .int p0)] := hl
  unfold wpX11_trace at hF
  refine lv_aload_n hx hb dX11_trace_0 rfl (lv_at hl 0 rfl) ?_
  refine va_get (D := D) (ci := 10) (v := .ref h_asked) (C := RX11) (T := TX11) (N := 12) hx hb hts inTX11 hown hK.1 hP 0 rfl rfl 6 (by decide) (hts _ t1_183) (fun _ h9 => h9) rfl dX11_trace_1 ?_
  refine lv_iload_n hx hb dX11_trace_4 rfl (lv_at hl 1 rfl) ?_
  refine cV_r (As := [.int p0]) C mfX8_numberAt t4_100 t4_101 t4_99 (ccX8_numberAt l D cy h_asked h_asked_numbers v_asked_left v_asked_purse v_asked_memory v_asked_numbers p0 _ hF) rfl rfl (hP.sub [1, 2] rfl) PR.np hP 1 7 rfl rfl rfl rfl hl.1 rfl (Nat.le_of_ble_eq_true rfl) dX11_trace_5 ⟨Nat.le_of_ble_eq_true rfl, Nat.le_of_ble_eq_true rfl⟩ ⟨Nat.le_of_ble_eq_true rfl, Nat.le_of_ble_eq_true rfl⟩ ?_
  intro r1 hF
  refine W.eq (g2 := F0 m 8 ls [.int r1]) rfl ?_
  exact rr_i C hQ rfl hF dX11_trace_8

def wpX11_count (p0 : Int32) (v_keptActs : Int32) (v_rows_sizes : Nat → Int32) (v_now_size : Int32) (v_now_date : Int32) (v_now_evening : Bool) (v_now_rights : Int32) (v_now_lives : Nat → Int32) (v_tape_length : Int32) (post : Int32 → Prop) : Prop := (p0 = 0 → (wpX4_howMany v_rows_sizes (fun r1 => post r1))) ∧ (¬ p0 = 0 → ((p0 = 1 → (post v_now_size)) ∧ (¬ p0 = 1 → ((p0 = 2 → (post v_now_date)) ∧ (¬ p0 = 2 → ((p0 = 3 → (vp_in v_now_date 100 ∧ (post (v_now_lives ((v_now_date).toNatClampNeg))))) ∧ (¬ p0 = 3 → ((p0 = 4 → (post v_now_rights)) ∧ (¬ p0 = 4 → ((p0 = 5 → ((v_now_evening = false → (post 0)) ∧ (v_now_evening = true → (post 1)))) ∧ (¬ p0 = 5 → ((p0 = 6 → (post v_keptActs)) ∧ (¬ p0 = 6 → ((p0 = 7 → (post v_tape_length)) ∧ (¬ p0 = 7 → (post (-1000001)))))))))))))))))
abbrev miX11_count : MI := (yX11_count, cX11_count, 2, (some .int))
theorem mfX11_count : MF miX11_count 1 := ⟨t4_107, t1_1, by decide +kernel⟩
abbrev rmX11_count : Room := { frames := 2, cells := 0, slots := 0, locals := 43 }
set_option maxHeartbeats 4000000 in
set_option maxRecDepth 100000 in
theorem ccX11_count (l : Launch) (D : va_G) (cy : Nat → ClassId) (h_this : Nat) (h_rows : Nat) (h_rows_sizes : Nat) (h_now : Nat) (h_now_lives : Nat) (h_tape : Nat) (x_guess : Value) (x_images : Value) (x_foretelling : Value) (x_asked : Value) (x_acts : Value) (x_rows_items : Value) (x_rows_lanes : Value) (x_now_people : Value) (x_now_memories : Value) (x_now_purses : Value) (x_tape_newcomers : Value) (x_tape_bytes : Value) (v_nextAct : Int32) (v_keptActs : Int32) (v_latestFault : Int32) (v_latestFinding : Int32) (v_rows_sizes : Nat → Int32) (v_now_there : Bool) (v_now_size : Int32) (v_now_date : Int32) (v_now_evening : Bool) (v_now_well : Int32) (v_now_rights : Int32) (v_now_lives : Nat → Int32) (v_tape_length : Int32) (v_tape_place : Int32) (v_tape_flaw : Int32) (p0 : Int32) (post : Int32 → Prop) (hF : wpX11_count p0 v_keptActs v_rows_sizes v_now_size v_now_date v_now_evening v_now_rights v_now_lives v_tape_length post) : Cr l D cy miX11_count rmX11_count emI NP [.ref h_this, .int p0] [(h_this, .inr (10, [.ref h_rows, .ref h_tape, .ref h_now, x_guess, x_images, x_foretelling, x_asked, x_acts, .int v_nextAct, .int v_keptActs, .int v_latestFault, .int v_latestFinding])), (h_rows, .inr (3, [x_rows_items, x_rows_lanes, .ref h_rows_sizes])), (h_rows_sizes, .inl (cy 0, 8, .inl v_rows_sizes)), (h_now, .inr (8, [x_now_people, x_now_memories, x_now_purses, .ref h_now_lives, .int (bz v_now_there), .int v_now_size, .int v_now_date, .int (bz v_now_evening), .int v_now_well, .int v_now_rights])), (h_now_lives, .inl (cy 0, 100, .inl v_now_lives)), (h_tape, .inr (6, [x_tape_newcomers, .int v_tape_length, .int v_tape_place, .int v_tape_flaw, x_tape_bytes]))] post := by
  refine Cr.of (by decide) (Nat.le_of_ble_eq_true rfl) ?_
  intro p e s m args below meth c ls Q C hQ hO hP hl
  obtain ⟨hx, hb, hr, hml, hown, hts, hK, hlk, hnm⟩ := id C
  have hb : c.code = cX11_count := hb
  have hml : c.maxLocals = 2 := hml
  have hown : s.vm.findClass RX11 = some m.cls := hown
  have hl : lv_has ls 2 [(0, .ref h_this), (1, .int p0)] := hl
  unfold wpX11_count at hF
  refine lv_iload_n hx hb dX11_count_0 rfl (lv_at hl 1 rfl) ?_
  by_cases cs_0 : p0 = 0
  · have hF := hF.1 cs_0
    refine lv_tableIn (tgt := 48) hx hb dX11_count_1 (by rw [cs_0]; decide) (by rw [cs_0]; decide) (by rw [cs_0]; rfl) (by decide) ?_
    refine lv_aload_n hx hb dX11_count_48 rfl (lv_at hl 0 rfl) ?_
    refine va_get (D := D) (ci := 10) (v := .ref h_rows) (C := RX11) (T := TX11) (N := 12) hx hb hts inTX11 hown hK.1 hP 0 rfl rfl 0 (by decide) (hts _ t1_177) (fun _ h9 => h9) rfl dX11_count_49 ?_
    refine cV_r (As := []) C mfX4_howMany t4_109 t4_110 t4_108 (ccX4_howMany l D cy h_rows h_rows_sizes x_rows_items x_rows_lanes v_rows_sizes _ hF) rfl rfl (hP.sub [1, 2] rfl) PR.np hP 1 3 rfl rfl rfl rfl hl.1 rfl (Nat.le_of_ble_eq_true rfl) dX11_count_52 ⟨Nat.le_of_ble_eq_true rfl, Nat.le_of_ble_eq_true rfl⟩ ⟨Nat.le_of_ble_eq_true rfl, Nat.le_of_ble_eq_true rfl⟩ ?_
    intro r1 hF
    refine W.eq (g2 := F0 m 55 ls [.int r1]) rfl ?_
    exact rr_i C hQ rfl hF dX11_count_55
  · have hF := hF.2 cs_0
    by_cases cs_1 : p0 = 1
    · have hF := hF.1 cs_1
      refine lv_tableIn (tgt := 56) hx hb dX11_count_1 (by rw [cs_1]; decide) (by rw [cs_1]; decide) (by rw [cs_1]; rfl) (by decide) ?_
      refine lv_aload_n hx hb dX11_count_56 rfl (lv_at hl 0 rfl) ?_
      refine va_get (D := D) (ci := 10) (v := .ref h_now) (C := RX11) (T := TX11) (N := 12) hx hb hts inTX11 hown hK.1 hP 0 rfl rfl 2 (by decide) (hts _ t1_179) (fun _ h9 => h9) rfl dX11_count_57 ?_
      refine va_get (D := D) (ci := 8) (v := .int v_now_size) (C := RX9) (T := TX9) (N := 10) hx hb hts inTX9 hown hK.1 hP 3 rfl rfl 5 (by decide) (hts _ t1_94) (fun _ h9 => h9) rfl dX11_count_60 ?_
      exact rr_i C hQ rfl hF dX11_count_63
    · have hF := hF.2 cs_1
      by_cases cs_2 : p0 = 2
      · have hF := hF.1 cs_2
        refine lv_tableIn (tgt := 64) hx hb dX11_count_1 (by rw [cs_2]; decide) (by rw [cs_2]; decide) (by rw [cs_2]; rfl) (by decide) ?_
        refine lv_aload_n hx hb dX11_count_64 rfl (lv_at hl 0 rfl) ?_
        refine va_get (D := D) (ci := 10) (v := .ref h_now) (C := RX11) (T := TX11) (N := 12) hx hb hts inTX11 hown hK.1 hP 0 rfl rfl 2 (by decide) (hts _ t1_179) (fun _ h9 => h9) rfl dX11_count_65 ?_
        refine va_get (D := D) (ci := 8) (v := .int v_now_date) (C := RX9) (T := TX9) (N := 10) hx hb hts inTX9 hown hK.1 hP 3 rfl rfl 6 (by decide) (hts _ t1_96) (fun _ h9 => h9) rfl dX11_count_68 ?_
        exact rr_i C hQ rfl hF dX11_count_71
      · have hF := hF.2 cs_2
        by_cases cs_3 : p0 = 3
        · have hF := hF.1 cs_3
          refine lv_tableIn (tgt := 72) hx hb dX11_count_1 (by rw [cs_3]; decide) (by rw [cs_3]; decide) (by rw [cs_3]; rfl) (by decide) ?_
          refine lv_aload_n hx hb dX11_count_72 rfl (lv_at hl 0 rfl) ?_
          refine va_get (D := D) (ci := 10) (v := .ref h_now) (C := RX11) (T := TX11) (N := 12) hx hb hts inTX11 hown hK.1 hP 0 rfl rfl 2 (by decide) (hts _ t1_179) (fun _ h9 => h9) rfl dX11_count_73 ?_
          refine va_get (D := D) (ci := 8) (v := .ref h_now_lives) (C := RX9) (T := TX9) (N := 10) hx hb hts inTX9 hown hK.1 hP 3 rfl rfl 3 (by decide) (hts _ t1_89) (fun _ h9 => h9) rfl dX11_count_76 ?_
          refine lv_aload_n hx hb dX11_count_79 rfl (lv_at hl 0 rfl) ?_
          refine va_get (D := D) (ci := 10) (v := .ref h_now) (C := RX11) (T := TX11) (N := 12) hx hb hts inTX11 hown hK.1 hP 0 rfl rfl 2 (by decide) (hts _ t1_179) (fun _ h9 => h9) rfl dX11_count_80 ?_
          refine va_get (D := D) (ci := 8) (v := .int v_now_date) (C := RX9) (T := TX9) (N := 10) hx hb hts inTX9 hown hK.1 hP 3 rfl rfl 6 (by decide) (hts _ t1_96) (fun _ h9 => h9) rfl dX11_count_83 ?_
          obtain ⟨hi2, hF⟩ := hF
          refine s_iald (j := (v_now_date).toNatClampNeg) hx hb hK.1 hP 4 0 rfl rfl hi2 rfl dX11_count_86 ?_
          exact rr_i C hQ rfl hF dX11_count_87
        · have hF := hF.2 cs_3
          by_cases cs_4 : p0 = 4
          · have hF := hF.1 cs_4
            refine lv_tableIn (tgt := 88) hx hb dX11_count_1 (by rw [cs_4]; decide) (by rw [cs_4]; decide) (by rw [cs_4]; rfl) (by decide) ?_
            refine lv_aload_n hx hb dX11_count_88 rfl (lv_at hl 0 rfl) ?_
            refine va_get (D := D) (ci := 10) (v := .ref h_now) (C := RX11) (T := TX11) (N := 12) hx hb hts inTX11 hown hK.1 hP 0 rfl rfl 2 (by decide) (hts _ t1_179) (fun _ h9 => h9) rfl dX11_count_89 ?_
            refine va_get (D := D) (ci := 8) (v := .int v_now_rights) (C := RX9) (T := TX9) (N := 10) hx hb hts inTX9 hown hK.1 hP 3 rfl rfl 9 (by decide) (hts _ t1_103) (fun _ h9 => h9) rfl dX11_count_92 ?_
            exact rr_i C hQ rfl hF dX11_count_95
          · have hF := hF.2 cs_4
            by_cases cs_5 : p0 = 5
            · have hF := hF.1 cs_5
              refine lv_tableIn (tgt := 96) hx hb dX11_count_1 (by rw [cs_5]; decide) (by rw [cs_5]; decide) (by rw [cs_5]; rfl) (by decide) ?_
              refine lv_aload_n hx hb dX11_count_96 rfl (lv_at hl 0 rfl) ?_
              refine va_get (D := D) (ci := 10) (v := .ref h_now) (C := RX11) (T := TX11) (N := 12) hx hb hts inTX11 hown hK.1 hP 0 rfl rfl 2 (by decide) (hts _ t1_179) (fun _ h9 => h9) rfl dX11_count_97 ?_
              refine va_get (D := D) (ci := 8) (v := .int (bz v_now_evening)) (C := RX9) (T := TX9) (N := 10) hx hb hts inTX9 hown hK.1 hP 3 rfl rfl 7 (by decide) (hts _ t1_98) (fun _ h9 => h9) rfl dX11_count_100 ?_
              refine lv_if_eq (tgt := 110) hx hb dX11_count_103 (by decide) (fun c_ => ?_) (fun c_ => ?_)
              · have hF := hF.1 ((bz_0 _).mp c_)
                refine lv_iconst (v := 0) hx hb dX11_count_110 (by decide) ?_
                exact rr_i C hQ rfl hF dX11_count_111
              · have hF := hF.2 ((bz_1 _).mp c_)
                refine lv_iconst (v := 1) hx hb dX11_count_106 (by decide) ?_
                refine lv_goto (tgt := 111) hx hb dX11_count_107 (by decide) ?_
                exact rr_i C hQ rfl hF dX11_count_111
            · have hF := hF.2 cs_5
              by_cases cs_6 : p0 = 6
              · have hF := hF.1 cs_6
                refine lv_tableIn (tgt := 112) hx hb dX11_count_1 (by rw [cs_6]; decide) (by rw [cs_6]; decide) (by rw [cs_6]; rfl) (by decide) ?_
                refine lv_aload_n hx hb dX11_count_112 rfl (lv_at hl 0 rfl) ?_
                refine va_get (D := D) (ci := 10) (v := .int v_keptActs) (C := RX11) (T := TX11) (N := 12) hx hb hts inTX11 hown hK.1 hP 0 rfl rfl 9 (by decide) (hts _ t1_186) (fun _ h9 => h9) rfl dX11_count_113 ?_
                exact rr_i C hQ rfl hF dX11_count_116
              · have hF := hF.2 cs_6
                by_cases cs_7 : p0 = 7
                · have hF := hF.1 cs_7
                  refine lv_tableIn (tgt := 117) hx hb dX11_count_1 (by rw [cs_7]; decide) (by rw [cs_7]; decide) (by rw [cs_7]; rfl) (by decide) ?_
                  refine lv_aload_n hx hb dX11_count_117 rfl (lv_at hl 0 rfl) ?_
                  refine va_get (D := D) (ci := 10) (v := .ref h_tape) (C := RX11) (T := TX11) (N := 12) hx hb hts inTX11 hown hK.1 hP 0 rfl rfl 1 (by decide) (hts _ t1_178) (fun _ h9 => h9) rfl dX11_count_118 ?_
                  refine va_get (D := D) (ci := 6) (v := .int v_tape_length) (C := RX7) (T := TX7) (N := 5) hx hb hts inTX7 hown hK.1 hP 5 rfl rfl 1 (by decide) (hts _ t1_59) (fun _ h9 => h9) rfl dX11_count_121 ?_
                  exact rr_i C hQ rfl hF dX11_count_124
                · have hF := hF.2 cs_7
                  refine lv_tableOut (tgt := 125) hx hb dX11_count_1 (sw_out (x := p0) 8 (by decide) (fun k9 h9 => match k9, h9 with | 0, _ => cs_0 | 1, _ => cs_1 | 2, _ => cs_2 | 3, _ => cs_3 | 4, _ => cs_4 | 5, _ => cs_5 | 6, _ => cs_6 | 7, _ => cs_7 | k9 + 8, h9 => absurd h9 (by omega))) (by decide) ?_
                  refine lv_ldc hx hb hown (hts _ t1_221) dX11_count_125 ?_
                  exact rr_i C hQ rfl hF dX11_count_127

def wpX11_status (v_latestFinding : Int32) (post : Int32 → Prop) : Prop := post v_latestFinding
abbrev miX11_status : MI := (yX11_status, cX11_status, 1, (some .int))
theorem mfX11_status : MF miX11_status 0 := ⟨t4_116, t1_1, by decide +kernel⟩
abbrev rmX11_status : Room := { frames := 0, cells := 0, slots := 0, locals := 0 }
set_option maxHeartbeats 4000000 in
set_option maxRecDepth 100000 in
theorem ccX11_status (l : Launch) (D : va_G) (cy : Nat → ClassId) (h_this : Nat) (x_rows : Value) (x_tape : Value) (x_now : Value) (x_guess : Value) (x_images : Value) (x_foretelling : Value) (x_asked : Value) (x_acts : Value) (v_nextAct : Int32) (v_keptActs : Int32) (v_latestFault : Int32) (v_latestFinding : Int32) (post : Int32 → Prop) (hF : wpX11_status v_latestFinding post) : Cr l D cy miX11_status rmX11_status emI NP [.ref h_this] [(h_this, .inr (10, [x_rows, x_tape, x_now, x_guess, x_images, x_foretelling, x_asked, x_acts, .int v_nextAct, .int v_keptActs, .int v_latestFault, .int v_latestFinding]))] post := by
  refine Cr.of (by decide) (Nat.le_of_ble_eq_true rfl) ?_
  intro p e s m args below meth c ls Q C hQ hO hP hl
  obtain ⟨hx, hb, hr, hml, hown, hts, hK, hlk, hnm⟩ := id C
  have hb : c.code = cX11_status := hb
  have hml : c.maxLocals = 1 := hml
  have hown : s.vm.findClass RX11 = some m.cls := hown
  have hl : lv_has ls 1 [(0, .ref h_this)] := hl
  unfold wpX11_status at hF
  refine lv_aload_n hx hb dX11_status_0 rfl (lv_at hl 0 rfl) ?_
  refine va_get (D := D) (ci := 10) (v := .int v_latestFinding) (C := RX11) (T := TX11) (N := 12) hx hb hts inTX11 hown hK.1 hP 0 rfl rfl 11 (by decide) (hts _ t1_188) (fun _ h9 => h9) rfl dX11_status_1 ?_
  exact rr_i C hQ rfl hF dX11_status_4
