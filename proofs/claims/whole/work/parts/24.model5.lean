def wjX12_worth_222 (v_now : Nat → Int32) (post : Int64 → Prop) (K_127 : Int32 → Bool → Int32 → Int32 → Int32 → Int64 → Int64 → Int64 → Int32 → Prop) (l2 : Int32) (l3 : Bool) (l4 : Int32) (l6 : Int32) (l7 : Int32) (l8 : Int64) (l10 : Int64) (l14 : Int32) (k0 : Int64) (k1 : Int64) (k2 : Int64) : Prop := K_127 l2 l3 l4 l6 l7 l8 l10 (k2 + (k1 * k0)) (l14 + 1)
def wjX12_worth_200 (v_now : Nat → Int32) (post : Int64 → Prop) (K_127 : Int32 → Bool → Int32 → Int32 → Int32 → Int64 → Int64 → Int64 → Int32 → Prop) (l2 : Int32) (l3 : Bool) (l4 : Int32) (l6 : Int32) (l7 : Int32) (l8 : Int64) (l10 : Int64) (l14 : Int32) (l15 : Int64) (l19 : Int64) (k0 : Int64) (k1 : Int64) : Prop := (l15 ≤ l19 → (wjX12_worth_222 v_now post K_127 l2 l3 l4 l6 l7 l8 l10 l14 l19 (((10 - l4)).toInt64) (k1 * k0))) ∧ (¬ l15 ≤ l19 → (wjX12_worth_222 v_now post K_127 l2 l3 l4 l6 l7 l8 l10 l14 l15 (((10 - l4)).toInt64) (k1 * k0)))
def wlX12_worth_127 (v_now : Nat → Int32) (post : Int64 → Prop) : Nat → Int32 → Bool → Int32 → Int32 → Int32 → Int64 → Int64 → Int64 → Int32 → Prop
  | 0, _, _, _, _, _, _, _, _, _ => False
  | n + 1, l2, l3, l4, l6, l7, l8, l10, l12, l14 => (l2 < l14 → (wpX12_power l2 (fun r1 => wpX12_power (l2 + 1) (fun r2 => wpX12_tells (l12 - ((((l2).toInt64) * l8) * r1)) r2 l3 (fun r3 => post r3))))) ∧ (¬ l2 < l14 → (wpX12_power (l14 - 1) (fun r4 => wpX12_power l14 (fun r5 => wpX12_power l14 (fun r6 => (((l10 + ((((l14 - 1)).toInt64) * l8)) * r4) ≤ ((((l6).toInt64) * r5) + l12) → (wjX12_worth_200 v_now post (wlX12_worth_127 v_now post n) l2 l3 l4 l6 l7 l8 l10 l14 ((l10 + ((((l14 - 1)).toInt64) * l8)) * r4) ((((l7).toInt64) * r6) + l12) ((((l6).toInt64) * r5) + l12) ((l4).toInt64))) ∧ (¬ ((l10 + ((((l14 - 1)).toInt64) * l8)) * r4) ≤ ((((l6).toInt64) * r5) + l12) → (wjX12_worth_200 v_now post (wlX12_worth_127 v_now post n) l2 l3 l4 l6 l7 l8 l10 l14 ((l10 + ((((l14 - 1)).toInt64) * l8)) * r4) ((((l7).toInt64) * r6) + l12) ((l10 + ((((l14 - 1)).toInt64) * l8)) * r4) ((l4).toInt64))))))))
def wpX12_worth (p0 : Int32) (p1 : Int32) (p2 : Bool) (v_now : Nat → Int32) (post : Int64 → Prop) : Prop := wpX12_isPerson p0 v_now (fun r1 => (r1 = false → (post (-1000001))) ∧ (r1 = true → (wpX12_in p1 1 3 (fun r2 => (r2 = true → (wpX12_kindIn p0 v_now (fun r3 => (¬ r3 = 4 → (wpX12_odds p0 0 v_now (fun r4 => wpX12_odds p0 1 v_now (fun r5 => wpX12_brings p0 true v_now (fun r6 => wpX12_brings p0 false v_now (fun r7 => wlX12_worth_127 v_now post fu p1 p2 r4 r6 r7 ((((r4 * r6) + ((10 - r4) * r7))).toInt64) ((((r5 * r6) + ((10 - r5) * r7))).toInt64) 0 1)))))) ∧ (r3 = 4 → ((p2 = false → (post 1)) ∧ (p2 = true → (post 0))))))) ∧ (r2 = false → (post (-1000001)))))))
abbrev miX12_worth : MI := (yX12_worth, cX12_worth, 21, (some .long))
theorem mfX12_worth : MF miX12_worth 3 := ⟨t5_181, t1_8, by decide +kernel⟩
abbrev rmX12_worth : Room := { frames := 2, cells := 0, slots := 0, locals := 45 }
set_option maxHeartbeats 4000000 in
set_option maxRecDepth 100000 in
theorem ccX12_worth (l : Launch) (D : va_G) (cy : Nat → ClassId) (h_this : Nat) (h_now : Nat) (x_lane : Value) (x_many : Value) (x_items : Value) (x_spare : Value) (x_tape : Value) (x_draft : Value) (x_tried : Value) (x_past : Value) (x_images : Value) (x_kept : Value) (x_trace : Value) (x_comes : Value) (x_standing : Value) (x_brought : Value) (x_habit : Value) (v_status : Int32) (v_taped : Int32) (v_faultKind : Int32) (v_faultPlace : Int32) (v_at : Int32) (v_start : Int32) (v_token : Int32) (v_value : Int32) (v_acts : Int32) (v_traced : Int32) (v_livedMany : Int32) (v_now : Nat → Int32) (p0 : Int32) (p1 : Int32) (p2 : Bool) (post : Int64 → Prop) (hF : wpX12_worth p0 p1 p2 v_now post) : Cr l D cy miX12_worth rmX12_worth emL NP [.ref h_this, .int p0, .int p1, .int (bz p2)] [(h_this, .inr (11, [x_lane, x_many, x_items, x_spare, .int v_status, x_tape, .int v_taped, .int v_faultKind, .int v_faultPlace, .int v_at, .int v_start, .int v_token, .int v_value, .ref h_now, x_draft, x_tried, x_past, .int v_acts, x_images, x_kept, x_trace, .int v_traced, x_comes, x_standing, x_brought, x_habit, .int v_livedMany])), (h_now, .inl (cy 0, 124, .inl v_now))] post := by
  refine Cr.of (by decide) (Nat.le_of_ble_eq_true rfl) ?_
  intro p e s m args below meth c ls Q C hQ hO hP hl
  obtain ⟨hx, hb, hr, hml, hown, hts, hK, hlk, hnm⟩ := id C
  have hb : c.code = cX12_worth := hb
  have hml : c.maxLocals = 21 := hml
  have hown : s.vm.findClass RX12 = some m.cls := hown
  have hl : lv_has ls 21 [(0, .ref h_this), (1, .int p0), (2, .int p1), (3, .int (bz p2))] := hl
  have L_127 : ∀ (n_127 : Nat) (l2 : Int32) (l3 : Bool) (l4 : Int32) (l6 : Int32) (l7 : Int32) (l8 : Int64) (l10 : Int64) (l12 : Int64) (l14 : Int32) (ls : Array Slot), lv_has ls 21 [(2, .int l2), (3, .int (bz l3)), (4, .int l4), (6, .int l6), (7, .int l7), (8, .long l8), (10, .long l10), (12, .long l12), (14, .int l14)] → wlX12_worth_127 v_now post n_127 l2 l3 l4 l6 l7 l8 l10 l12 l14 → W p l e rmX12_worth s m args below meth c s.heap [] 0 0 Q (F0 m 127 ls []) := by
    intro n_127
    induction n_127 with
    | zero =>
      intro l2 l3 l4 l6 l7 l8 l10 l12 l14 ls  hl hF
      simp only [wlX12_worth_127] at hF
    | succ n_127 ih_127 =>
      have J_222 : ∀ (l2 : Int32) (l3 : Bool) (l4 : Int32) (l6 : Int32) (l7 : Int32) (l8 : Int64) (l10 : Int64) (l14 : Int32) (k0 : Int64) (k1 : Int64) (k2 : Int64) (ls : Array Slot), lv_has ls 21 [(2, .int l2), (3, .int (bz l3)), (4, .int l4), (6, .int l6), (7, .int l7), (8, .long l8), (10, .long l10), (14, .int l14)] → wjX12_worth_222 v_now post (wlX12_worth_127 v_now post n_127) l2 l3 l4 l6 l7 l8 l10 l14 k0 k1 k2 → W p l e rmX12_worth s m args below meth c s.heap [] 0 0 Q (F0 m 222 ls [.long k0, .long k1, .long k2]) := by
        intro l2 l3 l4 l6 l7 l8 l10 l14 k0 k1 k2 ls  hl hF
        unfold wjX12_worth_222 at hF
        refine lv_lmul hx hb dX12_worth_222 ?_
        refine lv_ladd hx hb dX12_worth_223 ?_
        refine lv_lstore (lv' := [(12, .long (k2 + (k1 * k0))), (2, .int l2), (3, .int (bz l3)), (4, .int l4), (6, .int l6), (7, .int l7), (8, .long l8), (10, .long l10), (14, .int l14)]) hx hb dX12_worth_224 hl (by decide) rfl (fun ls hl => ?_)
        refine lv_iinc (v := (l14 + 1)) (lv' := [(14, .int (l14 + 1)), (12, .long (k2 + (k1 * k0))), (2, .int l2), (3, .int (bz l3)), (4, .int l4), (6, .int l6), (7, .int l7), (8, .long l8), (10, .long l10)]) hx hb dX12_worth_226 hl (k := 8) rfl rfl (by decide) rfl (fun ls hl => ?_)
        refine lv_goto (tgt := 127) hx hb dX12_worth_229 (by decide) ?_
        exact ih_127 l2 l3 l4 l6 l7 l8 l10 (k2 + (k1 * k0)) (l14 + 1) ls  (lv_sub hl [2, 3, 4, 5, 6, 7, 8, 1, 0] rfl) hF
      have J_200 : ∀ (l2 : Int32) (l3 : Bool) (l4 : Int32) (l6 : Int32) (l7 : Int32) (l8 : Int64) (l10 : Int64) (l14 : Int32) (l15 : Int64) (l19 : Int64) (k0 : Int64) (k1 : Int64) (ls : Array Slot), lv_has ls 21 [(2, .int l2), (3, .int (bz l3)), (4, .int l4), (6, .int l6), (7, .int l7), (8, .long l8), (10, .long l10), (14, .int l14), (15, .long l15), (19, .long l19)] → wjX12_worth_200 v_now post (wlX12_worth_127 v_now post n_127) l2 l3 l4 l6 l7 l8 l10 l14 l15 l19 k0 k1 → W p l e rmX12_worth s m args below meth c s.heap [] 0 0 Q (F0 m 200 ls [.long k0, .long k1]) := by
        intro l2 l3 l4 l6 l7 l8 l10 l14 l15 l19 k0 k1 ls  hl hF
        unfold wjX12_worth_200 at hF
        refine lv_lmul hx hb dX12_worth_200 ?_
        refine lv_bipush (v := 10) hx hb dX12_worth_201 (by decide) ?_
        refine lv_iload hx hb dX12_worth_203 (lv_at hl 2 rfl) ?_
        refine lv_isub hx hb dX12_worth_205 ?_
        refine lv_i2l hx hb dX12_worth_206 rfl ?_
        refine lv_lload hx hb dX12_worth_207 (lv_at hl 8 rfl) ?_
        refine lv_lload hx hb dX12_worth_209 (lv_at hl 9 rfl) ?_
        refine W.lcmp hx hb dX12_worth_211 ?_
        refine lv_if_le (tgt := 220) hx hb dX12_worth_212 (by decide) (fun c_ => ?_) (fun c_ => ?_)
        · have hF := hF.1 ((lg_cmp_le _ _).mp c_)
          refine lv_lload hx hb dX12_worth_220 (lv_at hl 9 rfl) ?_
          exact J_222 l2 l3 l4 l6 l7 l8 l10 l14 l19 (((10 - l4)).toInt64) (k1 * k0) ls  (lv_sub hl [0, 1, 2, 3, 4, 5, 6, 7] rfl) hF
        · have hF := hF.2 (fun z9 => c_ ((lg_cmp_le _ _).mpr z9))
          refine lv_lload hx hb dX12_worth_215 (lv_at hl 8 rfl) ?_
          refine lv_goto (tgt := 222) hx hb dX12_worth_217 (by decide) ?_
          exact J_222 l2 l3 l4 l6 l7 l8 l10 l14 l15 (((10 - l4)).toInt64) (k1 * k0) ls  (lv_sub hl [0, 1, 2, 3, 4, 5, 6, 7] rfl) hF
      intro l2 l3 l4 l6 l7 l8 l10 l12 l14 ls  hl hF
      unfold wlX12_worth_127 at hF
      refine lv_iload hx hb dX12_worth_127 (lv_at hl 8 rfl) ?_
      refine lv_iload_n hx hb dX12_worth_129 rfl (lv_at hl 0 rfl) ?_
      refine lv_icmp_gt (tgt := 232) hx hb dX12_worth_130 (by decide) (fun c_ => ?_) (fun c_ => ?_)
      · have hF := hF.1 c_
        refine lv_lload hx hb dX12_worth_232 (lv_at hl 7 rfl) ?_
        refine lv_iload_n hx hb dX12_worth_234 rfl (lv_at hl 0 rfl) ?_
        refine lv_i2l hx hb dX12_worth_235 rfl ?_
        refine lv_lload hx hb dX12_worth_236 (lv_at hl 5 rfl) ?_
        refine lv_lmul hx hb dX12_worth_238 ?_
        refine lv_iload_n hx hb dX12_worth_239 rfl (lv_at hl 0 rfl) ?_
        refine cS_r (As := [.int l2]) C mfX12_power t5_145 t5_144 (ccX12_power l D cy l2 _ hF) rfl rfl (hP.sub [] rfl) PR.np rfl hl.1 rfl (Nat.le_of_ble_eq_true rfl) dX12_worth_240 ⟨Nat.le_of_ble_eq_true rfl, Nat.le_of_ble_eq_true rfl⟩ ⟨Nat.le_of_ble_eq_true rfl, Nat.le_of_ble_eq_true rfl⟩ ?_
        intro r1 hF
        refine W.eq (g2 := F0 m 243 ls [.long r1, .long (((l2).toInt64) * l8), .long l12]) rfl ?_
        refine lv_lmul hx hb dX12_worth_243 ?_
        refine lv_lsub hx hb dX12_worth_244 ?_
        refine lv_iload_n hx hb dX12_worth_245 rfl (lv_at hl 0 rfl) ?_
        refine lv_iconst (v := 1) hx hb dX12_worth_246 (by decide) ?_
        refine lv_iadd hx hb dX12_worth_247 ?_
        refine cS_r (As := [.int (l2 + 1)]) C mfX12_power t5_145 t5_144 (ccX12_power l D cy (l2 + 1) _ hF) rfl rfl (hP.sub [] rfl) PR.np rfl hl.1 rfl (Nat.le_of_ble_eq_true rfl) dX12_worth_248 ⟨Nat.le_of_ble_eq_true rfl, Nat.le_of_ble_eq_true rfl⟩ ⟨Nat.le_of_ble_eq_true rfl, Nat.le_of_ble_eq_true rfl⟩ ?_
        intro r2 hF
        refine W.eq (g2 := F0 m 251 ls [.long r2, .long (l12 - ((((l2).toInt64) * l8) * r1))]) rfl ?_
        refine lv_iload_n hx hb dX12_worth_251 rfl (lv_at hl 1 rfl) ?_
        refine cS_r (As := [.long (l12 - ((((l2).toInt64) * l8) * r1)), .long r2, .int (bz l3)]) C mfX12_tells t5_148 t5_147 (ccX12_tells l D cy (l12 - ((((l2).toInt64) * l8) * r1)) r2 l3 _ hF) rfl rfl (hP.sub [] rfl) PR.np rfl hl.1 rfl (Nat.le_of_ble_eq_true rfl) dX12_worth_252 ⟨Nat.le_of_ble_eq_true rfl, Nat.le_of_ble_eq_true rfl⟩ ⟨Nat.le_of_ble_eq_true rfl, Nat.le_of_ble_eq_true rfl⟩ ?_
        intro r3 hF
        refine W.eq (g2 := F0 m 255 ls [.long r3]) rfl ?_
        exact rr_l C hQ rfl hF dX12_worth_255
      · have hF := hF.2 c_
        refine lv_lload hx hb dX12_worth_133 (lv_at hl 6 rfl) ?_
        refine lv_iload hx hb dX12_worth_135 (lv_at hl 8 rfl) ?_
        refine lv_iconst (v := 1) hx hb dX12_worth_137 (by decide) ?_
        refine lv_isub hx hb dX12_worth_138 ?_
        refine lv_i2l hx hb dX12_worth_139 rfl ?_
        refine lv_lload hx hb dX12_worth_140 (lv_at hl 5 rfl) ?_
        refine lv_lmul hx hb dX12_worth_142 ?_
        refine lv_ladd hx hb dX12_worth_143 ?_
        refine lv_iload hx hb dX12_worth_144 (lv_at hl 8 rfl) ?_
        refine lv_iconst (v := 1) hx hb dX12_worth_146 (by decide) ?_
        refine lv_isub hx hb dX12_worth_147 ?_
        refine cS_r (As := [.int (l14 - 1)]) C mfX12_power t5_145 t5_144 (ccX12_power l D cy (l14 - 1) _ hF) rfl rfl (hP.sub [] rfl) PR.np rfl hl.1 rfl (Nat.le_of_ble_eq_true rfl) dX12_worth_148 ⟨Nat.le_of_ble_eq_true rfl, Nat.le_of_ble_eq_true rfl⟩ ⟨Nat.le_of_ble_eq_true rfl, Nat.le_of_ble_eq_true rfl⟩ ?_
        intro r4 hF
        refine W.eq (g2 := F0 m 151 ls [.long r4, .long (l10 + ((((l14 - 1)).toInt64) * l8))]) rfl ?_
        refine lv_lmul hx hb dX12_worth_151 ?_
        refine lv_lstore (lv' := [(15, .long ((l10 + ((((l14 - 1)).toInt64) * l8)) * r4)), (2, .int l2), (3, .int (bz l3)), (4, .int l4), (6, .int l6), (7, .int l7), (8, .long l8), (10, .long l10), (12, .long l12), (14, .int l14)]) hx hb dX12_worth_152 hl (by decide) rfl (fun ls hl => ?_)
        refine lv_iload hx hb dX12_worth_154 (lv_at hl 4 rfl) ?_
        refine lv_i2l hx hb dX12_worth_156 rfl ?_
        refine lv_iload hx hb dX12_worth_157 (lv_at hl 9 rfl) ?_
        refine cS_r (As := [.int l14]) C mfX12_power t5_145 t5_144 (ccX12_power l D cy l14 _ hF) rfl rfl (hP.sub [] rfl) PR.np rfl hl.1 rfl (Nat.le_of_ble_eq_true rfl) dX12_worth_159 ⟨Nat.le_of_ble_eq_true rfl, Nat.le_of_ble_eq_true rfl⟩ ⟨Nat.le_of_ble_eq_true rfl, Nat.le_of_ble_eq_true rfl⟩ ?_
        intro r5 hF
        refine W.eq (g2 := F0 m 162 ls [.long r5, .long ((l6).toInt64)]) rfl ?_
        refine lv_lmul hx hb dX12_worth_162 ?_
        refine lv_lload hx hb dX12_worth_163 (lv_at hl 8 rfl) ?_
        refine lv_ladd hx hb dX12_worth_165 ?_
        refine lv_lstore (lv' := [(17, .long ((((l6).toInt64) * r5) + l12)), (15, .long ((l10 + ((((l14 - 1)).toInt64) * l8)) * r4)), (2, .int l2), (3, .int (bz l3)), (4, .int l4), (6, .int l6), (7, .int l7), (8, .long l8), (10, .long l10), (12, .long l12), (14, .int l14)]) hx hb dX12_worth_166 hl (by decide) rfl (fun ls hl => ?_)
        refine lv_iload hx hb dX12_worth_168 (lv_at hl 6 rfl) ?_
        refine lv_i2l hx hb dX12_worth_170 rfl ?_
        refine lv_iload hx hb dX12_worth_171 (lv_at hl 10 rfl) ?_
        refine cS_r (As := [.int l14]) C mfX12_power t5_145 t5_144 (ccX12_power l D cy l14 _ hF) rfl rfl (hP.sub [] rfl) PR.np rfl hl.1 rfl (Nat.le_of_ble_eq_true rfl) dX12_worth_173 ⟨Nat.le_of_ble_eq_true rfl, Nat.le_of_ble_eq_true rfl⟩ ⟨Nat.le_of_ble_eq_true rfl, Nat.le_of_ble_eq_true rfl⟩ ?_
        intro r6 hF
        refine W.eq (g2 := F0 m 176 ls [.long r6, .long ((l7).toInt64)]) rfl ?_
        refine lv_lmul hx hb dX12_worth_176 ?_
        refine lv_lload hx hb dX12_worth_177 (lv_at hl 9 rfl) ?_
        refine lv_ladd hx hb dX12_worth_179 ?_
        refine lv_lstore (lv' := [(19, .long ((((l7).toInt64) * r6) + l12)), (17, .long ((((l6).toInt64) * r5) + l12)), (15, .long ((l10 + ((((l14 - 1)).toInt64) * l8)) * r4)), (2, .int l2), (3, .int (bz l3)), (4, .int l4), (6, .int l6), (7, .int l7), (8, .long l8), (10, .long l10), (12, .long l12), (14, .int l14)]) hx hb dX12_worth_180 hl (by decide) rfl (fun ls hl => ?_)
        refine lv_iload hx hb dX12_worth_182 (lv_at hl 5 rfl) ?_
        refine lv_i2l hx hb dX12_worth_184 rfl ?_
        refine lv_lload hx hb dX12_worth_185 (lv_at hl 2 rfl) ?_
        refine lv_lload hx hb dX12_worth_187 (lv_at hl 1 rfl) ?_
        refine W.lcmp hx hb dX12_worth_189 ?_
        refine lv_if_le (tgt := 198) hx hb dX12_worth_190 (by decide) (fun c_ => ?_) (fun c_ => ?_)
        · have hF := hF.1 ((lg_cmp_le _ _).mp c_)
          refine lv_lload hx hb dX12_worth_198 (lv_at hl 1 rfl) ?_
          exact J_200 l2 l3 l4 l6 l7 l8 l10 l14 ((l10 + ((((l14 - 1)).toInt64) * l8)) * r4) ((((l7).toInt64) * r6) + l12) ((((l6).toInt64) * r5) + l12) ((l4).toInt64) ls  (lv_sub hl [3, 4, 5, 6, 7, 8, 9, 11, 2, 0] rfl) hF
        · have hF := hF.2 (fun z9 => c_ ((lg_cmp_le _ _).mpr z9))
          refine lv_lload hx hb dX12_worth_193 (lv_at hl 2 rfl) ?_
          refine lv_goto (tgt := 200) hx hb dX12_worth_195 (by decide) ?_
          exact J_200 l2 l3 l4 l6 l7 l8 l10 l14 ((l10 + ((((l14 - 1)).toInt64) * l8)) * r4) ((((l7).toInt64) * r6) + l12) ((l10 + ((((l14 - 1)).toInt64) * l8)) * r4) ((l4).toInt64) ls  (lv_sub hl [3, 4, 5, 6, 7, 8, 9, 11, 2, 0] rfl) hF
  unfold wpX12_worth at hF
  refine lv_aload_n hx hb dX12_worth_0 rfl (lv_at hl 0 rfl) ?_
  refine lv_iload_n hx hb dX12_worth_1 rfl (lv_at hl 1 rfl) ?_
  refine cV_r (As := [.int p0]) C mfX12_isPerson t5_90 ts_26 t5_88 (ccX12_isPerson l D cy h_this h_now x_lane x_many x_items x_spare x_tape x_draft x_tried x_past x_images x_kept x_trace x_comes x_standing x_brought x_habit v_status v_taped v_faultKind v_faultPlace v_at v_start v_token v_value v_acts v_traced v_livedMany v_now p0 _ hF) rfl rfl (hP.sub [0, 1] rfl) PR.np hP 0 11 rfl rfl rfl rfl hl.1 rfl (Nat.le_of_ble_eq_true rfl) dX12_worth_2 ⟨Nat.le_of_ble_eq_true rfl, Nat.le_of_ble_eq_true rfl⟩ ⟨Nat.le_of_ble_eq_true rfl, Nat.le_of_ble_eq_true rfl⟩ ?_
  intro r1 hF
  refine W.eq (g2 := F0 m 5 ls [.int (bz r1)]) rfl ?_
  refine lv_if_eq (tgt := 17) hx hb dX12_worth_5 (by decide) (fun c_ => ?_) (fun c_ => ?_)
  · have hF := hF.1 ((bz_0 _).mp c_)
    refine lv_ldc2 hx hb hown (hts _ t5_128) dX12_worth_17 ?_
    exact rr_l C hQ rfl hF dX12_worth_20
  · have hF := hF.2 ((bz_1 _).mp c_)
    refine lv_iload_n hx hb dX12_worth_8 rfl (lv_at hl 2 rfl) ?_
    refine lv_iconst (v := 1) hx hb dX12_worth_9 (by decide) ?_
    refine lv_iconst (v := 3) hx hb dX12_worth_10 (by decide) ?_
    refine cS_r (As := [.int p1, .int 1, .int 3]) C mfX12_in t4_215 t4_214 (ccX12_in l D cy p1 1 3 _ hF) rfl rfl (hP.sub [] rfl) PR.np rfl hl.1 rfl (Nat.le_of_ble_eq_true rfl) dX12_worth_11 ⟨Nat.le_of_ble_eq_true rfl, Nat.le_of_ble_eq_true rfl⟩ ⟨Nat.le_of_ble_eq_true rfl, Nat.le_of_ble_eq_true rfl⟩ ?_
    intro r2 hF
    refine W.eq (g2 := F0 m 14 ls [.int (bz r2)]) rfl ?_
    refine lv_if_ne (tgt := 21) hx hb dX12_worth_14 (by decide) (fun c_ => ?_) (fun c_ => ?_)
    · have hF := hF.1 ((bz_1 _).mp c_)
      refine lv_aload_n hx hb dX12_worth_21 rfl (lv_at hl 0 rfl) ?_
      refine va_get (D := D) (ci := 11) (v := .ref h_now) (C := RX12) (T := TX12) (N := 27) hx hb hts inTX12 hown hK.1 hP 0 rfl rfl 13 (by decide) (hts _ t4_137) (fun _ h9 => h9) rfl dX12_worth_22 ?_
      refine lv_iload_n hx hb dX12_worth_25 rfl (lv_at hl 1 rfl) ?_
      refine cS_r (As := [.ref h_now, .int p0]) C mfX12_kindIn t5_82 t5_81 (ccX12_kindIn l D cy h_now v_now p0 _ hF) rfl rfl (hP.sub [1] rfl) PR.np rfl hl.1 rfl (Nat.le_of_ble_eq_true rfl) dX12_worth_26 ⟨Nat.le_of_ble_eq_true rfl, Nat.le_of_ble_eq_true rfl⟩ ⟨Nat.le_of_ble_eq_true rfl, Nat.le_of_ble_eq_true rfl⟩ ?_
      intro r3 hF
      refine W.eq (g2 := F0 m 29 ls [.int r3]) rfl ?_
      refine lv_iconst (v := 4) hx hb dX12_worth_29 (by decide) ?_
      refine lv_icmp_ne (tgt := 43) hx hb dX12_worth_30 (by decide) (fun c_ => ?_) (fun c_ => ?_)
      · have hF := hF.1 c_
        refine lv_aload_n hx hb dX12_worth_43 rfl (lv_at hl 0 rfl) ?_
        refine va_get (D := D) (ci := 11) (v := .ref h_now) (C := RX12) (T := TX12) (N := 27) hx hb hts inTX12 hown hK.1 hP 0 rfl rfl 13 (by decide) (hts _ t4_137) (fun _ h9 => h9) rfl dX12_worth_44 ?_
        refine lv_iload_n hx hb dX12_worth_47 rfl (lv_at hl 1 rfl) ?_
        refine lv_iconst (v := 0) hx hb dX12_worth_48 (by decide) ?_
        refine cS_r (As := [.ref h_now, .int p0, .int 0]) C mfX12_odds t5_79 t5_78 (ccX12_odds l D cy h_now v_now p0 0 _ hF) rfl rfl (hP.sub [1] rfl) PR.np rfl hl.1 rfl (Nat.le_of_ble_eq_true rfl) dX12_worth_49 ⟨Nat.le_of_ble_eq_true rfl, Nat.le_of_ble_eq_true rfl⟩ ⟨Nat.le_of_ble_eq_true rfl, Nat.le_of_ble_eq_true rfl⟩ ?_
        intro r4 hF
        refine W.eq (g2 := F0 m 52 ls [.int r4]) rfl ?_
        refine lv_istore (lv' := [(4, .int r4), (0, .ref h_this), (1, .int p0), (2, .int p1), (3, .int (bz p2))]) hx hb dX12_worth_52 hl (by decide) rfl (fun ls hl => ?_)
        refine lv_aload_n hx hb dX12_worth_54 rfl (lv_at hl 1 rfl) ?_
        refine va_get (D := D) (ci := 11) (v := .ref h_now) (C := RX12) (T := TX12) (N := 27) hx hb hts inTX12 hown hK.1 hP 0 rfl rfl 13 (by decide) (hts _ t4_137) (fun _ h9 => h9) rfl dX12_worth_55 ?_
        refine lv_iload_n hx hb dX12_worth_58 rfl (lv_at hl 2 rfl) ?_
        refine lv_iconst (v := 1) hx hb dX12_worth_59 (by decide) ?_
        refine cS_r (As := [.ref h_now, .int p0, .int 1]) C mfX12_odds t5_79 t5_78 (ccX12_odds l D cy h_now v_now p0 1 _ hF) rfl rfl (hP.sub [1] rfl) PR.np rfl hl.1 rfl (Nat.le_of_ble_eq_true rfl) dX12_worth_60 ⟨Nat.le_of_ble_eq_true rfl, Nat.le_of_ble_eq_true rfl⟩ ⟨Nat.le_of_ble_eq_true rfl, Nat.le_of_ble_eq_true rfl⟩ ?_
        intro r5 hF
        refine W.eq (g2 := F0 m 63 ls [.int r5]) rfl ?_
        refine lv_istore (lv' := [(5, .int r5), (4, .int r4), (0, .ref h_this), (1, .int p0), (2, .int p1), (3, .int (bz p2))]) hx hb dX12_worth_63 hl (by decide) rfl (fun ls hl => ?_)
        refine lv_aload_n hx hb dX12_worth_65 rfl (lv_at hl 2 rfl) ?_
        refine va_get (D := D) (ci := 11) (v := .ref h_now) (C := RX12) (T := TX12) (N := 27) hx hb hts inTX12 hown hK.1 hP 0 rfl rfl 13 (by decide) (hts _ t4_137) (fun _ h9 => h9) rfl dX12_worth_66 ?_
        refine lv_iload_n hx hb dX12_worth_69 rfl (lv_at hl 3 rfl) ?_
        refine lv_iconst (v := 1) hx hb dX12_worth_70 (by decide) ?_
        refine cS_r (As := [.ref h_now, .int p0, .int (bz true)]) C mfX12_brings t5_106 t5_105 (ccX12_brings l D cy h_now v_now p0 true _ hF) rfl rfl (hP.sub [1] rfl) PR.np rfl hl.1 rfl (Nat.le_of_ble_eq_true rfl) dX12_worth_71 ⟨Nat.le_of_ble_eq_true rfl, Nat.le_of_ble_eq_true rfl⟩ ⟨Nat.le_of_ble_eq_true rfl, Nat.le_of_ble_eq_true rfl⟩ ?_
        intro r6 hF
        refine W.eq (g2 := F0 m 74 ls [.int r6]) rfl ?_
        refine lv_istore (lv' := [(6, .int r6), (5, .int r5), (4, .int r4), (0, .ref h_this), (1, .int p0), (2, .int p1), (3, .int (bz p2))]) hx hb dX12_worth_74 hl (by decide) rfl (fun ls hl => ?_)
        refine lv_aload_n hx hb dX12_worth_76 rfl (lv_at hl 3 rfl) ?_
        refine va_get (D := D) (ci := 11) (v := .ref h_now) (C := RX12) (T := TX12) (N := 27) hx hb hts inTX12 hown hK.1 hP 0 rfl rfl 13 (by decide) (hts _ t4_137) (fun _ h9 => h9) rfl dX12_worth_77 ?_
        refine lv_iload_n hx hb dX12_worth_80 rfl (lv_at hl 4 rfl) ?_
        refine lv_iconst (v := 0) hx hb dX12_worth_81 (by decide) ?_
        refine cS_r (As := [.ref h_now, .int p0, .int (bz false)]) C mfX12_brings t5_106 t5_105 (ccX12_brings l D cy h_now v_now p0 false _ hF) rfl rfl (hP.sub [1] rfl) PR.np rfl hl.1 rfl (Nat.le_of_ble_eq_true rfl) dX12_worth_82 ⟨Nat.le_of_ble_eq_true rfl, Nat.le_of_ble_eq_true rfl⟩ ⟨Nat.le_of_ble_eq_true rfl, Nat.le_of_ble_eq_true rfl⟩ ?_
        intro r7 hF
        refine W.eq (g2 := F0 m 85 ls [.int r7]) rfl ?_
        refine lv_istore (lv' := [(7, .int r7), (6, .int r6), (5, .int r5), (4, .int r4), (0, .ref h_this), (1, .int p0), (2, .int p1), (3, .int (bz p2))]) hx hb dX12_worth_85 hl (by decide) rfl (fun ls hl => ?_)
        refine lv_iload hx hb dX12_worth_87 (lv_at hl 3 rfl) ?_
        refine lv_iload hx hb dX12_worth_89 (lv_at hl 1 rfl) ?_
        refine lv_imul hx hb dX12_worth_91 ?_
        refine lv_bipush (v := 10) hx hb dX12_worth_92 (by decide) ?_
        refine lv_iload hx hb dX12_worth_94 (lv_at hl 3 rfl) ?_
        refine lv_isub hx hb dX12_worth_96 ?_
        refine lv_iload hx hb dX12_worth_97 (lv_at hl 0 rfl) ?_
        refine lv_imul hx hb dX12_worth_99 ?_
        refine lv_iadd hx hb dX12_worth_100 ?_
        refine lv_i2l hx hb dX12_worth_101 rfl ?_
        refine lv_lstore (lv' := [(8, .long ((((r4 * r6) + ((10 - r4) * r7))).toInt64)), (7, .int r7), (6, .int r6), (5, .int r5), (4, .int r4), (0, .ref h_this), (1, .int p0), (2, .int p1), (3, .int (bz p2))]) hx hb dX12_worth_102 hl (by decide) rfl (fun ls hl => ?_)
        refine lv_iload hx hb dX12_worth_104 (lv_at hl 3 rfl) ?_
        refine lv_iload hx hb dX12_worth_106 (lv_at hl 2 rfl) ?_
        refine lv_imul hx hb dX12_worth_108 ?_
        refine lv_bipush (v := 10) hx hb dX12_worth_109 (by decide) ?_
        refine lv_iload hx hb dX12_worth_111 (lv_at hl 3 rfl) ?_
        refine lv_isub hx hb dX12_worth_113 ?_
        refine lv_iload hx hb dX12_worth_114 (lv_at hl 1 rfl) ?_
        refine lv_imul hx hb dX12_worth_116 ?_
        refine lv_iadd hx hb dX12_worth_117 ?_
        refine lv_i2l hx hb dX12_worth_118 rfl ?_
        refine lv_lstore (lv' := [(10, .long ((((r5 * r6) + ((10 - r5) * r7))).toInt64)), (8, .long ((((r4 * r6) + ((10 - r4) * r7))).toInt64)), (7, .int r7), (6, .int r6), (5, .int r5), (4, .int r4), (0, .ref h_this), (1, .int p0), (2, .int p1), (3, .int (bz p2))]) hx hb dX12_worth_119 hl (by decide) rfl (fun ls hl => ?_)
        refine lv_lconst (v := 0) hx hb dX12_worth_121 (by decide) ?_
        refine lv_lstore (lv' := [(12, .long 0), (10, .long ((((r5 * r6) + ((10 - r5) * r7))).toInt64)), (8, .long ((((r4 * r6) + ((10 - r4) * r7))).toInt64)), (7, .int r7), (6, .int r6), (5, .int r5), (4, .int r4), (0, .ref h_this), (1, .int p0), (2, .int p1), (3, .int (bz p2))]) hx hb dX12_worth_122 hl (by decide) rfl (fun ls hl => ?_)
        refine lv_iconst (v := 1) hx hb dX12_worth_124 (by decide) ?_
        refine lv_istore (lv' := [(14, .int 1), (12, .long 0), (10, .long ((((r5 * r6) + ((10 - r5) * r7))).toInt64)), (8, .long ((((r4 * r6) + ((10 - r4) * r7))).toInt64)), (7, .int r7), (6, .int r6), (5, .int r5), (4, .int r4), (0, .ref h_this), (1, .int p0), (2, .int p1), (3, .int (bz p2))]) hx hb dX12_worth_125 hl (by decide) rfl (fun ls hl => ?_)
        exact L_127 fu p1 p2 r4 r6 r7 ((((r4 * r6) + ((10 - r4) * r7))).toInt64) ((((r5 * r6) + ((10 - r5) * r7))).toInt64) 0 1 ls  (lv_sub hl [10, 11, 7, 5, 4, 3, 2, 1, 0] rfl) hF
      · have hF := hF.2 c_
        refine lv_iload_n hx hb dX12_worth_33 rfl (lv_at hl 3 rfl) ?_
        refine lv_if_eq (tgt := 41) hx hb dX12_worth_34 (by decide) (fun c_ => ?_) (fun c_ => ?_)
        · have hF := hF.1 ((bz_0 _).mp c_)
          refine lv_lconst (v := 1) hx hb dX12_worth_41 (by decide) ?_
          exact rr_l C hQ rfl hF dX12_worth_42
        · have hF := hF.2 ((bz_1 _).mp c_)
          refine lv_lconst (v := 0) hx hb dX12_worth_37 (by decide) ?_
          refine lv_goto (tgt := 42) hx hb dX12_worth_38 (by decide) ?_
          exact rr_l C hQ rfl hF dX12_worth_42
    · have hF := hF.2 ((bz_0 _).mp c_)
      refine lv_ldc2 hx hb hown (hts _ t5_128) dX12_worth_17 ?_
      exact rr_l C hQ rfl hF dX12_worth_20

def wjX12_knows_92 (v_now : Nat → Int32) (post : Int64 → Prop) (l4 : Bool) (l7 : Int64) (k0 : Int32) (k1 : Int32) : Prop := (¬ (l7 + (((k1 * k0)).toInt64)) = 0 → (wpX12_tells l7 (l7 + (((k1 * k0)).toInt64)) l4 (fun r1 => post r1))) ∧ ((l7 + (((k1 * k0)).toInt64)) = 0 → (post (-1000000)))
def wjX12_knows_69 (v_now : Nat → Int32) (post : Int64 → Prop) (l2 : Int32) (l3 : Int32) (l4 : Bool) (l5 : Int32) (k0 : Int32) (k1 : Int32) : Prop := (¬ l3 = 1 → (wjX12_knows_92 v_now post l4 (((k1 * k0)).toInt64) (10 - l5) (10 - l2))) ∧ (l3 = 1 → (wjX12_knows_92 v_now post l4 (((k1 * k0)).toInt64) l5 (10 - l2)))
def wpX12_knows (p0 : Int32) (p1 : Int32) (p2 : Int32) (p3 : Bool) (v_now : Nat → Int32) (post : Int64 → Prop) : Prop := wpX12_isPerson p0 v_now (fun r1 => (r1 = false → (post (-1000001))) ∧ (r1 = true → (wpX12_in p1 0 10 (fun r2 => (r2 = false → (post (-1000001))) ∧ (r2 = true → (wpX12_in p2 0 1 (fun r3 => (r3 = true → (wpX12_odds p0 0 v_now (fun r4 => wpX12_odds p0 1 v_now (fun r5 => (¬ p2 = 1 → (wjX12_knows_69 v_now post p1 p2 p3 r4 (10 - r5) p1)) ∧ (p2 = 1 → (wjX12_knows_69 v_now post p1 p2 p3 r4 r5 p1)))))) ∧ (r3 = false → (post (-1000001))))))))))
abbrev miX12_knows : MI := (yX12_knows, cX12_knows, 11, (some .long))
theorem mfX12_knows : MF miX12_knows 4 := ⟨t5_185, t1_8, by decide +kernel⟩
abbrev rmX12_knows : Room := { frames := 2, cells := 0, slots := 0, locals := 45 }
set_option maxHeartbeats 4000000 in
set_option maxRecDepth 100000 in
theorem ccX12_knows (l : Launch) (D : va_G) (cy : Nat → ClassId) (h_this : Nat) (h_now : Nat) (x_lane : Value) (x_many : Value) (x_items : Value) (x_spare : Value) (x_tape : Value) (x_draft : Value) (x_tried : Value) (x_past : Value) (x_images : Value) (x_kept : Value) (x_trace : Value) (x_comes : Value) (x_standing : Value) (x_brought : Value) (x_habit : Value) (v_status : Int32) (v_taped : Int32) (v_faultKind : Int32) (v_faultPlace : Int32) (v_at : Int32) (v_start : Int32) (v_token : Int32) (v_value : Int32) (v_acts : Int32) (v_traced : Int32) (v_livedMany : Int32) (v_now : Nat → Int32) (p0 : Int32) (p1 : Int32) (p2 : Int32) (p3 : Bool) (post : Int64 → Prop) (hF : wpX12_knows p0 p1 p2 p3 v_now post) : Cr l D cy miX12_knows rmX12_knows emL NP [.ref h_this, .int p0, .int p1, .int p2, .int (bz p3)] [(h_this, .inr (11, [x_lane, x_many, x_items, x_spare, .int v_status, x_tape, .int v_taped, .int v_faultKind, .int v_faultPlace, .int v_at, .int v_start, .int v_token, .int v_value, .ref h_now, x_draft, x_tried, x_past, .int v_acts, x_images, x_kept, x_trace, .int v_traced, x_comes, x_standing, x_brought, x_habit, .int v_livedMany])), (h_now, .inl (cy 0, 124, .inl v_now))] post := by
  refine Cr.of (by decide) (Nat.le_of_ble_eq_true rfl) ?_
  intro p e s m args below meth c ls Q C hQ hO hP hl
  obtain ⟨hx, hb, hr, hml, hown, hts, hK, hlk, hnm⟩ := id C
  have hb : c.code = cX12_knows := hb
  have hml : c.maxLocals = 11 := hml
  have hown : s.vm.findClass RX12 = some m.cls := hown
  have hl : lv_has ls 11 [(0, .ref h_this), (1, .int p0), (2, .int p1), (3, .int p2), (4, .int (bz p3))] := hl
  have J_92 : ∀ (l4 : Bool) (l7 : Int64) (k0 : Int32) (k1 : Int32) (ls : Array Slot), lv_has ls 11 [(4, .int (bz l4)), (7, .long l7)] → wjX12_knows_92 v_now post l4 l7 k0 k1 → W p l e rmX12_knows s m args below meth c s.heap [] 0 0 Q (F0 m 92 ls [.int k0, .int k1]) := by
    intro l4 l7 k0 k1 ls  hl hF
    unfold wjX12_knows_92 at hF
    refine lv_imul hx hb dX12_knows_92 ?_
    refine lv_i2l hx hb dX12_knows_93 rfl ?_
    refine lv_lstore (lv' := [(9, .long (((k1 * k0)).toInt64)), (4, .int (bz l4)), (7, .long l7)]) hx hb dX12_knows_94 hl (by decide) rfl (fun ls hl => ?_)
    refine lv_lload hx hb dX12_knows_96 (lv_at hl 2 rfl) ?_
    refine lv_lload hx hb dX12_knows_98 (lv_at hl 0 rfl) ?_
    refine lv_ladd hx hb dX12_knows_100 ?_
    refine lv_lconst (v := 0) hx hb dX12_knows_101 (by decide) ?_
    refine W.lcmp hx hb dX12_knows_102 ?_
    refine lv_if_ne (tgt := 112) hx hb dX12_knows_103 (by decide) (fun c_ => ?_) (fun c_ => ?_)
    · have hF := hF.1 (fun z9 => c_ ((lg_cmp_eq _ _).mpr z9))
      refine lv_lload hx hb dX12_knows_112 (lv_at hl 2 rfl) ?_
      refine lv_lload hx hb dX12_knows_114 (lv_at hl 2 rfl) ?_
      refine lv_lload hx hb dX12_knows_116 (lv_at hl 0 rfl) ?_
      refine lv_ladd hx hb dX12_knows_118 ?_
      refine lv_iload hx hb dX12_knows_119 (lv_at hl 1 rfl) ?_
      refine cS_r (As := [.long l7, .long (l7 + (((k1 * k0)).toInt64)), .int (bz l4)]) C mfX12_tells t5_148 t5_147 (ccX12_tells l D cy l7 (l7 + (((k1 * k0)).toInt64)) l4 _ hF) rfl rfl (hP.sub [] rfl) PR.np rfl hl.1 rfl (Nat.le_of_ble_eq_true rfl) dX12_knows_121 ⟨Nat.le_of_ble_eq_true rfl, Nat.le_of_ble_eq_true rfl⟩ ⟨Nat.le_of_ble_eq_true rfl, Nat.le_of_ble_eq_true rfl⟩ ?_
      intro r1 hF
      refine W.eq (g2 := F0 m 124 ls [.long r1]) rfl ?_
      exact rr_l C hQ rfl hF dX12_knows_124
    · have hF := hF.2 ((lg_cmp_eq _ _).mp c_)
      refine lv_ldc2 hx hb hown (hts _ t5_186) dX12_knows_106 ?_
      refine lv_goto (tgt := 124) hx hb dX12_knows_109 (by decide) ?_
      exact rr_l C hQ rfl hF dX12_knows_124
  have J_69 : ∀ (l2 : Int32) (l3 : Int32) (l4 : Bool) (l5 : Int32) (k0 : Int32) (k1 : Int32) (ls : Array Slot), lv_has ls 11 [(2, .int l2), (3, .int l3), (4, .int (bz l4)), (5, .int l5)] → wjX12_knows_69 v_now post l2 l3 l4 l5 k0 k1 → W p l e rmX12_knows s m args below meth c s.heap [] 0 0 Q (F0 m 69 ls [.int k0, .int k1]) := by
    intro l2 l3 l4 l5 k0 k1 ls  hl hF
    unfold wjX12_knows_69 at hF
    refine lv_imul hx hb dX12_knows_69 ?_
    refine lv_i2l hx hb dX12_knows_70 rfl ?_
    refine lv_lstore (lv' := [(7, .long (((k1 * k0)).toInt64)), (2, .int l2), (3, .int l3), (4, .int (bz l4)), (5, .int l5)]) hx hb dX12_knows_71 hl (by decide) rfl (fun ls hl => ?_)
    refine lv_bipush (v := 10) hx hb dX12_knows_73 (by decide) ?_
    refine lv_iload_n hx hb dX12_knows_75 rfl (lv_at hl 1 rfl) ?_
    refine lv_isub hx hb dX12_knows_76 ?_
    refine lv_iload_n hx hb dX12_knows_77 rfl (lv_at hl 2 rfl) ?_
    refine lv_iconst (v := 1) hx hb dX12_knows_78 (by decide) ?_
    refine lv_icmp_ne (tgt := 87) hx hb dX12_knows_79 (by decide) (fun c_ => ?_) (fun c_ => ?_)
    · have hF := hF.1 c_
      refine lv_bipush (v := 10) hx hb dX12_knows_87 (by decide) ?_
      refine lv_iload hx hb dX12_knows_89 (lv_at hl 4 rfl) ?_
      refine lv_isub hx hb dX12_knows_91 ?_
      exact J_92 l4 (((k1 * k0)).toInt64) (10 - l5) (10 - l2) ls  (lv_sub hl [3, 0] rfl) hF
    · have hF := hF.2 c_
      refine lv_iload hx hb dX12_knows_82 (lv_at hl 4 rfl) ?_
      refine lv_goto (tgt := 92) hx hb dX12_knows_84 (by decide) ?_
      exact J_92 l4 (((k1 * k0)).toInt64) l5 (10 - l2) ls  (lv_sub hl [3, 0] rfl) hF
  unfold wpX12_knows at hF
  refine lv_aload_n hx hb dX12_knows_0 rfl (lv_at hl 0 rfl) ?_
  refine lv_iload_n hx hb dX12_knows_1 rfl (lv_at hl 1 rfl) ?_
  refine cV_r (As := [.int p0]) C mfX12_isPerson t5_90 ts_26 t5_88 (ccX12_isPerson l D cy h_this h_now x_lane x_many x_items x_spare x_tape x_draft x_tried x_past x_images x_kept x_trace x_comes x_standing x_brought x_habit v_status v_taped v_faultKind v_faultPlace v_at v_start v_token v_value v_acts v_traced v_livedMany v_now p0 _ hF) rfl rfl (hP.sub [0, 1] rfl) PR.np hP 0 11 rfl rfl rfl rfl hl.1 rfl (Nat.le_of_ble_eq_true rfl) dX12_knows_2 ⟨Nat.le_of_ble_eq_true rfl, Nat.le_of_ble_eq_true rfl⟩ ⟨Nat.le_of_ble_eq_true rfl, Nat.le_of_ble_eq_true rfl⟩ ?_
  intro r1 hF
  refine W.eq (g2 := F0 m 5 ls [.int (bz r1)]) rfl ?_
  refine lv_if_eq (tgt := 27) hx hb dX12_knows_5 (by decide) (fun c_ => ?_) (fun c_ => ?_)
  · have hF := hF.1 ((bz_0 _).mp c_)
    refine lv_ldc2 hx hb hown (hts _ t5_128) dX12_knows_27 ?_
    exact rr_l C hQ rfl hF dX12_knows_30
  · have hF := hF.2 ((bz_1 _).mp c_)
    refine lv_iload_n hx hb dX12_knows_8 rfl (lv_at hl 2 rfl) ?_
    refine lv_iconst (v := 0) hx hb dX12_knows_9 (by decide) ?_
    refine lv_bipush (v := 10) hx hb dX12_knows_10 (by decide) ?_
    refine cS_r (As := [.int p1, .int 0, .int 10]) C mfX12_in t4_215 t4_214 (ccX12_in l D cy p1 0 10 _ hF) rfl rfl (hP.sub [] rfl) PR.np rfl hl.1 rfl (Nat.le_of_ble_eq_true rfl) dX12_knows_12 ⟨Nat.le_of_ble_eq_true rfl, Nat.le_of_ble_eq_true rfl⟩ ⟨Nat.le_of_ble_eq_true rfl, Nat.le_of_ble_eq_true rfl⟩ ?_
    intro r2 hF
    refine W.eq (g2 := F0 m 15 ls [.int (bz r2)]) rfl ?_
    refine lv_if_eq (tgt := 27) hx hb dX12_knows_15 (by decide) (fun c_ => ?_) (fun c_ => ?_)
    · have hF := hF.1 ((bz_0 _).mp c_)
      refine lv_ldc2 hx hb hown (hts _ t5_128) dX12_knows_27 ?_
      exact rr_l C hQ rfl hF dX12_knows_30
    · have hF := hF.2 ((bz_1 _).mp c_)
      refine lv_iload_n hx hb dX12_knows_18 rfl (lv_at hl 3 rfl) ?_
      refine lv_iconst (v := 0) hx hb dX12_knows_19 (by decide) ?_
      refine lv_iconst (v := 1) hx hb dX12_knows_20 (by decide) ?_
      refine cS_r (As := [.int p2, .int 0, .int 1]) C mfX12_in t4_215 t4_214 (ccX12_in l D cy p2 0 1 _ hF) rfl rfl (hP.sub [] rfl) PR.np rfl hl.1 rfl (Nat.le_of_ble_eq_true rfl) dX12_knows_21 ⟨Nat.le_of_ble_eq_true rfl, Nat.le_of_ble_eq_true rfl⟩ ⟨Nat.le_of_ble_eq_true rfl, Nat.le_of_ble_eq_true rfl⟩ ?_
      intro r3 hF
      refine W.eq (g2 := F0 m 24 ls [.int (bz r3)]) rfl ?_
      refine lv_if_ne (tgt := 31) hx hb dX12_knows_24 (by decide) (fun c_ => ?_) (fun c_ => ?_)
      · have hF := hF.1 ((bz_1 _).mp c_)
        refine lv_aload_n hx hb dX12_knows_31 rfl (lv_at hl 0 rfl) ?_
        refine va_get (D := D) (ci := 11) (v := .ref h_now) (C := RX12) (T := TX12) (N := 27) hx hb hts inTX12 hown hK.1 hP 0 rfl rfl 13 (by decide) (hts _ t4_137) (fun _ h9 => h9) rfl dX12_knows_32 ?_
        refine lv_iload_n hx hb dX12_knows_35 rfl (lv_at hl 1 rfl) ?_
        refine lv_iconst (v := 0) hx hb dX12_knows_36 (by decide) ?_
        refine cS_r (As := [.ref h_now, .int p0, .int 0]) C mfX12_odds t5_79 t5_78 (ccX12_odds l D cy h_now v_now p0 0 _ hF) rfl rfl (hP.sub [1] rfl) PR.np rfl hl.1 rfl (Nat.le_of_ble_eq_true rfl) dX12_knows_37 ⟨Nat.le_of_ble_eq_true rfl, Nat.le_of_ble_eq_true rfl⟩ ⟨Nat.le_of_ble_eq_true rfl, Nat.le_of_ble_eq_true rfl⟩ ?_
        intro r4 hF
        refine W.eq (g2 := F0 m 40 ls [.int r4]) rfl ?_
        refine lv_istore (lv' := [(5, .int r4), (0, .ref h_this), (1, .int p0), (2, .int p1), (3, .int p2), (4, .int (bz p3))]) hx hb dX12_knows_40 hl (by decide) rfl (fun ls hl => ?_)
        refine lv_aload_n hx hb dX12_knows_42 rfl (lv_at hl 1 rfl) ?_
        refine va_get (D := D) (ci := 11) (v := .ref h_now) (C := RX12) (T := TX12) (N := 27) hx hb hts inTX12 hown hK.1 hP 0 rfl rfl 13 (by decide) (hts _ t4_137) (fun _ h9 => h9) rfl dX12_knows_43 ?_
        refine lv_iload_n hx hb dX12_knows_46 rfl (lv_at hl 2 rfl) ?_
        refine lv_iconst (v := 1) hx hb dX12_knows_47 (by decide) ?_
        refine cS_r (As := [.ref h_now, .int p0, .int 1]) C mfX12_odds t5_79 t5_78 (ccX12_odds l D cy h_now v_now p0 1 _ hF) rfl rfl (hP.sub [1] rfl) PR.np rfl hl.1 rfl (Nat.le_of_ble_eq_true rfl) dX12_knows_48 ⟨Nat.le_of_ble_eq_true rfl, Nat.le_of_ble_eq_true rfl⟩ ⟨Nat.le_of_ble_eq_true rfl, Nat.le_of_ble_eq_true rfl⟩ ?_
        intro r5 hF
        refine W.eq (g2 := F0 m 51 ls [.int r5]) rfl ?_
        refine lv_istore (lv' := [(6, .int r5), (5, .int r4), (0, .ref h_this), (1, .int p0), (2, .int p1), (3, .int p2), (4, .int (bz p3))]) hx hb dX12_knows_51 hl (by decide) rfl (fun ls hl => ?_)
        refine lv_iload_n hx hb dX12_knows_53 rfl (lv_at hl 4 rfl) ?_
        refine lv_iload_n hx hb dX12_knows_54 rfl (lv_at hl 5 rfl) ?_
        refine lv_iconst (v := 1) hx hb dX12_knows_55 (by decide) ?_
        refine lv_icmp_ne (tgt := 64) hx hb dX12_knows_56 (by decide) (fun c_ => ?_) (fun c_ => ?_)
        · have hF := hF.1 c_
          refine lv_bipush (v := 10) hx hb dX12_knows_64 (by decide) ?_
          refine lv_iload hx hb dX12_knows_66 (lv_at hl 0 rfl) ?_
          refine lv_isub hx hb dX12_knows_68 ?_
          exact J_69 p1 p2 p3 r4 (10 - r5) p1 ls  (lv_sub hl [4, 5, 6, 1] rfl) hF
        · have hF := hF.2 c_
          refine lv_iload hx hb dX12_knows_59 (lv_at hl 0 rfl) ?_
          refine lv_goto (tgt := 69) hx hb dX12_knows_61 (by decide) ?_
          exact J_69 p1 p2 p3 r4 r5 p1 ls  (lv_sub hl [4, 5, 6, 1] rfl) hF
      · have hF := hF.2 ((bz_0 _).mp c_)
        refine lv_ldc2 hx hb hown (hts _ t5_128) dX12_knows_27 ?_
        exact rr_l C hQ rfl hF dX12_knows_30

def wjX12_often_239 (v_now : Nat → Int32) (v_lane : Nat → Int32) (v_many : Nat → Int32) (v_items : Nat → Int32) (post : Int32 → Int32 → Prop) (l7 : Int32) (w_status : Int32) : Prop := wpX12_well l7 w_status (fun r1 u2_status => post r1 u2_status)
def wlX12_often_211 (v_now : Nat → Int32) (v_lane : Nat → Int32) (v_many : Nat → Int32) (v_items : Nat → Int32) (post : Int32 → Int32 → Prop) : Nat → Int32 → Int32 → Int32 → Int32 → Int32 → Prop
  | 0, _, _, _, _, _ => False
  | n + 1, l5, l6, l7, l8, w_status => (l5 ≤ l8 → (wjX12_often_239 v_now v_lane v_many v_items post l7 w_status)) ∧ (¬ l5 ≤ l8 → ((l7 ≤ 0 → (wjX12_often_239 v_now v_lane v_many v_items post l7 w_status)) ∧ (¬ l7 ≤ 0 → ((wlX12_often_211 v_now v_lane v_many v_items post n) l5 l6 (l7 * (l6 - l8)) (l8 + 1) w_status))))
def wjX12_often_196 (v_now : Nat → Int32) (v_lane : Nat → Int32) (v_many : Nat → Int32) (v_items : Nat → Int32) (post : Int32 → Int32 → Prop) (K_141 : Int32 → Int32 → Int32 → Int32 → Int32 → Prop) (l4 : Int32) (l5 : Int32) (l7 : Int32) (k0 : Bool) (k1 : Int32) (w_status : Int32) : Prop := K_141 l4 l5 (k1 + bz k0) (l7 + 1) w_status
def wjX12_often_195 (v_now : Nat → Int32) (v_lane : Nat → Int32) (v_many : Nat → Int32) (v_items : Nat → Int32) (post : Int32 → Int32 → Prop) (K_141 : Int32 → Int32 → Int32 → Int32 → Int32 → Prop) (l4 : Int32) (l5 : Int32) (l7 : Int32) (k0 : Int32) (w_status : Int32) : Prop := wjX12_often_196 v_now v_lane v_many v_items post K_141 l4 l5 l7 false k0 w_status
def wlX12_often_141 (v_now : Nat → Int32) (v_lane : Nat → Int32) (v_many : Nat → Int32) (v_items : Nat → Int32) (post : Int32 → Int32 → Prop) : Nat → Int32 → Int32 → Int32 → Int32 → Int32 → Prop
  | 0, _, _, _, _, _ => False
  | n + 1, l4, l5, l6, l7, w_status => ((v_now 1) ≤ l7 → (wlX12_often_211 v_now v_lane v_many v_items post fu l5 l6 1 0 w_status)) ∧ (¬ (v_now 1) ≤ l7 → (wpX12_has (v_now 2) l7 (fun r1 => (r1 = false → (wjX12_often_195 v_now v_lane v_many v_items post (wlX12_often_141 v_now v_lane v_many v_items post n) l4 l5 l7 l6 w_status)) ∧ (r1 = true → (wpX12_has l4 l7 (fun r2 => (r2 = true → (wjX12_often_195 v_now v_lane v_many v_items post (wlX12_often_141 v_now v_lane v_many v_items post n) l4 l5 l7 l6 w_status)) ∧ (r2 = false → (wpX12_kindIn l7 v_now (fun r3 => (r3 = 4 → (wjX12_often_195 v_now v_lane v_many v_items post (wlX12_often_141 v_now v_lane v_many v_items post n) l4 l5 l7 l6 w_status)) ∧ (¬ r3 = 4 → (wjX12_often_196 v_now v_lane v_many v_items post (wlX12_often_141 v_now v_lane v_many v_items post n) l4 l5 l7 true l6 w_status)))))))))))
def wlX12_often_85 (v_now : Nat → Int32) (v_lane : Nat → Int32) (v_many : Nat → Int32) (v_items : Nat → Int32) (post : Int32 → Int32 → Prop) : Nat → Int32 → Int32 → Int32 → Int32 → Int32 → Int32 → Int32 → Prop
  | 0, _, _, _, _, _, _, _ => False
  | n + 1, l1, l2, l3, l4, l5, l6, w_status => (l3 ≤ l6 → (wlX12_often_141 v_now v_lane v_many v_items post fu l4 l5 0 0 w_status)) ∧ (¬ l3 ≤ l6 → (vp_in (((40 * l1) + l2) + l6) 320 ∧ (wpX12_in (v_items (((((40 * l1) + l2) + l6)).toNatClampNeg)) 1 4 (fun r2 => (r2 = true → ((wlX12_often_85 v_now v_lane v_many v_items post n) l1 l2 l3 l4 (l5 + ((v_items (((((40 * l1) + l2) + l6)).toNatClampNeg)) - 1)) (l6 + 1) w_status)) ∧ (r2 = false → (post (-1000001) w_status))))))
def wpX12_often (p0 : Int32) (p1 : Int32) (p2 : Int32) (p3 : Int32) (v_status : Int32) (v_now : Nat → Int32) (v_lane : Nat → Int32) (v_many : Nat → Int32) (v_items : Nat → Int32) (post : Int32 → Int32 → Prop) : Prop := wpX12_isVillage v_now (fun r1 => (r1 = true → (wpX12_isRow p0 (fun r2 => (r2 = false → (post (-1000001) v_status)) ∧ (r2 = true → (wpX12_in p2 0 10 (fun r3 => (r3 = false → (post (-1000001) v_status)) ∧ (r3 = true → (wpX12_in p3 0 (((1 : Int32) <<< ((v_now 1) &&& 31)) - 1) (fun r4 => (r4 = true → (wpX12_isMissing p0 v_lane (fun r5 => (r5 = false → (wpX12_isPart p0 p1 p2 v_many (fun r6 => (r6 = true → (wlX12_often_85 v_now v_lane v_many v_items post fu p0 p1 p2 p3 0 0 v_status)) ∧ (r6 = false → (wpX12_found 2 v_status (fun r7 u8_status => post r7 u8_status)))))) ∧ (r5 = true → (wpX12_found 1 v_status (fun r9 u10_status => post r9 u10_status)))))) ∧ (r4 = false → (post (-1000001) v_status))))))))))) ∧ (r1 = false → (post (-1000002) v_status)))
abbrev miX12_often : MI := (yX12_often, cX12_often, 9, (some .int))
theorem mfX12_often : MF miX12_often 4 := ⟨t5_190, t1_8, by decide +kernel⟩
abbrev rmX12_often : Room := { frames := 2, cells := 0, slots := 0, locals := 42 }
set_option maxHeartbeats 4000000 in
set_option maxRecDepth 100000 in
theorem ccX12_often (l : Launch) (D : va_G) (cy : Nat → ClassId) (h_this : Nat) (h_now : Nat) (h_lane : Nat) (h_many : Nat) (h_items : Nat) (x_spare : Value) (x_tape : Value) (x_draft : Value) (x_tried : Value) (x_past : Value) (x_images : Value) (x_kept : Value) (x_trace : Value) (x_comes : Value) (x_standing : Value) (x_brought : Value) (x_habit : Value) (v_status : Int32) (v_taped : Int32) (v_faultKind : Int32) (v_faultPlace : Int32) (v_at : Int32) (v_start : Int32) (v_token : Int32) (v_value : Int32) (v_acts : Int32) (v_traced : Int32) (v_livedMany : Int32) (v_now : Nat → Int32) (v_lane : Nat → Int32) (v_many : Nat → Int32) (v_items : Nat → Int32) (p0 : Int32) (p1 : Int32) (p2 : Int32) (p3 : Int32) (post : Int32 → Int32 → Prop) (hF : wpX12_often p0 p1 p2 p3 v_status v_now v_lane v_many v_items post) : Ct l D cy miX12_often rmX12_often emI NP [.ref h_this, .int p0, .int p1, .int p2, .int p3] [(h_this, .inr (11, [.ref h_lane, .ref h_many, .ref h_items, x_spare, .int v_status, x_tape, .int v_taped, .int v_faultKind, .int v_faultPlace, .int v_at, .int v_start, .int v_token, .int v_value, .ref h_now, x_draft, x_tried, x_past, .int v_acts, x_images, x_kept, x_trace, .int v_traced, x_comes, x_standing, x_brought, x_habit, .int v_livedMany])), (h_now, .inl (cy 0, 124, .inl v_now)), (h_lane, .inl (cy 0, 8, .inl v_lane)), (h_many, .inl (cy 0, 8, .inl v_many)), (h_items, .inl (cy 0, 320, .inl v_items))] (fun r w1 => ∃ (w_status : Int32), w1 = [(h_this, .inr (11, [.ref h_lane, .ref h_many, .ref h_items, x_spare, .int w_status, x_tape, .int v_taped, .int v_faultKind, .int v_faultPlace, .int v_at, .int v_start, .int v_token, .int v_value, .ref h_now, x_draft, x_tried, x_past, .int v_acts, x_images, x_kept, x_trace, .int v_traced, x_comes, x_standing, x_brought, x_habit, .int v_livedMany])), (h_now, .inl (cy 0, 124, .inl v_now)), (h_lane, .inl (cy 0, 8, .inl v_lane)), (h_many, .inl (cy 0, 8, .inl v_many)), (h_items, .inl (cy 0, 320, .inl v_items))] ∧ post r w_status) := by
  refine Ct.of (by decide) (Nat.le_of_ble_eq_true rfl) ?_
  intro p e s m args below meth c A ls Q C hQ hA hI hP hD hS hl
  obtain ⟨hx, hb, hr, hml, hown, hts, hK, hlk, hnm⟩ := id C
  have hb : c.code = cX12_often := hb
  have hml : c.maxLocals = 9 := hml
  have hown : s.vm.findClass RX12 = some m.cls := hown
  have hl : lv_has ls 9 [(0, .ref h_this), (1, .int p0), (2, .int p1), (3, .int p2), (4, .int p3)] := hl
  have J_239 : ∀ (l7 : Int32) (w_status : Int32) (H : Heap) (locs : List Loc) (ls : Array Slot), va_P D CL [(h_this, .inr (11, [.ref h_lane, .ref h_many, .ref h_items, x_spare, .int w_status, x_tape, .int v_taped, .int v_faultKind, .int v_faultPlace, .int v_at, .int v_start, .int v_token, .int v_value, .ref h_now, x_draft, x_tried, x_past, .int v_acts, x_images, x_kept, x_trace, .int v_traced, x_comes, x_standing, x_brought, x_habit, .int v_livedMany])), (h_now, .inl (cy 0, 124, .inl v_now)), (h_lane, .inl (cy 0, 8, .inl v_lane)), (h_many, .inl (cy 0, 8, .inl v_many)), (h_items, .inl (cy 0, 320, .inl v_items))] H → va_D A [(h_this, .inr (11, [.ref h_lane, .ref h_many, .ref h_items, x_spare, .int w_status, x_tape, .int v_taped, .int v_faultKind, .int v_faultPlace, .int v_at, .int v_start, .int v_token, .int v_value, .ref h_now, x_draft, x_tried, x_past, .int v_acts, x_images, x_kept, x_trace, .int v_traced, x_comes, x_standing, x_brought, x_habit, .int v_livedMany])), (h_now, .inl (cy 0, 124, .inl v_now)), (h_lane, .inl (cy 0, 8, .inl v_lane)), (h_many, .inl (cy 0, 8, .inl v_many)), (h_items, .inl (cy 0, 320, .inl v_items))] → va_S A s.heap H locs → lv_has ls 9 [(0, .ref h_this), (7, .int l7)] → wjX12_often_239 v_now v_lane v_many v_items post l7 w_status → W p l e rmX12_often s m args below meth c H locs 0 0 Q (F0 m 239 ls []) := by
    intro l7 w_status H locs ls  hP hD hS hl hF
    unfold wjX12_often_239 at hF
    refine lv_aload_n hx hb dX12_often_239 rfl (lv_at hl 0 rfl) ?_
    refine lv_iload hx hb dX12_often_240 (lv_at hl 1 rfl) ?_
    refine cV_t (As := [.int l7]) (wr := [(h_now, .inl (cy 0, 124, .inl v_now)), (h_lane, .inl (cy 0, 8, .inl v_lane)), (h_many, .inl (cy 0, 8, .inl v_many)), (h_items, .inl (cy 0, 320, .inl v_items))]) C hA hP hD hS mfX12_well t4_225 ts_15 t4_223 (ccX12_well l D cy h_this (.ref h_lane) (.ref h_many) (.ref h_items) x_spare x_tape (.ref h_now) x_draft x_tried x_past x_images x_kept x_trace x_comes x_standing x_brought x_habit w_status v_taped v_faultKind v_faultPlace v_at v_start v_token v_value v_acts v_traced v_livedMany l7 _ hF) [0] [1, 2, 3, 4] rfl rfl (by decide) (by decide) (by decide) PO.np 0 11 rfl rfl rfl rfl hl.1 rfl (Nat.le_of_ble_eq_true rfl) dX12_often_242 ⟨Nat.le_of_ble_eq_true rfl, Nat.le_of_ble_eq_true rfl⟩ ⟨Nat.le_of_ble_eq_true rfl, Nat.le_of_ble_eq_true rfl⟩ ?_
    rintro r1 w1 H locs ⟨u2_status, rfl, hF⟩ hP hD hS
    have hP : va_P D CL [(h_now, .inl (cy 0, 124, .inl v_now)), (h_lane, .inl (cy 0, 8, .inl v_lane)), (h_many, .inl (cy 0, 8, .inl v_many)), (h_items, .inl (cy 0, 320, .inl v_items)), (h_this, .inr (11, [.ref h_lane, .ref h_many, .ref h_items, x_spare, .int u2_status, x_tape, .int v_taped, .int v_faultKind, .int v_faultPlace, .int v_at, .int v_start, .int v_token, .int v_value, .ref h_now, x_draft, x_tried, x_past, .int v_acts, x_images, x_kept, x_trace, .int v_traced, x_comes, x_standing, x_brought, x_habit, .int v_livedMany]))] H := hP
    have hD : va_D A [(h_now, .inl (cy 0, 124, .inl v_now)), (h_lane, .inl (cy 0, 8, .inl v_lane)), (h_many, .inl (cy 0, 8, .inl v_many)), (h_items, .inl (cy 0, 320, .inl v_items)), (h_this, .inr (11, [.ref h_lane, .ref h_many, .ref h_items, x_spare, .int u2_status, x_tape, .int v_taped, .int v_faultKind, .int v_faultPlace, .int v_at, .int v_start, .int v_token, .int v_value, .ref h_now, x_draft, x_tried, x_past, .int v_acts, x_images, x_kept, x_trace, .int v_traced, x_comes, x_standing, x_brought, x_habit, .int v_livedMany]))] := hD
    refine W.eq (g2 := F0 m 245 ls [.int r1]) rfl ?_
    have hP : va_P D CL [(h_this, .inr (11, [.ref h_lane, .ref h_many, .ref h_items, x_spare, .int u2_status, x_tape, .int v_taped, .int v_faultKind, .int v_faultPlace, .int v_at, .int v_start, .int v_token, .int v_value, .ref h_now, x_draft, x_tried, x_past, .int v_acts, x_images, x_kept, x_trace, .int v_traced, x_comes, x_standing, x_brought, x_habit, .int v_livedMany])), (h_now, .inl (cy 0, 124, .inl v_now)), (h_lane, .inl (cy 0, 8, .inl v_lane)), (h_many, .inl (cy 0, 8, .inl v_many)), (h_items, .inl (cy 0, 320, .inl v_items))] H := (hP.sub [4, 0, 1, 2, 3] rfl)
    have hD : va_D A [(h_this, .inr (11, [.ref h_lane, .ref h_many, .ref h_items, x_spare, .int u2_status, x_tape, .int v_taped, .int v_faultKind, .int v_faultPlace, .int v_at, .int v_start, .int v_token, .int v_value, .ref h_now, x_draft, x_tried, x_past, .int v_acts, x_images, x_kept, x_trace, .int v_traced, x_comes, x_standing, x_brought, x_habit, .int v_livedMany])), (h_now, .inl (cy 0, 124, .inl v_now)), (h_lane, .inl (cy 0, 8, .inl v_lane)), (h_many, .inl (cy 0, 8, .inl v_many)), (h_items, .inl (cy 0, 320, .inl v_items))] := (hD.sub [4, 0, 1, 2, 3] (by decide) rfl)
    exact rt_i C hQ rfl hP hD hS ⟨u2_status, rfl, hF⟩ dX12_often_245
  have L_211 : ∀ (n_211 : Nat) (l5 : Int32) (l6 : Int32) (l7 : Int32) (l8 : Int32) (w_status : Int32) (H : Heap) (locs : List Loc) (ls : Array Slot), va_P D CL [(h_this, .inr (11, [.ref h_lane, .ref h_many, .ref h_items, x_spare, .int w_status, x_tape, .int v_taped, .int v_faultKind, .int v_faultPlace, .int v_at, .int v_start, .int v_token, .int v_value, .ref h_now, x_draft, x_tried, x_past, .int v_acts, x_images, x_kept, x_trace, .int v_traced, x_comes, x_standing, x_brought, x_habit, .int v_livedMany])), (h_now, .inl (cy 0, 124, .inl v_now)), (h_lane, .inl (cy 0, 8, .inl v_lane)), (h_many, .inl (cy 0, 8, .inl v_many)), (h_items, .inl (cy 0, 320, .inl v_items))] H → va_D A [(h_this, .inr (11, [.ref h_lane, .ref h_many, .ref h_items, x_spare, .int w_status, x_tape, .int v_taped, .int v_faultKind, .int v_faultPlace, .int v_at, .int v_start, .int v_token, .int v_value, .ref h_now, x_draft, x_tried, x_past, .int v_acts, x_images, x_kept, x_trace, .int v_traced, x_comes, x_standing, x_brought, x_habit, .int v_livedMany])), (h_now, .inl (cy 0, 124, .inl v_now)), (h_lane, .inl (cy 0, 8, .inl v_lane)), (h_many, .inl (cy 0, 8, .inl v_many)), (h_items, .inl (cy 0, 320, .inl v_items))] → va_S A s.heap H locs → lv_has ls 9 [(0, .ref h_this), (5, .int l5), (6, .int l6), (7, .int l7), (8, .int l8)] → wlX12_often_211 v_now v_lane v_many v_items post n_211 l5 l6 l7 l8 w_status → W p l e rmX12_often s m args below meth c H locs 0 0 Q (F0 m 211 ls []) := by
    intro n_211
    induction n_211 with
    | zero =>
      intro l5 l6 l7 l8 w_status H locs ls  hP hD hS hl hF
      simp only [wlX12_often_211] at hF
    | succ n_211 ih_211 =>
      intro l5 l6 l7 l8 w_status H locs ls  hP hD hS hl hF
      unfold wlX12_often_211 at hF
      refine lv_iload hx hb dX12_often_211 (lv_at hl 4 rfl) ?_
      refine lv_iload hx hb dX12_often_213 (lv_at hl 1 rfl) ?_
      refine lv_icmp_ge (tgt := 239) hx hb dX12_often_215 (by decide) (fun c_ => ?_) (fun c_ => ?_)
      · have hF := hF.1 c_
        exact J_239 l7 w_status _ _ ls  hP hD hS (lv_sub hl [0, 3] rfl) hF
      · have hF := hF.2 c_
        refine lv_iload hx hb dX12_often_218 (lv_at hl 3 rfl) ?_
        refine lv_if_le (tgt := 239) hx hb dX12_often_220 (by decide) (fun c_ => ?_) (fun c_ => ?_)
        · have hF := hF.1 c_
          exact J_239 l7 w_status _ _ ls  hP hD hS (lv_sub hl [0, 3] rfl) hF
        · have hF := hF.2 c_
          refine lv_iload hx hb dX12_often_223 (lv_at hl 3 rfl) ?_
          refine lv_iload hx hb dX12_often_225 (lv_at hl 2 rfl) ?_
          refine lv_iload hx hb dX12_often_227 (lv_at hl 4 rfl) ?_
          refine lv_isub hx hb dX12_often_229 ?_
          refine lv_imul hx hb dX12_often_230 ?_
          refine lv_istore (lv' := [(7, .int (l7 * (l6 - l8))), (0, .ref h_this), (5, .int l5), (6, .int l6), (8, .int l8)]) hx hb dX12_often_231 hl (by decide) rfl (fun ls hl => ?_)
          refine lv_iinc (v := (l8 + 1)) (lv' := [(8, .int (l8 + 1)), (7, .int (l7 * (l6 - l8))), (0, .ref h_this), (5, .int l5), (6, .int l6)]) hx hb dX12_often_233 hl (k := 4) rfl rfl (by decide) rfl (fun ls hl => ?_)
          refine lv_goto (tgt := 211) hx hb dX12_often_236 (by decide) ?_
          exact ih_211 l5 l6 (l7 * (l6 - l8)) (l8 + 1) w_status _ _ ls  hP hD hS (lv_sub hl [2, 3, 4, 1, 0] rfl) hF
  have L_141 : ∀ (n_141 : Nat) (l4 : Int32) (l5 : Int32) (l6 : Int32) (l7 : Int32) (w_status : Int32) (H : Heap) (locs : List Loc) (ls : Array Slot), va_P D CL [(h_this, .inr (11, [.ref h_lane, .ref h_many, .ref h_items, x_spare, .int w_status, x_tape, .int v_taped, .int v_faultKind, .int v_faultPlace, .int v_at, .int v_start, .int v_token, .int v_value, .ref h_now, x_draft, x_tried, x_past, .int v_acts, x_images, x_kept, x_trace, .int v_traced, x_comes, x_standing, x_brought, x_habit, .int v_livedMany])), (h_now, .inl (cy 0, 124, .inl v_now)), (h_lane, .inl (cy 0, 8, .inl v_lane)), (h_many, .inl (cy 0, 8, .inl v_many)), (h_items, .inl (cy 0, 320, .inl v_items))] H → va_D A [(h_this, .inr (11, [.ref h_lane, .ref h_many, .ref h_items, x_spare, .int w_status, x_tape, .int v_taped, .int v_faultKind, .int v_faultPlace, .int v_at, .int v_start, .int v_token, .int v_value, .ref h_now, x_draft, x_tried, x_past, .int v_acts, x_images, x_kept, x_trace, .int v_traced, x_comes, x_standing, x_brought, x_habit, .int v_livedMany])), (h_now, .inl (cy 0, 124, .inl v_now)), (h_lane, .inl (cy 0, 8, .inl v_lane)), (h_many, .inl (cy 0, 8, .inl v_many)), (h_items, .inl (cy 0, 320, .inl v_items))] → va_S A s.heap H locs → lv_has ls 9 [(0, .ref h_this), (4, .int l4), (5, .int l5), (6, .int l6), (7, .int l7)] → wlX12_often_141 v_now v_lane v_many v_items post n_141 l4 l5 l6 l7 w_status → W p l e rmX12_often s m args below meth c H locs 0 0 Q (F0 m 141 ls []) := by
    intro n_141
    induction n_141 with
    | zero =>
      intro l4 l5 l6 l7 w_status H locs ls  hP hD hS hl hF
      simp only [wlX12_often_141] at hF
    | succ n_141 ih_141 =>
      have J_196 : ∀ (l4 : Int32) (l5 : Int32) (l7 : Int32) (k0 : Bool) (k1 : Int32) (w_status : Int32) (H : Heap) (locs : List Loc) (ls : Array Slot), va_P D CL [(h_this, .inr (11, [.ref h_lane, .ref h_many, .ref h_items, x_spare, .int w_status, x_tape, .int v_taped, .int v_faultKind, .int v_faultPlace, .int v_at, .int v_start, .int v_token, .int v_value, .ref h_now, x_draft, x_tried, x_past, .int v_acts, x_images, x_kept, x_trace, .int v_traced, x_comes, x_standing, x_brought, x_habit, .int v_livedMany])), (h_now, .inl (cy 0, 124, .inl v_now)), (h_lane, .inl (cy 0, 8, .inl v_lane)), (h_many, .inl (cy 0, 8, .inl v_many)), (h_items, .inl (cy 0, 320, .inl v_items))] H → va_D A [(h_this, .inr (11, [.ref h_lane, .ref h_many, .ref h_items, x_spare, .int w_status, x_tape, .int v_taped, .int v_faultKind, .int v_faultPlace, .int v_at, .int v_start, .int v_token, .int v_value, .ref h_now, x_draft, x_tried, x_past, .int v_acts, x_images, x_kept, x_trace, .int v_traced, x_comes, x_standing, x_brought, x_habit, .int v_livedMany])), (h_now, .inl (cy 0, 124, .inl v_now)), (h_lane, .inl (cy 0, 8, .inl v_lane)), (h_many, .inl (cy 0, 8, .inl v_many)), (h_items, .inl (cy 0, 320, .inl v_items))] → va_S A s.heap H locs → lv_has ls 9 [(0, .ref h_this), (4, .int l4), (5, .int l5), (7, .int l7)] → wjX12_often_196 v_now v_lane v_many v_items post (wlX12_often_141 v_now v_lane v_many v_items post n_141) l4 l5 l7 k0 k1 w_status → W p l e rmX12_often s m args below meth c H locs 0 0 Q (F0 m 196 ls [.int (bz k0), .int k1]) := by
        intro l4 l5 l7 k0 k1 w_status H locs ls  hP hD hS hl hF
        unfold wjX12_often_196 at hF
        refine lv_iadd hx hb dX12_often_196 ?_
        refine lv_istore (lv' := [(6, .int (k1 + bz k0)), (0, .ref h_this), (4, .int l4), (5, .int l5), (7, .int l7)]) hx hb dX12_often_197 hl (by decide) rfl (fun ls hl => ?_)
        refine lv_iinc (v := (l7 + 1)) (lv' := [(7, .int (l7 + 1)), (6, .int (k1 + bz k0)), (0, .ref h_this), (4, .int l4), (5, .int l5)]) hx hb dX12_often_199 hl (k := 4) rfl rfl (by decide) rfl (fun ls hl => ?_)
        refine lv_goto (tgt := 141) hx hb dX12_often_202 (by decide) ?_
        exact ih_141 l4 l5 (k1 + bz k0) (l7 + 1) w_status _ _ ls  hP hD hS (lv_sub hl [2, 3, 4, 1, 0] rfl) hF
      have J_195 : ∀ (l4 : Int32) (l5 : Int32) (l7 : Int32) (k0 : Int32) (w_status : Int32) (H : Heap) (locs : List Loc) (ls : Array Slot), va_P D CL [(h_this, .inr (11, [.ref h_lane, .ref h_many, .ref h_items, x_spare, .int w_status, x_tape, .int v_taped, .int v_faultKind, .int v_faultPlace, .int v_at, .int v_start, .int v_token, .int v_value, .ref h_now, x_draft, x_tried, x_past, .int v_acts, x_images, x_kept, x_trace, .int v_traced, x_comes, x_standing, x_brought, x_habit, .int v_livedMany])), (h_now, .inl (cy 0, 124, .inl v_now)), (h_lane, .inl (cy 0, 8, .inl v_lane)), (h_many, .inl (cy 0, 8, .inl v_many)), (h_items, .inl (cy 0, 320, .inl v_items))] H → va_D A [(h_this, .inr (11, [.ref h_lane, .ref h_many, .ref h_items, x_spare, .int w_status, x_tape, .int v_taped, .int v_faultKind, .int v_faultPlace, .int v_at, .int v_start, .int v_token, .int v_value, .ref h_now, x_draft, x_tried, x_past, .int v_acts, x_images, x_kept, x_trace, .int v_traced, x_comes, x_standing, x_brought, x_habit, .int v_livedMany])), (h_now, .inl (cy 0, 124, .inl v_now)), (h_lane, .inl (cy 0, 8, .inl v_lane)), (h_many, .inl (cy 0, 8, .inl v_many)), (h_items, .inl (cy 0, 320, .inl v_items))] → va_S A s.heap H locs → lv_has ls 9 [(0, .ref h_this), (4, .int l4), (5, .int l5), (7, .int l7)] → wjX12_often_195 v_now v_lane v_many v_items post (wlX12_often_141 v_now v_lane v_many v_items post n_141) l4 l5 l7 k0 w_status → W p l e rmX12_often s m args below meth c H locs 0 0 Q (F0 m 195 ls [.int k0]) := by
        intro l4 l5 l7 k0 w_status H locs ls  hP hD hS hl hF
        unfold wjX12_often_195 at hF
        refine lv_iconst (v := 0) hx hb dX12_often_195 (by decide) ?_
        exact J_196 l4 l5 l7 false k0 w_status _ _ ls  hP hD hS (lv_sub hl [0, 1, 2, 3] rfl) hF
      intro l4 l5 l6 l7 w_status H locs ls  hP hD hS hl hF
      unfold wlX12_often_141 at hF
      refine lv_iload hx hb dX12_often_141 (lv_at hl 4 rfl) ?_
      refine lv_aload_n hx hb dX12_often_143 rfl (lv_at hl 0 rfl) ?_
      refine va_get (D := D) (ci := 11) (v := .ref h_now) (C := RX12) (T := TX12) (N := 27) hx hb hts inTX12 hown hK.1 hP 0 rfl rfl 13 (by decide) (hts _ t4_137) (fun _ h9 => h9) rfl dX12_often_144 ?_
      refine lv_iconst (v := 1) hx hb dX12_often_147 (by decide) ?_
      refine s_iald (j := 1) hx hb hK.1 hP 1 0 rfl rfl (vi (by decide)) (by decide) dX12_often_148 ?_
      refine lv_icmp_ge (tgt := 205) hx hb dX12_often_149 (by decide) (fun c_ => ?_) (fun c_ => ?_)
      · have hF := hF.1 c_
        refine lv_iconst (v := 1) hx hb dX12_often_205 (by decide) ?_
        refine lv_istore (lv' := [(7, .int 1), (0, .ref h_this), (4, .int l4), (5, .int l5), (6, .int l6)]) hx hb dX12_often_206 hl (by decide) rfl (fun ls hl => ?_)
        refine lv_iconst (v := 0) hx hb dX12_often_208 (by decide) ?_
        refine lv_istore (lv' := [(8, .int 0), (7, .int 1), (0, .ref h_this), (4, .int l4), (5, .int l5), (6, .int l6)]) hx hb dX12_often_209 hl (by decide) rfl (fun ls hl => ?_)
        exact L_211 fu l5 l6 1 0 w_status _ _ ls  hP hD hS (lv_sub hl [2, 4, 5, 1, 0] rfl) hF
      · have hF := hF.2 c_
        refine lv_iload hx hb dX12_often_152 (lv_at hl 3 rfl) ?_
        refine lv_aload_n hx hb dX12_often_154 rfl (lv_at hl 0 rfl) ?_
        refine va_get (D := D) (ci := 11) (v := .ref h_now) (C := RX12) (T := TX12) (N := 27) hx hb hts inTX12 hown hK.1 hP 0 rfl rfl 13 (by decide) (hts _ t4_137) (fun _ h9 => h9) rfl dX12_often_155 ?_
        refine lv_iconst (v := 2) hx hb dX12_often_158 (by decide) ?_
        refine s_iald (j := 2) hx hb hK.1 hP 1 0 rfl rfl (vi (by decide)) (by decide) dX12_often_159 ?_
        refine lv_iload hx hb dX12_often_160 (lv_at hl 4 rfl) ?_
        refine cS_r (As := [.int (v_now 2), .int l7]) C mfX12_has t5_93 t5_92 (ccX12_has l D cy (v_now 2) l7 _ hF) rfl rfl (hP.sub [] rfl) PR.np rfl hl.1 rfl (Nat.le_of_ble_eq_true rfl) dX12_often_162 ⟨Nat.le_of_ble_eq_true rfl, Nat.le_of_ble_eq_true rfl⟩ ⟨Nat.le_of_ble_eq_true rfl, Nat.le_of_ble_eq_true rfl⟩ ?_
        intro r1 hF
        refine W.eq (g2 := F0 m 165 ls [.int (bz r1), .int l6]) rfl ?_
        refine lv_if_eq (tgt := 195) hx hb dX12_often_165 (by decide) (fun c_ => ?_) (fun c_ => ?_)
        · have hF := hF.1 ((bz_0 _).mp c_)
          exact J_195 l4 l5 l7 l6 w_status _ _ ls  hP hD hS (lv_sub hl [0, 1, 2, 4] rfl) hF
        · have hF := hF.2 ((bz_1 _).mp c_)
          refine lv_iload hx hb dX12_often_168 (lv_at hl 1 rfl) ?_
          refine lv_iload hx hb dX12_often_170 (lv_at hl 4 rfl) ?_
          refine cS_r (As := [.int l4, .int l7]) C mfX12_has t5_93 t5_92 (ccX12_has l D cy l4 l7 _ hF) rfl rfl (hP.sub [] rfl) PR.np rfl hl.1 rfl (Nat.le_of_ble_eq_true rfl) dX12_often_172 ⟨Nat.le_of_ble_eq_true rfl, Nat.le_of_ble_eq_true rfl⟩ ⟨Nat.le_of_ble_eq_true rfl, Nat.le_of_ble_eq_true rfl⟩ ?_
          intro r2 hF
          refine W.eq (g2 := F0 m 175 ls [.int (bz r2), .int l6]) rfl ?_
          refine lv_if_ne (tgt := 195) hx hb dX12_often_175 (by decide) (fun c_ => ?_) (fun c_ => ?_)
          · have hF := hF.1 ((bz_1 _).mp c_)
            exact J_195 l4 l5 l7 l6 w_status _ _ ls  hP hD hS (lv_sub hl [0, 1, 2, 4] rfl) hF
          · have hF := hF.2 ((bz_0 _).mp c_)
            refine lv_aload_n hx hb dX12_often_178 rfl (lv_at hl 0 rfl) ?_
            refine va_get (D := D) (ci := 11) (v := .ref h_now) (C := RX12) (T := TX12) (N := 27) hx hb hts inTX12 hown hK.1 hP 0 rfl rfl 13 (by decide) (hts _ t4_137) (fun _ h9 => h9) rfl dX12_often_179 ?_
            refine lv_iload hx hb dX12_often_182 (lv_at hl 4 rfl) ?_
            refine cS_r (As := [.ref h_now, .int l7]) C mfX12_kindIn t5_82 t5_81 (ccX12_kindIn l D cy h_now v_now l7 _ hF) rfl rfl (hP.sub [1] rfl) PR.np rfl hl.1 rfl (Nat.le_of_ble_eq_true rfl) dX12_often_184 ⟨Nat.le_of_ble_eq_true rfl, Nat.le_of_ble_eq_true rfl⟩ ⟨Nat.le_of_ble_eq_true rfl, Nat.le_of_ble_eq_true rfl⟩ ?_
            intro r3 hF
            refine W.eq (g2 := F0 m 187 ls [.int r3, .int l6]) rfl ?_
            refine lv_iconst (v := 4) hx hb dX12_often_187 (by decide) ?_
            refine lv_icmp_eq (tgt := 195) hx hb dX12_often_188 (by decide) (fun c_ => ?_) (fun c_ => ?_)
            · have hF := hF.1 c_
              exact J_195 l4 l5 l7 l6 w_status _ _ ls  hP hD hS (lv_sub hl [0, 1, 2, 4] rfl) hF
            · have hF := hF.2 c_
              refine lv_iconst (v := 1) hx hb dX12_often_191 (by decide) ?_
              refine lv_goto (tgt := 196) hx hb dX12_often_192 (by decide) ?_
              exact J_196 l4 l5 l7 true l6 w_status _ _ ls  hP hD hS (lv_sub hl [0, 1, 2, 4] rfl) hF
  have L_85 : ∀ (n_85 : Nat) (l1 : Int32) (l2 : Int32) (l3 : Int32) (l4 : Int32) (l5 : Int32) (l6 : Int32) (w_status : Int32) (H : Heap) (locs : List Loc) (ls : Array Slot), va_P D CL [(h_this, .inr (11, [.ref h_lane, .ref h_many, .ref h_items, x_spare, .int w_status, x_tape, .int v_taped, .int v_faultKind, .int v_faultPlace, .int v_at, .int v_start, .int v_token, .int v_value, .ref h_now, x_draft, x_tried, x_past, .int v_acts, x_images, x_kept, x_trace, .int v_traced, x_comes, x_standing, x_brought, x_habit, .int v_livedMany])), (h_now, .inl (cy 0, 124, .inl v_now)), (h_lane, .inl (cy 0, 8, .inl v_lane)), (h_many, .inl (cy 0, 8, .inl v_many)), (h_items, .inl (cy 0, 320, .inl v_items))] H → va_D A [(h_this, .inr (11, [.ref h_lane, .ref h_many, .ref h_items, x_spare, .int w_status, x_tape, .int v_taped, .int v_faultKind, .int v_faultPlace, .int v_at, .int v_start, .int v_token, .int v_value, .ref h_now, x_draft, x_tried, x_past, .int v_acts, x_images, x_kept, x_trace, .int v_traced, x_comes, x_standing, x_brought, x_habit, .int v_livedMany])), (h_now, .inl (cy 0, 124, .inl v_now)), (h_lane, .inl (cy 0, 8, .inl v_lane)), (h_many, .inl (cy 0, 8, .inl v_many)), (h_items, .inl (cy 0, 320, .inl v_items))] → va_S A s.heap H locs → lv_has ls 9 [(0, .ref h_this), (1, .int l1), (2, .int l2), (3, .int l3), (4, .int l4), (5, .int l5), (6, .int l6)] → wlX12_often_85 v_now v_lane v_many v_items post n_85 l1 l2 l3 l4 l5 l6 w_status → W p l e rmX12_often s m args below meth c H locs 0 0 Q (F0 m 85 ls []) := by
    intro n_85
    induction n_85 with
    | zero =>
      intro l1 l2 l3 l4 l5 l6 w_status H locs ls  hP hD hS hl hF
      simp only [wlX12_often_85] at hF
    | succ n_85 ih_85 =>
      intro l1 l2 l3 l4 l5 l6 w_status H locs ls  hP hD hS hl hF
      unfold wlX12_often_85 at hF
      refine lv_iload hx hb dX12_often_85 (lv_at hl 6 rfl) ?_
      refine lv_iload_n hx hb dX12_often_87 rfl (lv_at hl 3 rfl) ?_
      refine lv_icmp_ge (tgt := 135) hx hb dX12_often_88 (by decide) (fun c_ => ?_) (fun c_ => ?_)
      · have hF := hF.1 c_
        refine lv_iconst (v := 0) hx hb dX12_often_135 (by decide) ?_
        refine lv_istore (lv' := [(6, .int 0), (0, .ref h_this), (1, .int l1), (2, .int l2), (3, .int l3), (4, .int l4), (5, .int l5)]) hx hb dX12_often_136 hl (by decide) rfl (fun ls hl => ?_)
        refine lv_iconst (v := 0) hx hb dX12_often_138 (by decide) ?_
        refine lv_istore (lv' := [(7, .int 0), (6, .int 0), (0, .ref h_this), (1, .int l1), (2, .int l2), (3, .int l3), (4, .int l4), (5, .int l5)]) hx hb dX12_often_139 hl (by decide) rfl (fun ls hl => ?_)
        exact L_141 fu l4 l5 0 0 w_status _ _ ls  hP hD hS (lv_sub hl [2, 6, 7, 1, 0] rfl) hF
      · have hF := hF.2 c_
        refine lv_aload_n hx hb dX12_often_91 rfl (lv_at hl 0 rfl) ?_
        refine va_get (D := D) (ci := 11) (v := .ref h_items) (C := RX12) (T := TX12) (N := 27) hx hb hts inTX12 hown hK.1 hP 0 rfl rfl 2 (by decide) (hts _ t4_126) (fun _ h9 => h9) rfl dX12_often_92 ?_
        refine lv_bipush (v := 40) hx hb dX12_often_95 (by decide) ?_
        refine lv_iload_n hx hb dX12_often_97 rfl (lv_at hl 1 rfl) ?_
        refine lv_imul hx hb dX12_often_98 ?_
        refine lv_iload_n hx hb dX12_often_99 rfl (lv_at hl 2 rfl) ?_
        refine lv_iadd hx hb dX12_often_100 ?_
        refine lv_iload hx hb dX12_often_101 (lv_at hl 6 rfl) ?_
        refine lv_iadd hx hb dX12_often_103 ?_
        obtain ⟨hi1, hF⟩ := hF
        refine s_iald (j := ((((40 * l1) + l2) + l6)).toNatClampNeg) hx hb hK.1 hP 4 0 rfl rfl hi1 rfl dX12_often_104 ?_
        refine lv_istore (lv' := [(7, .int (v_items (((((40 * l1) + l2) + l6)).toNatClampNeg))), (0, .ref h_this), (1, .int l1), (2, .int l2), (3, .int l3), (4, .int l4), (5, .int l5), (6, .int l6)]) hx hb dX12_often_105 hl (by decide) rfl (fun ls hl => ?_)
        refine lv_iload hx hb dX12_often_107 (lv_at hl 0 rfl) ?_
        refine lv_iconst (v := 1) hx hb dX12_often_109 (by decide) ?_
        refine lv_iconst (v := 4) hx hb dX12_often_110 (by decide) ?_
        refine cS_r (As := [.int (v_items (((((40 * l1) + l2) + l6)).toNatClampNeg)), .int 1, .int 4]) C mfX12_in t4_215 t4_214 (ccX12_in l D cy (v_items (((((40 * l1) + l2) + l6)).toNatClampNeg)) 1 4 _ hF) rfl rfl (hP.sub [] rfl) PR.np rfl hl.1 rfl (Nat.le_of_ble_eq_true rfl) dX12_often_111 ⟨Nat.le_of_ble_eq_true rfl, Nat.le_of_ble_eq_true rfl⟩ ⟨Nat.le_of_ble_eq_true rfl, Nat.le_of_ble_eq_true rfl⟩ ?_
        intro r2 hF
        refine W.eq (g2 := F0 m 114 ls [.int (bz r2)]) rfl ?_
        refine lv_if_ne (tgt := 120) hx hb dX12_often_114 (by decide) (fun c_ => ?_) (fun c_ => ?_)
        · have hF := hF.1 ((bz_1 _).mp c_)
          refine lv_iload hx hb dX12_often_120 (lv_at hl 6 rfl) ?_
          refine lv_iload hx hb dX12_often_122 (lv_at hl 0 rfl) ?_
          refine lv_iconst (v := 1) hx hb dX12_often_124 (by decide) ?_
          refine lv_isub hx hb dX12_often_125 ?_
          refine lv_iadd hx hb dX12_often_126 ?_
          refine lv_istore (lv' := [(5, .int (l5 + ((v_items (((((40 * l1) + l2) + l6)).toNatClampNeg)) - 1))), (7, .int (v_items (((((40 * l1) + l2) + l6)).toNatClampNeg))), (0, .ref h_this), (1, .int l1), (2, .int l2), (3, .int l3), (4, .int l4), (6, .int l6)]) hx hb dX12_often_127 hl (by decide) rfl (fun ls hl => ?_)
          refine lv_iinc (v := (l6 + 1)) (lv' := [(6, .int (l6 + 1)), (5, .int (l5 + ((v_items (((((40 * l1) + l2) + l6)).toNatClampNeg)) - 1))), (7, .int (v_items (((((40 * l1) + l2) + l6)).toNatClampNeg))), (0, .ref h_this), (1, .int l1), (2, .int l2), (3, .int l3), (4, .int l4)]) hx hb dX12_often_129 hl (k := 7) rfl rfl (by decide) rfl (fun ls hl => ?_)
          refine lv_goto (tgt := 85) hx hb dX12_often_132 (by decide) ?_
          exact ih_85 l1 l2 l3 l4 (l5 + ((v_items (((((40 * l1) + l2) + l6)).toNatClampNeg)) - 1)) (l6 + 1) w_status _ _ ls  hP hD hS (lv_sub hl [3, 4, 5, 6, 7, 1, 0] rfl) hF
        · have hF := hF.2 ((bz_0 _).mp c_)
          refine lv_ldc hx hb hown (hts _ t4_217) dX12_often_117 ?_
          exact rt_i C hQ rfl hP hD hS ⟨w_status, rfl, hF⟩ dX12_often_119
  unfold wpX12_often at hF
  refine lv_aload_n hx hb dX12_often_0 rfl (lv_at hl 0 rfl) ?_
  refine cV_r (As := []) C mfX12_isVillage t5_62 ts_24 t5_60 (ccX12_isVillage l D cy h_this h_now (.ref h_lane) (.ref h_many) (.ref h_items) x_spare x_tape x_draft x_tried x_past x_images x_kept x_trace x_comes x_standing x_brought x_habit v_status v_taped v_faultKind v_faultPlace v_at v_start v_token v_value v_acts v_traced v_livedMany v_now _ hF) rfl rfl (hP.sub [0, 1] rfl) PR.np hP 0 11 rfl rfl rfl rfl hl.1 rfl (Nat.le_of_ble_eq_true rfl) dX12_often_1 ⟨Nat.le_of_ble_eq_true rfl, Nat.le_of_ble_eq_true rfl⟩ ⟨Nat.le_of_ble_eq_true rfl, Nat.le_of_ble_eq_true rfl⟩ ?_
  intro r1 hF
  refine W.eq (g2 := F0 m 4 ls [.int (bz r1)]) rfl ?_
  refine lv_if_ne (tgt := 10) hx hb dX12_often_4 (by decide) (fun c_ => ?_) (fun c_ => ?_)
  · have hF := hF.1 ((bz_1 _).mp c_)
    refine lv_iload_n hx hb dX12_often_10 rfl (lv_at hl 1 rfl) ?_
    refine cS_r (As := [.int p0]) C mfX12_isRow t4_212 t4_211 (ccX12_isRow l D cy p0 _ hF) rfl rfl (hP.sub [] rfl) PR.np rfl hl.1 rfl (Nat.le_of_ble_eq_true rfl) dX12_often_11 ⟨Nat.le_of_ble_eq_true rfl, Nat.le_of_ble_eq_true rfl⟩ ⟨Nat.le_of_ble_eq_true rfl, Nat.le_of_ble_eq_true rfl⟩ ?_
    intro r2 hF
    refine W.eq (g2 := F0 m 14 ls [.int (bz r2)]) rfl ?_
    refine lv_if_eq (tgt := 46) hx hb dX12_often_14 (by decide) (fun c_ => ?_) (fun c_ => ?_)
    · have hF := hF.1 ((bz_0 _).mp c_)
      refine lv_ldc hx hb hown (hts _ t4_217) dX12_often_46 ?_
      exact rt_i C hQ rfl hP hD hS ⟨v_status, rfl, hF⟩ dX12_often_48
    · have hF := hF.2 ((bz_1 _).mp c_)
      refine lv_iload_n hx hb dX12_often_17 rfl (lv_at hl 3 rfl) ?_
      refine lv_iconst (v := 0) hx hb dX12_often_18 (by decide) ?_
      refine lv_bipush (v := 10) hx hb dX12_often_19 (by decide) ?_
      refine cS_r (As := [.int p2, .int 0, .int 10]) C mfX12_in t4_215 t4_214 (ccX12_in l D cy p2 0 10 _ hF) rfl rfl (hP.sub [] rfl) PR.np rfl hl.1 rfl (Nat.le_of_ble_eq_true rfl) dX12_often_21 ⟨Nat.le_of_ble_eq_true rfl, Nat.le_of_ble_eq_true rfl⟩ ⟨Nat.le_of_ble_eq_true rfl, Nat.le_of_ble_eq_true rfl⟩ ?_
      intro r3 hF
      refine W.eq (g2 := F0 m 24 ls [.int (bz r3)]) rfl ?_
      refine lv_if_eq (tgt := 46) hx hb dX12_often_24 (by decide) (fun c_ => ?_) (fun c_ => ?_)
      · have hF := hF.1 ((bz_0 _).mp c_)
        refine lv_ldc hx hb hown (hts _ t4_217) dX12_often_46 ?_
        exact rt_i C hQ rfl hP hD hS ⟨v_status, rfl, hF⟩ dX12_often_48
      · have hF := hF.2 ((bz_1 _).mp c_)
        refine lv_iload hx hb dX12_often_27 (lv_at hl 4 rfl) ?_
        refine lv_iconst (v := 0) hx hb dX12_often_29 (by decide) ?_
        refine lv_iconst (v := 1) hx hb dX12_often_30 (by decide) ?_
        refine lv_aload_n hx hb dX12_often_31 rfl (lv_at hl 0 rfl) ?_
        refine va_get (D := D) (ci := 11) (v := .ref h_now) (C := RX12) (T := TX12) (N := 27) hx hb hts inTX12 hown hK.1 hP 0 rfl rfl 13 (by decide) (hts _ t4_137) (fun _ h9 => h9) rfl dX12_often_32 ?_
        refine lv_iconst (v := 1) hx hb dX12_often_35 (by decide) ?_
        refine s_iald (j := 1) hx hb hK.1 hP 1 0 rfl rfl (vi (by decide)) (by decide) dX12_often_36 ?_
        refine lv_ishl hx hb dX12_often_37 ?_
        refine lv_iconst (v := 1) hx hb dX12_often_38 (by decide) ?_
        refine lv_isub hx hb dX12_often_39 ?_
        refine cS_r (As := [.int p3, .int 0, .int (((1 : Int32) <<< ((v_now 1) &&& 31)) - 1)]) C mfX12_in t4_215 t4_214 (ccX12_in l D cy p3 0 (((1 : Int32) <<< ((v_now 1) &&& 31)) - 1) _ hF) rfl rfl (hP.sub [] rfl) PR.np rfl hl.1 rfl (Nat.le_of_ble_eq_true rfl) dX12_often_40 ⟨Nat.le_of_ble_eq_true rfl, Nat.le_of_ble_eq_true rfl⟩ ⟨Nat.le_of_ble_eq_true rfl, Nat.le_of_ble_eq_true rfl⟩ ?_
        intro r4 hF
        refine W.eq (g2 := F0 m 43 ls [.int (bz r4)]) rfl ?_
        refine lv_if_ne (tgt := 49) hx hb dX12_often_43 (by decide) (fun c_ => ?_) (fun c_ => ?_)
        · have hF := hF.1 ((bz_1 _).mp c_)
          refine lv_aload_n hx hb dX12_often_49 rfl (lv_at hl 0 rfl) ?_
          refine lv_iload_n hx hb dX12_often_50 rfl (lv_at hl 1 rfl) ?_
          refine cV_r (As := [.int p0]) C mfX12_isMissing t4_233 ts_16 t4_231 (ccX12_isMissing l D cy h_this h_lane (.ref h_many) (.ref h_items) x_spare x_tape (.ref h_now) x_draft x_tried x_past x_images x_kept x_trace x_comes x_standing x_brought x_habit v_status v_taped v_faultKind v_faultPlace v_at v_start v_token v_value v_acts v_traced v_livedMany v_lane p0 _ hF) rfl rfl (hP.sub [0, 2] rfl) PR.np hP 0 11 rfl rfl rfl rfl hl.1 rfl (Nat.le_of_ble_eq_true rfl) dX12_often_51 ⟨Nat.le_of_ble_eq_true rfl, Nat.le_of_ble_eq_true rfl⟩ ⟨Nat.le_of_ble_eq_true rfl, Nat.le_of_ble_eq_true rfl⟩ ?_
          intro r5 hF
          refine W.eq (g2 := F0 m 54 ls [.int (bz r5)]) rfl ?_
          refine lv_if_eq (tgt := 63) hx hb dX12_often_54 (by decide) (fun c_ => ?_) (fun c_ => ?_)
          · have hF := hF.1 ((bz_0 _).mp c_)
            refine lv_aload_n hx hb dX12_often_63 rfl (lv_at hl 0 rfl) ?_
            refine lv_iload_n hx hb dX12_often_64 rfl (lv_at hl 1 rfl) ?_
            refine lv_iload_n hx hb dX12_often_65 rfl (lv_at hl 2 rfl) ?_
            refine lv_iload_n hx hb dX12_often_66 rfl (lv_at hl 3 rfl) ?_
            refine cV_r (As := [.int p0, .int p1, .int p2]) C mfX12_isPart t5_4 ts_17 t5_2 (ccX12_isPart l D cy h_this h_many (.ref h_lane) (.ref h_items) x_spare x_tape (.ref h_now) x_draft x_tried x_past x_images x_kept x_trace x_comes x_standing x_brought x_habit v_status v_taped v_faultKind v_faultPlace v_at v_start v_token v_value v_acts v_traced v_livedMany v_many p0 p1 p2 _ hF) rfl rfl (hP.sub [0, 3] rfl) PR.np hP 0 11 rfl rfl rfl rfl hl.1 rfl (Nat.le_of_ble_eq_true rfl) dX12_often_67 ⟨Nat.le_of_ble_eq_true rfl, Nat.le_of_ble_eq_true rfl⟩ ⟨Nat.le_of_ble_eq_true rfl, Nat.le_of_ble_eq_true rfl⟩ ?_
            intro r6 hF
            refine W.eq (g2 := F0 m 70 ls [.int (bz r6)]) rfl ?_
            refine lv_if_ne (tgt := 79) hx hb dX12_often_70 (by decide) (fun c_ => ?_) (fun c_ => ?_)
            · have hF := hF.1 ((bz_1 _).mp c_)
              refine lv_iconst (v := 0) hx hb dX12_often_79 (by decide) ?_
              refine lv_istore (lv' := [(5, .int 0), (0, .ref h_this), (1, .int p0), (2, .int p1), (3, .int p2), (4, .int p3)]) hx hb dX12_often_80 hl (by decide) rfl (fun ls hl => ?_)
              refine lv_iconst (v := 0) hx hb dX12_often_82 (by decide) ?_
              refine lv_istore (lv' := [(6, .int 0), (5, .int 0), (0, .ref h_this), (1, .int p0), (2, .int p1), (3, .int p2), (4, .int p3)]) hx hb dX12_often_83 hl (by decide) rfl (fun ls hl => ?_)
              exact L_85 fu p0 p1 p2 p3 0 0 v_status _ _ ls  hP hD hS (lv_sub hl [2, 3, 4, 5, 6, 1, 0] rfl) hF
            · have hF := hF.2 ((bz_0 _).mp c_)
              refine lv_aload_n hx hb dX12_often_73 rfl (lv_at hl 0 rfl) ?_
              refine lv_iconst (v := 2) hx hb dX12_often_74 (by decide) ?_
              refine cV_t (As := [.int 2]) (wr := [(h_now, .inl (cy 0, 124, .inl v_now)), (h_lane, .inl (cy 0, 8, .inl v_lane)), (h_many, .inl (cy 0, 8, .inl v_many)), (h_items, .inl (cy 0, 320, .inl v_items))]) C hA hP hD hS mfX12_found t4_220 ts_14 t4_218 (ccX12_found l D cy h_this (.ref h_lane) (.ref h_many) (.ref h_items) x_spare x_tape (.ref h_now) x_draft x_tried x_past x_images x_kept x_trace x_comes x_standing x_brought x_habit v_status v_taped v_faultKind v_faultPlace v_at v_start v_token v_value v_acts v_traced v_livedMany 2 _ hF) [0] [1, 2, 3, 4] rfl rfl (by decide) (by decide) (by decide) PO.np 0 11 rfl rfl rfl rfl hl.1 rfl (Nat.le_of_ble_eq_true rfl) dX12_often_75 ⟨Nat.le_of_ble_eq_true rfl, Nat.le_of_ble_eq_true rfl⟩ ⟨Nat.le_of_ble_eq_true rfl, Nat.le_of_ble_eq_true rfl⟩ ?_
              rintro r7 w1 H locs ⟨u8_status, rfl, hF⟩ hP hD hS
              have hP : va_P D CL [(h_now, .inl (cy 0, 124, .inl v_now)), (h_lane, .inl (cy 0, 8, .inl v_lane)), (h_many, .inl (cy 0, 8, .inl v_many)), (h_items, .inl (cy 0, 320, .inl v_items)), (h_this, .inr (11, [.ref h_lane, .ref h_many, .ref h_items, x_spare, .int u8_status, x_tape, .int v_taped, .int v_faultKind, .int v_faultPlace, .int v_at, .int v_start, .int v_token, .int v_value, .ref h_now, x_draft, x_tried, x_past, .int v_acts, x_images, x_kept, x_trace, .int v_traced, x_comes, x_standing, x_brought, x_habit, .int v_livedMany]))] H := hP
              have hD : va_D A [(h_now, .inl (cy 0, 124, .inl v_now)), (h_lane, .inl (cy 0, 8, .inl v_lane)), (h_many, .inl (cy 0, 8, .inl v_many)), (h_items, .inl (cy 0, 320, .inl v_items)), (h_this, .inr (11, [.ref h_lane, .ref h_many, .ref h_items, x_spare, .int u8_status, x_tape, .int v_taped, .int v_faultKind, .int v_faultPlace, .int v_at, .int v_start, .int v_token, .int v_value, .ref h_now, x_draft, x_tried, x_past, .int v_acts, x_images, x_kept, x_trace, .int v_traced, x_comes, x_standing, x_brought, x_habit, .int v_livedMany]))] := hD
              refine W.eq (g2 := F0 m 78 ls [.int r7]) rfl ?_
              have hP : va_P D CL [(h_this, .inr (11, [.ref h_lane, .ref h_many, .ref h_items, x_spare, .int u8_status, x_tape, .int v_taped, .int v_faultKind, .int v_faultPlace, .int v_at, .int v_start, .int v_token, .int v_value, .ref h_now, x_draft, x_tried, x_past, .int v_acts, x_images, x_kept, x_trace, .int v_traced, x_comes, x_standing, x_brought, x_habit, .int v_livedMany])), (h_now, .inl (cy 0, 124, .inl v_now)), (h_lane, .inl (cy 0, 8, .inl v_lane)), (h_many, .inl (cy 0, 8, .inl v_many)), (h_items, .inl (cy 0, 320, .inl v_items))] H := (hP.sub [4, 0, 1, 2, 3] rfl)
              have hD : va_D A [(h_this, .inr (11, [.ref h_lane, .ref h_many, .ref h_items, x_spare, .int u8_status, x_tape, .int v_taped, .int v_faultKind, .int v_faultPlace, .int v_at, .int v_start, .int v_token, .int v_value, .ref h_now, x_draft, x_tried, x_past, .int v_acts, x_images, x_kept, x_trace, .int v_traced, x_comes, x_standing, x_brought, x_habit, .int v_livedMany])), (h_now, .inl (cy 0, 124, .inl v_now)), (h_lane, .inl (cy 0, 8, .inl v_lane)), (h_many, .inl (cy 0, 8, .inl v_many)), (h_items, .inl (cy 0, 320, .inl v_items))] := (hD.sub [4, 0, 1, 2, 3] (by decide) rfl)
              exact rt_i C hQ rfl hP hD hS ⟨u8_status, rfl, hF⟩ dX12_often_78
          · have hF := hF.2 ((bz_1 _).mp c_)
            refine lv_aload_n hx hb dX12_often_57 rfl (lv_at hl 0 rfl) ?_
            refine lv_iconst (v := 1) hx hb dX12_often_58 (by decide) ?_
            refine cV_t (As := [.int 1]) (wr := [(h_now, .inl (cy 0, 124, .inl v_now)), (h_lane, .inl (cy 0, 8, .inl v_lane)), (h_many, .inl (cy 0, 8, .inl v_many)), (h_items, .inl (cy 0, 320, .inl v_items))]) C hA hP hD hS mfX12_found t4_220 ts_14 t4_218 (ccX12_found l D cy h_this (.ref h_lane) (.ref h_many) (.ref h_items) x_spare x_tape (.ref h_now) x_draft x_tried x_past x_images x_kept x_trace x_comes x_standing x_brought x_habit v_status v_taped v_faultKind v_faultPlace v_at v_start v_token v_value v_acts v_traced v_livedMany 1 _ hF) [0] [1, 2, 3, 4] rfl rfl (by decide) (by decide) (by decide) PO.np 0 11 rfl rfl rfl rfl hl.1 rfl (Nat.le_of_ble_eq_true rfl) dX12_often_59 ⟨Nat.le_of_ble_eq_true rfl, Nat.le_of_ble_eq_true rfl⟩ ⟨Nat.le_of_ble_eq_true rfl, Nat.le_of_ble_eq_true rfl⟩ ?_
            rintro r9 w1 H locs ⟨u10_status, rfl, hF⟩ hP hD hS
            have hP : va_P D CL [(h_now, .inl (cy 0, 124, .inl v_now)), (h_lane, .inl (cy 0, 8, .inl v_lane)), (h_many, .inl (cy 0, 8, .inl v_many)), (h_items, .inl (cy 0, 320, .inl v_items)), (h_this, .inr (11, [.ref h_lane, .ref h_many, .ref h_items, x_spare, .int u10_status, x_tape, .int v_taped, .int v_faultKind, .int v_faultPlace, .int v_at, .int v_start, .int v_token, .int v_value, .ref h_now, x_draft, x_tried, x_past, .int v_acts, x_images, x_kept, x_trace, .int v_traced, x_comes, x_standing, x_brought, x_habit, .int v_livedMany]))] H := hP
            have hD : va_D A [(h_now, .inl (cy 0, 124, .inl v_now)), (h_lane, .inl (cy 0, 8, .inl v_lane)), (h_many, .inl (cy 0, 8, .inl v_many)), (h_items, .inl (cy 0, 320, .inl v_items)), (h_this, .inr (11, [.ref h_lane, .ref h_many, .ref h_items, x_spare, .int u10_status, x_tape, .int v_taped, .int v_faultKind, .int v_faultPlace, .int v_at, .int v_start, .int v_token, .int v_value, .ref h_now, x_draft, x_tried, x_past, .int v_acts, x_images, x_kept, x_trace, .int v_traced, x_comes, x_standing, x_brought, x_habit, .int v_livedMany]))] := hD
            refine W.eq (g2 := F0 m 62 ls [.int r9]) rfl ?_
            have hP : va_P D CL [(h_this, .inr (11, [.ref h_lane, .ref h_many, .ref h_items, x_spare, .int u10_status, x_tape, .int v_taped, .int v_faultKind, .int v_faultPlace, .int v_at, .int v_start, .int v_token, .int v_value, .ref h_now, x_draft, x_tried, x_past, .int v_acts, x_images, x_kept, x_trace, .int v_traced, x_comes, x_standing, x_brought, x_habit, .int v_livedMany])), (h_now, .inl (cy 0, 124, .inl v_now)), (h_lane, .inl (cy 0, 8, .inl v_lane)), (h_many, .inl (cy 0, 8, .inl v_many)), (h_items, .inl (cy 0, 320, .inl v_items))] H := (hP.sub [4, 0, 1, 2, 3] rfl)
            have hD : va_D A [(h_this, .inr (11, [.ref h_lane, .ref h_many, .ref h_items, x_spare, .int u10_status, x_tape, .int v_taped, .int v_faultKind, .int v_faultPlace, .int v_at, .int v_start, .int v_token, .int v_value, .ref h_now, x_draft, x_tried, x_past, .int v_acts, x_images, x_kept, x_trace, .int v_traced, x_comes, x_standing, x_brought, x_habit, .int v_livedMany])), (h_now, .inl (cy 0, 124, .inl v_now)), (h_lane, .inl (cy 0, 8, .inl v_lane)), (h_many, .inl (cy 0, 8, .inl v_many)), (h_items, .inl (cy 0, 320, .inl v_items))] := (hD.sub [4, 0, 1, 2, 3] (by decide) rfl)
            exact rt_i C hQ rfl hP hD hS ⟨u10_status, rfl, hF⟩ dX12_often_62
        · have hF := hF.2 ((bz_0 _).mp c_)
          refine lv_ldc hx hb hown (hts _ t4_217) dX12_often_46 ?_
          exact rt_i C hQ rfl hP hD hS ⟨v_status, rfl, hF⟩ dX12_often_48
  · have hF := hF.2 ((bz_0 _).mp c_)
    refine lv_ldc hx hb hown (hts _ t5_55) dX12_often_7 ?_
    exact rt_i C hQ rfl hP hD hS ⟨v_status, rfl, hF⟩ dX12_often_9

def wjX12_goes_125 (v_now : Nat → Int32) (v_habit : Nat → Int32) (post : Unit → Int32 → (Nat → Int32) → Prop) (K_37 : Int32 → Int64 → Int32 → Int32 → (Nat → Int32) → Prop) (l1 : Int32) (l3 : Int64) (l5 : Int32) (w_livedMany : Int32) (w_tried : Nat → Int32) : Prop := K_37 l1 l3 l5 w_livedMany w_tried
def wjX12_goes_71 (v_now : Nat → Int32) (v_habit : Nat → Int32) (post : Unit → Int32 → (Nat → Int32) → Prop) (K_37 : Int32 → Int64 → Int32 → Int32 → (Nat → Int32) → Prop) (l1 : Int32) (l3 : Int64) (l5 : Int32) (w_livedMany : Int32) (w_tried : Nat → Int32) : Prop := wpX12_goesAgain (w_tried 2) (w_tried 3) w_tried v_habit (fun r1 => (r1 = (-1000000) → (wpX12_stands w_tried (fun _ u3_tried => wjX12_goes_125 v_now v_habit post K_37 l1 l3 (l5 + 1) w_livedMany u3_tried))) ∧ (¬ r1 = (-1000000) → (wpX12_againBy r1 w_tried (fun _ u5_tried => wjX12_goes_125 v_now v_habit post K_37 l1 l3 l5 w_livedMany u5_tried))))
def wlX12_goes_37 (v_now : Nat → Int32) (v_habit : Nat → Int32) (post : Unit → Int32 → (Nat → Int32) → Prop) : Nat → Int32 → Int64 → Int32 → Int32 → (Nat → Int32) → Prop
  | 0, _, _, _, _, _ => False
  | n + 1, l1, l3, l5, w_livedMany, w_tried => (l1 ≤ l5 → (post () w_livedMany w_tried)) ∧ (¬ l1 ≤ l5 → ((¬ (w_tried 4) = 0 → (wjX12_goes_71 v_now v_habit post (wlX12_goes_37 v_now v_habit post n) l1 l3 l5 w_livedMany w_tried)) ∧ ((w_tried 4) = 0 → (wpX12_passes l3 w_tried (fun r1 u2_tried => wjX12_goes_71 v_now v_habit post (wlX12_goes_37 v_now v_habit post n) l1 r1 l5 (w_livedMany + 1) u2_tried)))))
def wlX12_goes_2 (v_now : Nat → Int32) (v_habit : Nat → Int32) (post : Unit → Int32 → (Nat → Int32) → Prop) : Nat → Int32 → Int32 → Int32 → Int32 → (Nat → Int32) → Prop
  | 0, _, _, _, _, _ => False
  | n + 1, l1, l2, l3, w_livedMany, w_tried => (124 ≤ l3 → (wlX12_goes_37 v_now v_habit post fu l1 ((l2).toInt64) 0 0 w_tried)) ∧ (¬ 124 ≤ l3 → (vp_in l3 124 ∧ (vp_in l3 124 ∧ ((wlX12_goes_2 v_now v_habit post n) l1 l2 (l3 + 1) w_livedMany (upd w_tried ((l3).toNatClampNeg) (v_now ((l3).toNatClampNeg)))))))
def wpX12_goes (p0 : Int32) (p1 : Int32) (v_livedMany : Int32) (v_tried : Nat → Int32) (v_now : Nat → Int32) (v_habit : Nat → Int32) (post : Unit → Int32 → (Nat → Int32) → Prop) : Prop := wlX12_goes_2 v_now v_habit post fu p0 p1 0 v_livedMany v_tried
abbrev miX12_goes : MI := (yX12_goes, cX12_goes, 7, none)
theorem mfX12_goes : MF miX12_goes 2 := ⟨t5_198, t1_8, by decide +kernel⟩
abbrev rmX12_goes : Room := { frames := 3, cells := 0, slots := 0, locals := 70 }
set_option maxHeartbeats 4000000 in
set_option maxRecDepth 100000 in
theorem ccX12_goes (l : Launch) (D : va_G) (cy : Nat → ClassId) (h_this : Nat) (h_tried : Nat) (h_now : Nat) (h_habit : Nat) (x_lane : Value) (x_many : Value) (x_items : Value) (x_spare : Value) (x_tape : Value) (x_draft : Value) (x_past : Value) (x_images : Value) (x_kept : Value) (x_trace : Value) (x_comes : Value) (x_standing : Value) (x_brought : Value) (v_status : Int32) (v_taped : Int32) (v_faultKind : Int32) (v_faultPlace : Int32) (v_at : Int32) (v_start : Int32) (v_token : Int32) (v_value : Int32) (v_acts : Int32) (v_traced : Int32) (v_livedMany : Int32) (v_tried : Nat → Int32) (v_now : Nat → Int32) (v_habit : Nat → Int32) (p0 : Int32) (p1 : Int32) (post : Unit → Int32 → (Nat → Int32) → Prop) (hF : wpX12_goes p0 p1 v_livedMany v_tried v_now v_habit post) : Ct l D cy miX12_goes rmX12_goes emV NP [.ref h_this, .int p0, .int p1] [(h_this, .inr (11, [x_lane, x_many, x_items, x_spare, .int v_status, x_tape, .int v_taped, .int v_faultKind, .int v_faultPlace, .int v_at, .int v_start, .int v_token, .int v_value, .ref h_now, x_draft, .ref h_tried, x_past, .int v_acts, x_images, x_kept, x_trace, .int v_traced, x_comes, x_standing, x_brought, .ref h_habit, .int v_livedMany])), (h_tried, .inl (cy 0, 124, .inl v_tried)), (h_now, .inl (cy 0, 124, .inl v_now)), (h_habit, .inl (cy 0, 3, .inl v_habit))] (fun r w1 => ∃ (w_livedMany : Int32) (w_tried : Nat → Int32), w1 = [(h_this, .inr (11, [x_lane, x_many, x_items, x_spare, .int v_status, x_tape, .int v_taped, .int v_faultKind, .int v_faultPlace, .int v_at, .int v_start, .int v_token, .int v_value, .ref h_now, x_draft, .ref h_tried, x_past, .int v_acts, x_images, x_kept, x_trace, .int v_traced, x_comes, x_standing, x_brought, .ref h_habit, .int w_livedMany])), (h_tried, .inl (cy 0, 124, .inl w_tried)), (h_now, .inl (cy 0, 124, .inl v_now)), (h_habit, .inl (cy 0, 3, .inl v_habit))] ∧ post r w_livedMany w_tried) := by
  refine Ct.of (by decide) (Nat.le_of_ble_eq_true rfl) ?_
  intro p e s m args below meth c A ls Q C hQ hA hI hP hD hS hl
  obtain ⟨hx, hb, hr, hml, hown, hts, hK, hlk, hnm⟩ := id C
  have hb : c.code = cX12_goes := hb
  have hml : c.maxLocals = 7 := hml
  have hown : s.vm.findClass RX12 = some m.cls := hown
  have hl : lv_has ls 7 [(0, .ref h_this), (1, .int p0), (2, .int p1)] := hl
  have L_37 : ∀ (n_37 : Nat) (l1 : Int32) (l3 : Int64) (l5 : Int32) (w_livedMany : Int32) (w_tried : Nat → Int32) (H : Heap) (locs : List Loc) (ls : Array Slot), va_P D CL [(h_this, .inr (11, [x_lane, x_many, x_items, x_spare, .int v_status, x_tape, .int v_taped, .int v_faultKind, .int v_faultPlace, .int v_at, .int v_start, .int v_token, .int v_value, .ref h_now, x_draft, .ref h_tried, x_past, .int v_acts, x_images, x_kept, x_trace, .int v_traced, x_comes, x_standing, x_brought, .ref h_habit, .int w_livedMany])), (h_tried, .inl (cy 0, 124, .inl w_tried)), (h_now, .inl (cy 0, 124, .inl v_now)), (h_habit, .inl (cy 0, 3, .inl v_habit))] H → va_D A [(h_this, .inr (11, [x_lane, x_many, x_items, x_spare, .int v_status, x_tape, .int v_taped, .int v_faultKind, .int v_faultPlace, .int v_at, .int v_start, .int v_token, .int v_value, .ref h_now, x_draft, .ref h_tried, x_past, .int v_acts, x_images, x_kept, x_trace, .int v_traced, x_comes, x_standing, x_brought, .ref h_habit, .int w_livedMany])), (h_tried, .inl (cy 0, 124, .inl w_tried)), (h_now, .inl (cy 0, 124, .inl v_now)), (h_habit, .inl (cy 0, 3, .inl v_habit))] → va_S A s.heap H locs → lv_has ls 7 [(0, .ref h_this), (1, .int l1), (3, .long l3), (5, .int l5)] → wlX12_goes_37 v_now v_habit post n_37 l1 l3 l5 w_livedMany w_tried → W p l e rmX12_goes s m args below meth c H locs 0 0 Q (F0 m 37 ls []) := by
    intro n_37
    induction n_37 with
    | zero =>
      intro l1 l3 l5 w_livedMany w_tried H locs ls  hP hD hS hl hF
      simp only [wlX12_goes_37] at hF
    | succ n_37 ih_37 =>
      have J_125 : ∀ (l1 : Int32) (l3 : Int64) (l5 : Int32) (w_livedMany : Int32) (w_tried : Nat → Int32) (H : Heap) (locs : List Loc) (ls : Array Slot), va_P D CL [(h_this, .inr (11, [x_lane, x_many, x_items, x_spare, .int v_status, x_tape, .int v_taped, .int v_faultKind, .int v_faultPlace, .int v_at, .int v_start, .int v_token, .int v_value, .ref h_now, x_draft, .ref h_tried, x_past, .int v_acts, x_images, x_kept, x_trace, .int v_traced, x_comes, x_standing, x_brought, .ref h_habit, .int w_livedMany])), (h_tried, .inl (cy 0, 124, .inl w_tried)), (h_now, .inl (cy 0, 124, .inl v_now)), (h_habit, .inl (cy 0, 3, .inl v_habit))] H → va_D A [(h_this, .inr (11, [x_lane, x_many, x_items, x_spare, .int v_status, x_tape, .int v_taped, .int v_faultKind, .int v_faultPlace, .int v_at, .int v_start, .int v_token, .int v_value, .ref h_now, x_draft, .ref h_tried, x_past, .int v_acts, x_images, x_kept, x_trace, .int v_traced, x_comes, x_standing, x_brought, .ref h_habit, .int w_livedMany])), (h_tried, .inl (cy 0, 124, .inl w_tried)), (h_now, .inl (cy 0, 124, .inl v_now)), (h_habit, .inl (cy 0, 3, .inl v_habit))] → va_S A s.heap H locs → lv_has ls 7 [(0, .ref h_this), (1, .int l1), (3, .long l3), (5, .int l5)] → wjX12_goes_125 v_now v_habit post (wlX12_goes_37 v_now v_habit post n_37) l1 l3 l5 w_livedMany w_tried → W p l e rmX12_goes s m args below meth c H locs 0 0 Q (F0 m 125 ls []) := by
        intro l1 l3 l5 w_livedMany w_tried H locs ls  hP hD hS hl hF
        unfold wjX12_goes_125 at hF
        refine lv_goto (tgt := 37) hx hb dX12_goes_125 (by decide) ?_
        exact ih_37 l1 l3 l5 w_livedMany w_tried _ _ ls  hP hD hS (lv_sub hl [0, 1, 2, 3] rfl) hF
      have J_71 : ∀ (l1 : Int32) (l3 : Int64) (l5 : Int32) (w_livedMany : Int32) (w_tried : Nat → Int32) (H : Heap) (locs : List Loc) (ls : Array Slot), va_P D CL [(h_this, .inr (11, [x_lane, x_many, x_items, x_spare, .int v_status, x_tape, .int v_taped, .int v_faultKind, .int v_faultPlace, .int v_at, .int v_start, .int v_token, .int v_value, .ref h_now, x_draft, .ref h_tried, x_past, .int v_acts, x_images, x_kept, x_trace, .int v_traced, x_comes, x_standing, x_brought, .ref h_habit, .int w_livedMany])), (h_tried, .inl (cy 0, 124, .inl w_tried)), (h_now, .inl (cy 0, 124, .inl v_now)), (h_habit, .inl (cy 0, 3, .inl v_habit))] H → va_D A [(h_this, .inr (11, [x_lane, x_many, x_items, x_spare, .int v_status, x_tape, .int v_taped, .int v_faultKind, .int v_faultPlace, .int v_at, .int v_start, .int v_token, .int v_value, .ref h_now, x_draft, .ref h_tried, x_past, .int v_acts, x_images, x_kept, x_trace, .int v_traced, x_comes, x_standing, x_brought, .ref h_habit, .int w_livedMany])), (h_tried, .inl (cy 0, 124, .inl w_tried)), (h_now, .inl (cy 0, 124, .inl v_now)), (h_habit, .inl (cy 0, 3, .inl v_habit))] → va_S A s.heap H locs → lv_has ls 7 [(0, .ref h_this), (1, .int l1), (3, .long l3), (5, .int l5)] → wjX12_goes_71 v_now v_habit post (wlX12_goes_37 v_now v_habit post n_37) l1 l3 l5 w_livedMany w_tried → W p l e rmX12_goes s m args below meth c H locs 0 0 Q (F0 m 71 ls []) := by
        intro l1 l3 l5 w_livedMany w_tried H locs ls  hP hD hS hl hF
        unfold wjX12_goes_71 at hF
        refine lv_aload_n hx hb dX12_goes_71 rfl (lv_at hl 0 rfl) ?_
        refine va_get (D := D) (ci := 11) (v := .ref h_tried) (C := RX12) (T := TX12) (N := 27) hx hb hts inTX12 hown hK.1 hP 0 rfl rfl 15 (by decide) (hts _ t4_139) (fun _ h9 => h9) rfl dX12_goes_72 ?_
        refine lv_aload_n hx hb dX12_goes_75 rfl (lv_at hl 0 rfl) ?_
        refine va_get (D := D) (ci := 11) (v := .ref h_habit) (C := RX12) (T := TX12) (N := 27) hx hb hts inTX12 hown hK.1 hP 0 rfl rfl 25 (by decide) (hts _ t4_149) (fun _ h9 => h9) rfl dX12_goes_76 ?_
        refine lv_aload_n hx hb dX12_goes_79 rfl (lv_at hl 0 rfl) ?_
        refine va_get (D := D) (ci := 11) (v := .ref h_tried) (C := RX12) (T := TX12) (N := 27) hx hb hts inTX12 hown hK.1 hP 0 rfl rfl 15 (by decide) (hts _ t4_139) (fun _ h9 => h9) rfl dX12_goes_80 ?_
        refine lv_iconst (v := 2) hx hb dX12_goes_83 (by decide) ?_
        refine s_iald (j := 2) hx hb hK.1 hP 1 0 rfl rfl (vi (by decide)) (by decide) dX12_goes_84 ?_
        refine lv_aload_n hx hb dX12_goes_85 rfl (lv_at hl 0 rfl) ?_
        refine va_get (D := D) (ci := 11) (v := .ref h_tried) (C := RX12) (T := TX12) (N := 27) hx hb hts inTX12 hown hK.1 hP 0 rfl rfl 15 (by decide) (hts _ t4_139) (fun _ h9 => h9) rfl dX12_goes_86 ?_
        refine lv_iconst (v := 3) hx hb dX12_goes_89 (by decide) ?_
        refine s_iald (j := 3) hx hb hK.1 hP 1 0 rfl rfl (vi (by decide)) (by decide) dX12_goes_90 ?_
        refine cS_r (As := [.ref h_tried, .ref h_habit, .int (w_tried 2), .int (w_tried 3)]) C mfX12_goesAgain t5_142 t5_141 (ccX12_goesAgain l D cy h_tried h_habit w_tried v_habit (w_tried 2) (w_tried 3) _ hF) rfl rfl (hP.sub [1, 3] rfl) PR.np rfl hl.1 rfl (Nat.le_of_ble_eq_true rfl) dX12_goes_91 ⟨Nat.le_of_ble_eq_true rfl, Nat.le_of_ble_eq_true rfl⟩ ⟨Nat.le_of_ble_eq_true rfl, Nat.le_of_ble_eq_true rfl⟩ ?_
        intro r1 hF
        refine W.eq (g2 := F0 m 94 ls [.int r1]) rfl ?_
        refine lv_istore (lv' := [(6, .int r1), (0, .ref h_this), (1, .int l1), (3, .long l3), (5, .int l5)]) hx hb dX12_goes_94 hl (by decide) rfl (fun ls hl => ?_)
        refine lv_iload hx hb dX12_goes_96 (lv_at hl 0 rfl) ?_
        refine lv_ldc hx hb hown (hts _ t4_123) dX12_goes_98 ?_
        refine lv_icmp_eq (tgt := 115) hx hb dX12_goes_100 (by decide) (fun c_ => ?_) (fun c_ => ?_)
        · have hF := hF.1 c_
          refine lv_aload_n hx hb dX12_goes_115 rfl (lv_at hl 1 rfl) ?_
          refine va_get (D := D) (ci := 11) (v := .ref h_tried) (C := RX12) (T := TX12) (N := 27) hx hb hts inTX12 hown hK.1 hP 0 rfl rfl 15 (by decide) (hts _ t4_139) (fun _ h9 => h9) rfl dX12_goes_116 ?_
          refine cS_t (As := [.ref h_tried]) (wr := [(h_this, .inr (11, [x_lane, x_many, x_items, x_spare, .int v_status, x_tape, .int v_taped, .int v_faultKind, .int v_faultPlace, .int v_at, .int v_start, .int v_token, .int v_value, .ref h_now, x_draft, .ref h_tried, x_past, .int v_acts, x_images, x_kept, x_trace, .int v_traced, x_comes, x_standing, x_brought, .ref h_habit, .int w_livedMany])), (h_now, .inl (cy 0, 124, .inl v_now)), (h_habit, .inl (cy 0, 3, .inl v_habit))]) C hA hP hD hS mfX12_stands t5_103 t5_102 (ccX12_stands l D cy h_tried w_tried _ hF) [1] [0, 2, 3] rfl rfl (by decide) (by decide) (by decide) PO.np rfl hl.1 rfl (Nat.le_of_ble_eq_true rfl) dX12_goes_119 ⟨Nat.le_of_ble_eq_true rfl, Nat.le_of_ble_eq_true rfl⟩ ⟨Nat.le_of_ble_eq_true rfl, Nat.le_of_ble_eq_true rfl⟩ ?_
          rintro ⟨⟩ w1 H locs ⟨u3_tried, rfl, hF⟩ hP hD hS
          have hP : va_P D CL [(h_this, .inr (11, [x_lane, x_many, x_items, x_spare, .int v_status, x_tape, .int v_taped, .int v_faultKind, .int v_faultPlace, .int v_at, .int v_start, .int v_token, .int v_value, .ref h_now, x_draft, .ref h_tried, x_past, .int v_acts, x_images, x_kept, x_trace, .int v_traced, x_comes, x_standing, x_brought, .ref h_habit, .int w_livedMany])), (h_now, .inl (cy 0, 124, .inl v_now)), (h_habit, .inl (cy 0, 3, .inl v_habit)), (h_tried, .inl (cy 0, 124, .inl u3_tried))] H := hP
          have hD : va_D A [(h_this, .inr (11, [x_lane, x_many, x_items, x_spare, .int v_status, x_tape, .int v_taped, .int v_faultKind, .int v_faultPlace, .int v_at, .int v_start, .int v_token, .int v_value, .ref h_now, x_draft, .ref h_tried, x_past, .int v_acts, x_images, x_kept, x_trace, .int v_traced, x_comes, x_standing, x_brought, .ref h_habit, .int w_livedMany])), (h_now, .inl (cy 0, 124, .inl v_now)), (h_habit, .inl (cy 0, 3, .inl v_habit)), (h_tried, .inl (cy 0, 124, .inl u3_tried))] := hD
          refine W.eq (g2 := F0 m 122 ls []) rfl ?_
          refine lv_iinc (v := (l5 + 1)) (lv' := [(5, .int (l5 + 1)), (6, .int r1), (0, .ref h_this), (1, .int l1), (3, .long l3)]) hx hb dX12_goes_122 hl (k := 4) rfl rfl (by decide) rfl (fun ls hl => ?_)
          exact J_125 l1 l3 (l5 + 1) w_livedMany u3_tried _ _ ls  (hP.sub [0, 3, 1, 2] rfl) (hD.sub [0, 3, 1, 2] (by decide) rfl) hS (lv_sub hl [2, 3, 4, 0] rfl) hF
        · have hF := hF.2 c_
          refine lv_aload_n hx hb dX12_goes_103 rfl (lv_at hl 1 rfl) ?_
          refine va_get (D := D) (ci := 11) (v := .ref h_tried) (C := RX12) (T := TX12) (N := 27) hx hb hts inTX12 hown hK.1 hP 0 rfl rfl 15 (by decide) (hts _ t4_139) (fun _ h9 => h9) rfl dX12_goes_104 ?_
          refine lv_iload hx hb dX12_goes_107 (lv_at hl 0 rfl) ?_
          refine cS_t (As := [.ref h_tried, .int r1]) (wr := [(h_this, .inr (11, [x_lane, x_many, x_items, x_spare, .int v_status, x_tape, .int v_taped, .int v_faultKind, .int v_faultPlace, .int v_at, .int v_start, .int v_token, .int v_value, .ref h_now, x_draft, .ref h_tried, x_past, .int v_acts, x_images, x_kept, x_trace, .int v_traced, x_comes, x_standing, x_brought, .ref h_habit, .int w_livedMany])), (h_now, .inl (cy 0, 124, .inl v_now)), (h_habit, .inl (cy 0, 3, .inl v_habit))]) C hA hP hD hS mfX12_againBy t5_96 t5_95 (ccX12_againBy l D cy h_tried w_tried r1 _ hF) [1] [0, 2, 3] rfl rfl (by decide) (by decide) (by decide) PO.np rfl hl.1 rfl (Nat.le_of_ble_eq_true rfl) dX12_goes_109 ⟨Nat.le_of_ble_eq_true rfl, Nat.le_of_ble_eq_true rfl⟩ ⟨Nat.le_of_ble_eq_true rfl, Nat.le_of_ble_eq_true rfl⟩ ?_
          rintro ⟨⟩ w1 H locs ⟨u5_tried, rfl, hF⟩ hP hD hS
          have hP : va_P D CL [(h_this, .inr (11, [x_lane, x_many, x_items, x_spare, .int v_status, x_tape, .int v_taped, .int v_faultKind, .int v_faultPlace, .int v_at, .int v_start, .int v_token, .int v_value, .ref h_now, x_draft, .ref h_tried, x_past, .int v_acts, x_images, x_kept, x_trace, .int v_traced, x_comes, x_standing, x_brought, .ref h_habit, .int w_livedMany])), (h_now, .inl (cy 0, 124, .inl v_now)), (h_habit, .inl (cy 0, 3, .inl v_habit)), (h_tried, .inl (cy 0, 124, .inl u5_tried))] H := hP
          have hD : va_D A [(h_this, .inr (11, [x_lane, x_many, x_items, x_spare, .int v_status, x_tape, .int v_taped, .int v_faultKind, .int v_faultPlace, .int v_at, .int v_start, .int v_token, .int v_value, .ref h_now, x_draft, .ref h_tried, x_past, .int v_acts, x_images, x_kept, x_trace, .int v_traced, x_comes, x_standing, x_brought, .ref h_habit, .int w_livedMany])), (h_now, .inl (cy 0, 124, .inl v_now)), (h_habit, .inl (cy 0, 3, .inl v_habit)), (h_tried, .inl (cy 0, 124, .inl u5_tried))] := hD
          refine W.eq (g2 := F0 m 112 ls []) rfl ?_
          refine lv_goto (tgt := 125) hx hb dX12_goes_112 (by decide) ?_
          exact J_125 l1 l3 l5 w_livedMany u5_tried _ _ ls  (hP.sub [0, 3, 1, 2] rfl) (hD.sub [0, 3, 1, 2] (by decide) rfl) hS (lv_sub hl [1, 2, 3, 4] rfl) hF
      intro l1 l3 l5 w_livedMany w_tried H locs ls  hP hD hS hl hF
      unfold wlX12_goes_37 at hF
      refine lv_iload hx hb dX12_goes_37 (lv_at hl 3 rfl) ?_
      refine lv_iload_n hx hb dX12_goes_39 rfl (lv_at hl 1 rfl) ?_
      refine lv_icmp_ge (tgt := 128) hx hb dX12_goes_40 (by decide) (fun c_ => ?_) (fun c_ => ?_)
      · have hF := hF.1 c_
        exact rt_v C hQ rfl hP hD hS ⟨w_livedMany, w_tried, rfl, hF⟩ dX12_goes_128
      · have hF := hF.2 c_
        refine lv_aload_n hx hb dX12_goes_43 rfl (lv_at hl 0 rfl) ?_
        refine va_get (D := D) (ci := 11) (v := .ref h_tried) (C := RX12) (T := TX12) (N := 27) hx hb hts inTX12 hown hK.1 hP 0 rfl rfl 15 (by decide) (hts _ t4_139) (fun _ h9 => h9) rfl dX12_goes_44 ?_
        refine lv_iconst (v := 4) hx hb dX12_goes_47 (by decide) ?_
        refine s_iald (j := 4) hx hb hK.1 hP 1 0 rfl rfl (vi (by decide)) (by decide) dX12_goes_48 ?_
        refine lv_if_ne (tgt := 71) hx hb dX12_goes_49 (by decide) (fun c_ => ?_) (fun c_ => ?_)
        · have hF := hF.1 c_
          exact J_71 l1 l3 l5 w_livedMany w_tried _ _ ls  hP hD hS (lv_sub hl [0, 1, 2, 3] rfl) hF
        · have hF := hF.2 c_
          refine lv_aload_n hx hb dX12_goes_52 rfl (lv_at hl 0 rfl) ?_
          refine va_get (D := D) (ci := 11) (v := .ref h_tried) (C := RX12) (T := TX12) (N := 27) hx hb hts inTX12 hown hK.1 hP 0 rfl rfl 15 (by decide) (hts _ t4_139) (fun _ h9 => h9) rfl dX12_goes_53 ?_
          refine lv_lload_n hx hb dX12_goes_56 rfl (lv_at hl 2 rfl) ?_
          refine cS_t (As := [.ref h_tried, .long l3]) (wr := [(h_this, .inr (11, [x_lane, x_many, x_items, x_spare, .int v_status, x_tape, .int v_taped, .int v_faultKind, .int v_faultPlace, .int v_at, .int v_start, .int v_token, .int v_value, .ref h_now, x_draft, .ref h_tried, x_past, .int v_acts, x_images, x_kept, x_trace, .int v_traced, x_comes, x_standing, x_brought, .ref h_habit, .int w_livedMany])), (h_now, .inl (cy 0, 124, .inl v_now)), (h_habit, .inl (cy 0, 3, .inl v_habit))]) C hA hP hD hS mfX12_passes t5_70 t5_69 (ccX12_passes l D cy h_tried w_tried l3 _ hF) [1] [0, 2, 3] rfl rfl (by decide) (by decide) (by decide) PO.np rfl hl.1 rfl (Nat.le_of_ble_eq_true rfl) dX12_goes_57 ⟨Nat.le_of_ble_eq_true rfl, Nat.le_of_ble_eq_true rfl⟩ ⟨Nat.le_of_ble_eq_true rfl, Nat.le_of_ble_eq_true rfl⟩ ?_
          rintro r1 w1 H locs ⟨u2_tried, rfl, hF⟩ hP hD hS
          have hP : va_P D CL [(h_this, .inr (11, [x_lane, x_many, x_items, x_spare, .int v_status, x_tape, .int v_taped, .int v_faultKind, .int v_faultPlace, .int v_at, .int v_start, .int v_token, .int v_value, .ref h_now, x_draft, .ref h_tried, x_past, .int v_acts, x_images, x_kept, x_trace, .int v_traced, x_comes, x_standing, x_brought, .ref h_habit, .int w_livedMany])), (h_now, .inl (cy 0, 124, .inl v_now)), (h_habit, .inl (cy 0, 3, .inl v_habit)), (h_tried, .inl (cy 0, 124, .inl u2_tried))] H := hP
          have hD : va_D A [(h_this, .inr (11, [x_lane, x_many, x_items, x_spare, .int v_status, x_tape, .int v_taped, .int v_faultKind, .int v_faultPlace, .int v_at, .int v_start, .int v_token, .int v_value, .ref h_now, x_draft, .ref h_tried, x_past, .int v_acts, x_images, x_kept, x_trace, .int v_traced, x_comes, x_standing, x_brought, .ref h_habit, .int w_livedMany])), (h_now, .inl (cy 0, 124, .inl v_now)), (h_habit, .inl (cy 0, 3, .inl v_habit)), (h_tried, .inl (cy 0, 124, .inl u2_tried))] := hD
          refine W.eq (g2 := F0 m 60 ls [.long r1]) rfl ?_
          refine lv_lstore_n (lv' := [(3, .long r1), (0, .ref h_this), (1, .int l1), (5, .int l5)]) hx hb dX12_goes_60 rfl hl (by decide) rfl (fun ls hl => ?_)
          refine lv_aload_n hx hb dX12_goes_61 rfl (lv_at hl 1 rfl) ?_
          refine lv_dup hx hb dX12_goes_62 rfl ?_
          refine va_get (D := D) (ci := 11) (v := .int w_livedMany) (C := RX12) (T := TX12) (N := 27) hx hb hts inTX12 hown hK.1 hP 0 rfl rfl 26 (by decide) (hts _ t4_150) (fun _ h9 => h9) rfl dX12_goes_63 ?_
          refine lv_iconst (v := 1) hx hb dX12_goes_66 (by decide) ?_
          refine lv_iadd hx hb dX12_goes_67 ?_
          refine va_put (D := D) (ci := 11) (v := .int (w_livedMany + 1)) (ty := .int) (C := RX12) (T := TX12) (N := 27) hx hb hts inTX12 tyX12 tyX12_ok nmX12 hown hK.1 hP hD hS 0 rfl rfl 26 (by decide) (hts _ t4_150) (fun _ h9 => h9) rfl (tyX12_ok 26 (by decide)) rfl rfl (Nat.le_of_ble_eq_true rfl) dX12_goes_68 (fun H locs hP hD hS => ?_)
          have hP : va_P D CL [(h_this, .inr (11, [x_lane, x_many, x_items, x_spare, .int v_status, x_tape, .int v_taped, .int v_faultKind, .int v_faultPlace, .int v_at, .int v_start, .int v_token, .int v_value, .ref h_now, x_draft, .ref h_tried, x_past, .int v_acts, x_images, x_kept, x_trace, .int v_traced, x_comes, x_standing, x_brought, .ref h_habit, .int (w_livedMany + 1)])), (h_now, .inl (cy 0, 124, .inl v_now)), (h_habit, .inl (cy 0, 3, .inl v_habit)), (h_tried, .inl (cy 0, 124, .inl u2_tried))] H := hP
          have hD : va_D A [(h_this, .inr (11, [x_lane, x_many, x_items, x_spare, .int v_status, x_tape, .int v_taped, .int v_faultKind, .int v_faultPlace, .int v_at, .int v_start, .int v_token, .int v_value, .ref h_now, x_draft, .ref h_tried, x_past, .int v_acts, x_images, x_kept, x_trace, .int v_traced, x_comes, x_standing, x_brought, .ref h_habit, .int (w_livedMany + 1)])), (h_now, .inl (cy 0, 124, .inl v_now)), (h_habit, .inl (cy 0, 3, .inl v_habit)), (h_tried, .inl (cy 0, 124, .inl u2_tried))] := hD
          exact J_71 l1 r1 l5 (w_livedMany + 1) u2_tried _ _ ls  (hP.sub [0, 3, 1, 2] rfl) (hD.sub [0, 3, 1, 2] (by decide) rfl) hS (lv_sub hl [1, 2, 0, 3] rfl) hF
  have L_2 : ∀ (n_2 : Nat) (l1 : Int32) (l2 : Int32) (l3 : Int32) (w_livedMany : Int32) (w_tried : Nat → Int32) (H : Heap) (locs : List Loc) (ls : Array Slot), va_P D CL [(h_this, .inr (11, [x_lane, x_many, x_items, x_spare, .int v_status, x_tape, .int v_taped, .int v_faultKind, .int v_faultPlace, .int v_at, .int v_start, .int v_token, .int v_value, .ref h_now, x_draft, .ref h_tried, x_past, .int v_acts, x_images, x_kept, x_trace, .int v_traced, x_comes, x_standing, x_brought, .ref h_habit, .int w_livedMany])), (h_tried, .inl (cy 0, 124, .inl w_tried)), (h_now, .inl (cy 0, 124, .inl v_now)), (h_habit, .inl (cy 0, 3, .inl v_habit))] H → va_D A [(h_this, .inr (11, [x_lane, x_many, x_items, x_spare, .int v_status, x_tape, .int v_taped, .int v_faultKind, .int v_faultPlace, .int v_at, .int v_start, .int v_token, .int v_value, .ref h_now, x_draft, .ref h_tried, x_past, .int v_acts, x_images, x_kept, x_trace, .int v_traced, x_comes, x_standing, x_brought, .ref h_habit, .int w_livedMany])), (h_tried, .inl (cy 0, 124, .inl w_tried)), (h_now, .inl (cy 0, 124, .inl v_now)), (h_habit, .inl (cy 0, 3, .inl v_habit))] → va_S A s.heap H locs → lv_has ls 7 [(0, .ref h_this), (1, .int l1), (2, .int l2), (3, .int l3)] → wlX12_goes_2 v_now v_habit post n_2 l1 l2 l3 w_livedMany w_tried → W p l e rmX12_goes s m args below meth c H locs 0 0 Q (F0 m 2 ls []) := by
    intro n_2
    induction n_2 with
    | zero =>
      intro l1 l2 l3 w_livedMany w_tried H locs ls  hP hD hS hl hF
      simp only [wlX12_goes_2] at hF
    | succ n_2 ih_2 =>
      intro l1 l2 l3 w_livedMany w_tried H locs ls  hP hD hS hl hF
      unfold wlX12_goes_2 at hF
      refine lv_iload_n hx hb dX12_goes_2 rfl (lv_at hl 3 rfl) ?_
      refine lv_bipush (v := 124) hx hb dX12_goes_3 (by decide) ?_
      refine lv_icmp_ge (tgt := 26) hx hb dX12_goes_5 (by decide) (fun c_ => ?_) (fun c_ => ?_)
      · have hF := hF.1 c_
        refine lv_aload_n hx hb dX12_goes_26 rfl (lv_at hl 0 rfl) ?_
        refine lv_iconst (v := 0) hx hb dX12_goes_27 (by decide) ?_
        refine va_put (D := D) (ci := 11) (v := .int 0) (ty := .int) (C := RX12) (T := TX12) (N := 27) hx hb hts inTX12 tyX12 tyX12_ok nmX12 hown hK.1 hP hD hS 0 rfl rfl 26 (by decide) (hts _ t4_150) (fun _ h9 => h9) rfl (tyX12_ok 26 (by decide)) rfl rfl (Nat.le_of_ble_eq_true rfl) dX12_goes_28 (fun H locs hP hD hS => ?_)
        have hP : va_P D CL [(h_this, .inr (11, [x_lane, x_many, x_items, x_spare, .int v_status, x_tape, .int v_taped, .int v_faultKind, .int v_faultPlace, .int v_at, .int v_start, .int v_token, .int v_value, .ref h_now, x_draft, .ref h_tried, x_past, .int v_acts, x_images, x_kept, x_trace, .int v_traced, x_comes, x_standing, x_brought, .ref h_habit, .int 0])), (h_tried, .inl (cy 0, 124, .inl w_tried)), (h_now, .inl (cy 0, 124, .inl v_now)), (h_habit, .inl (cy 0, 3, .inl v_habit))] H := hP
        have hD : va_D A [(h_this, .inr (11, [x_lane, x_many, x_items, x_spare, .int v_status, x_tape, .int v_taped, .int v_faultKind, .int v_faultPlace, .int v_at, .int v_start, .int v_token, .int v_value, .ref h_now, x_draft, .ref h_tried, x_past, .int v_acts, x_images, x_kept, x_trace, .int v_traced, x_comes, x_standing, x_brought, .ref h_habit, .int 0])), (h_tried, .inl (cy 0, 124, .inl w_tried)), (h_now, .inl (cy 0, 124, .inl v_now)), (h_habit, .inl (cy 0, 3, .inl v_habit))] := hD
        refine lv_iload_n hx hb dX12_goes_31 rfl (lv_at hl 2 rfl) ?_
        refine lv_i2l hx hb dX12_goes_32 rfl ?_
        refine lv_lstore_n (lv' := [(3, .long ((l2).toInt64)), (0, .ref h_this), (1, .int l1), (2, .int l2)]) hx hb dX12_goes_33 rfl hl (by decide) rfl (fun ls hl => ?_)
        refine lv_iconst (v := 0) hx hb dX12_goes_34 (by decide) ?_
        refine lv_istore (lv' := [(5, .int 0), (3, .long ((l2).toInt64)), (0, .ref h_this), (1, .int l1), (2, .int l2)]) hx hb dX12_goes_35 hl (by decide) rfl (fun ls hl => ?_)
        exact L_37 fu l1 ((l2).toInt64) 0 0 w_tried _ _ ls  hP hD hS (lv_sub hl [2, 3, 1, 0] rfl) hF
      · have hF := hF.2 c_
        refine lv_aload_n hx hb dX12_goes_8 rfl (lv_at hl 0 rfl) ?_
        refine va_get (D := D) (ci := 11) (v := .ref h_tried) (C := RX12) (T := TX12) (N := 27) hx hb hts inTX12 hown hK.1 hP 0 rfl rfl 15 (by decide) (hts _ t4_139) (fun _ h9 => h9) rfl dX12_goes_9 ?_
        refine lv_iload_n hx hb dX12_goes_12 rfl (lv_at hl 3 rfl) ?_
        refine lv_aload_n hx hb dX12_goes_13 rfl (lv_at hl 0 rfl) ?_
        refine va_get (D := D) (ci := 11) (v := .ref h_now) (C := RX12) (T := TX12) (N := 27) hx hb hts inTX12 hown hK.1 hP 0 rfl rfl 13 (by decide) (hts _ t4_137) (fun _ h9 => h9) rfl dX12_goes_14 ?_
        refine lv_iload_n hx hb dX12_goes_17 rfl (lv_at hl 3 rfl) ?_
        obtain ⟨hi1, hF⟩ := hF
        refine s_iald (j := (l3).toNatClampNeg) hx hb hK.1 hP 2 0 rfl rfl hi1 rfl dX12_goes_18 ?_
        obtain ⟨hi2, hF⟩ := hF
        refine s_iast (j := (l3).toNatClampNeg) hx hb hK.1 hP hD hS 1 0 rfl rfl hi2 rfl dX12_goes_19 (fun H locs hP hD hS => ?_)
        have hP : va_P D CL [(h_this, .inr (11, [x_lane, x_many, x_items, x_spare, .int v_status, x_tape, .int v_taped, .int v_faultKind, .int v_faultPlace, .int v_at, .int v_start, .int v_token, .int v_value, .ref h_now, x_draft, .ref h_tried, x_past, .int v_acts, x_images, x_kept, x_trace, .int v_traced, x_comes, x_standing, x_brought, .ref h_habit, .int w_livedMany])), (h_tried, .inl (cy 0, 124, .inl (upd w_tried ((l3).toNatClampNeg) (v_now ((l3).toNatClampNeg))))), (h_now, .inl (cy 0, 124, .inl v_now)), (h_habit, .inl (cy 0, 3, .inl v_habit))] H := hP
        have hD : va_D A [(h_this, .inr (11, [x_lane, x_many, x_items, x_spare, .int v_status, x_tape, .int v_taped, .int v_faultKind, .int v_faultPlace, .int v_at, .int v_start, .int v_token, .int v_value, .ref h_now, x_draft, .ref h_tried, x_past, .int v_acts, x_images, x_kept, x_trace, .int v_traced, x_comes, x_standing, x_brought, .ref h_habit, .int w_livedMany])), (h_tried, .inl (cy 0, 124, .inl (upd w_tried ((l3).toNatClampNeg) (v_now ((l3).toNatClampNeg))))), (h_now, .inl (cy 0, 124, .inl v_now)), (h_habit, .inl (cy 0, 3, .inl v_habit))] := hD
        refine lv_iinc (v := (l3 + 1)) (lv' := [(3, .int (l3 + 1)), (0, .ref h_this), (1, .int l1), (2, .int l2)]) hx hb dX12_goes_20 hl (k := 3) rfl rfl (by decide) rfl (fun ls hl => ?_)
        refine lv_goto (tgt := 2) hx hb dX12_goes_23 (by decide) ?_
        exact ih_2 l1 l2 (l3 + 1) w_livedMany (upd w_tried ((l3).toNatClampNeg) (v_now ((l3).toNatClampNeg))) _ _ ls  hP hD hS (lv_sub hl [1, 2, 3, 0] rfl) hF
  unfold wpX12_goes at hF
  refine lv_iconst (v := 0) hx hb dX12_goes_0 (by decide) ?_
  refine lv_istore_n (lv' := [(3, .int 0), (0, .ref h_this), (1, .int p0), (2, .int p1)]) hx hb dX12_goes_1 rfl hl (by decide) rfl (fun ls hl => ?_)
  exact L_2 fu p0 p1 0 v_livedMany v_tried _ _ ls  hP hD hS (lv_sub hl [1, 2, 3, 0] rfl) hF

def wpX12_gone (p0 : Int32) (p1 : Int32) (p2 : Int32) (p3 : Int32) (v_status : Int32) (v_livedMany : Int32) (v_now : Nat → Int32) (v_lane : Nat → Int32) (v_many : Nat → Int32) (v_habit : Nat → Int32) (v_items : Nat → Int32) (v_tried : Nat → Int32) (post : Int32 → Int32 → Int32 → (Nat → Int32) → (Nat → Int32) → Prop) : Prop := wpX12_isVillage v_now (fun r1 => (r1 = true → (wpX12_isRow p0 (fun r2 => (r2 = false → (post (-1000001) v_status v_livedMany v_habit v_tried)) ∧ (r2 = true → (wpX12_in p1 1 20 (fun r3 => (r3 = false → (post (-1000001) v_status v_livedMany v_habit v_tried)) ∧ (r3 = true → (wpX12_in p2 1 999999 (fun r4 => (r4 = false → (post (-1000001) v_status v_livedMany v_habit v_tried)) ∧ (r4 = true → (wpX12_in p3 (-2) ((v_now 1) - 1) (fun r5 => (r5 = true → (wpX12_notHabits p0 v_status v_lane v_many v_now v_habit v_items (fun r6 u7_status u8_habit => (r6 = 0 → (wpX12_goes p1 p2 v_livedMany v_tried v_now u8_habit (fun _ u10_livedMany u11_tried => (¬ p3 = (-1) → ((¬ p3 = (-2) → (vp_in ((6 + (6 * p3)) + 4) 124 ∧ (post (u11_tried ((((6 + (6 * p3)) + 4)).toNatClampNeg)) 0 u10_livedMany u8_habit u11_tried))) ∧ (p3 = (-2) → (post (u11_tried 2) 0 u10_livedMany u8_habit u11_tried)))) ∧ (p3 = (-1) → (post u10_livedMany 0 u10_livedMany u8_habit u11_tried))))) ∧ (¬ r6 = 0 → (post r6 u7_status v_livedMany u8_habit v_tried))))) ∧ (r5 = false → (post (-1000001) v_status v_livedMany v_habit v_tried)))))))))))))) ∧ (r1 = false → (post (-1000002) v_status v_livedMany v_habit v_tried)))
abbrev miX12_gone : MI := (yX12_gone, cX12_gone, 6, (some .int))
theorem mfX12_gone : MF miX12_gone 4 := ⟨t5_194, t1_8, by decide +kernel⟩
abbrev rmX12_gone : Room := { frames := 4, cells := 0, slots := 0, locals := 96 }
set_option maxHeartbeats 4000000 in
set_option maxRecDepth 100000 in
theorem ccX12_gone (l : Launch) (D : va_G) (cy : Nat → ClassId) (h_this : Nat) (h_now : Nat) (h_lane : Nat) (h_many : Nat) (h_habit : Nat) (h_items : Nat) (h_tried : Nat) (x_spare : Value) (x_tape : Value) (x_draft : Value) (x_past : Value) (x_images : Value) (x_kept : Value) (x_trace : Value) (x_comes : Value) (x_standing : Value) (x_brought : Value) (v_status : Int32) (v_taped : Int32) (v_faultKind : Int32) (v_faultPlace : Int32) (v_at : Int32) (v_start : Int32) (v_token : Int32) (v_value : Int32) (v_acts : Int32) (v_traced : Int32) (v_livedMany : Int32) (v_now : Nat → Int32) (v_lane : Nat → Int32) (v_many : Nat → Int32) (v_habit : Nat → Int32) (v_items : Nat → Int32) (v_tried : Nat → Int32) (p0 : Int32) (p1 : Int32) (p2 : Int32) (p3 : Int32) (post : Int32 → Int32 → Int32 → (Nat → Int32) → (Nat → Int32) → Prop) (hF : wpX12_gone p0 p1 p2 p3 v_status v_livedMany v_now v_lane v_many v_habit v_items v_tried post) : Ct l D cy miX12_gone rmX12_gone emI NP [.ref h_this, .int p0, .int p1, .int p2, .int p3] [(h_this, .inr (11, [.ref h_lane, .ref h_many, .ref h_items, x_spare, .int v_status, x_tape, .int v_taped, .int v_faultKind, .int v_faultPlace, .int v_at, .int v_start, .int v_token, .int v_value, .ref h_now, x_draft, .ref h_tried, x_past, .int v_acts, x_images, x_kept, x_trace, .int v_traced, x_comes, x_standing, x_brought, .ref h_habit, .int v_livedMany])), (h_now, .inl (cy 0, 124, .inl v_now)), (h_lane, .inl (cy 0, 8, .inl v_lane)), (h_many, .inl (cy 0, 8, .inl v_many)), (h_habit, .inl (cy 0, 3, .inl v_habit)), (h_items, .inl (cy 0, 320, .inl v_items)), (h_tried, .inl (cy 0, 124, .inl v_tried))] (fun r w1 => ∃ (w_status : Int32) (w_livedMany : Int32) (w_habit : Nat → Int32) (w_tried : Nat → Int32), w1 = [(h_this, .inr (11, [.ref h_lane, .ref h_many, .ref h_items, x_spare, .int w_status, x_tape, .int v_taped, .int v_faultKind, .int v_faultPlace, .int v_at, .int v_start, .int v_token, .int v_value, .ref h_now, x_draft, .ref h_tried, x_past, .int v_acts, x_images, x_kept, x_trace, .int v_traced, x_comes, x_standing, x_brought, .ref h_habit, .int w_livedMany])), (h_now, .inl (cy 0, 124, .inl v_now)), (h_lane, .inl (cy 0, 8, .inl v_lane)), (h_many, .inl (cy 0, 8, .inl v_many)), (h_habit, .inl (cy 0, 3, .inl w_habit)), (h_items, .inl (cy 0, 320, .inl v_items)), (h_tried, .inl (cy 0, 124, .inl w_tried))] ∧ post r w_status w_livedMany w_habit w_tried) := by
  refine Ct.of (by decide) (Nat.le_of_ble_eq_true rfl) ?_
  intro p e s m args below meth c A ls Q C hQ hA hI hP hD hS hl
  obtain ⟨hx, hb, hr, hml, hown, hts, hK, hlk, hnm⟩ := id C
  have hb : c.code = cX12_gone := hb
  have hml : c.maxLocals = 6 := hml
  have hown : s.vm.findClass RX12 = some m.cls := hown
  have hl : lv_has ls 6 [(0, .ref h_this), (1, .int p0), (2, .int p1), (3, .int p2), (4, .int p3)] := hl
  unfold wpX12_gone at hF
  refine lv_aload_n hx hb dX12_gone_0 rfl (lv_at hl 0 rfl) ?_
  refine cV_r (As := []) C mfX12_isVillage t5_62 ts_24 t5_60 (ccX12_isVillage l D cy h_this h_now (.ref h_lane) (.ref h_many) (.ref h_items) x_spare x_tape x_draft (.ref h_tried) x_past x_images x_kept x_trace x_comes x_standing x_brought (.ref h_habit) v_status v_taped v_faultKind v_faultPlace v_at v_start v_token v_value v_acts v_traced v_livedMany v_now _ hF) rfl rfl (hP.sub [0, 1] rfl) PR.np hP 0 11 rfl rfl rfl rfl hl.1 rfl (Nat.le_of_ble_eq_true rfl) dX12_gone_1 ⟨Nat.le_of_ble_eq_true rfl, Nat.le_of_ble_eq_true rfl⟩ ⟨Nat.le_of_ble_eq_true rfl, Nat.le_of_ble_eq_true rfl⟩ ?_
  intro r1 hF
  refine W.eq (g2 := F0 m 4 ls [.int (bz r1)]) rfl ?_
  refine lv_if_ne (tgt := 10) hx hb dX12_gone_4 (by decide) (fun c_ => ?_) (fun c_ => ?_)
  · have hF := hF.1 ((bz_1 _).mp c_)
    refine lv_iload_n hx hb dX12_gone_10 rfl (lv_at hl 1 rfl) ?_
    refine cS_r (As := [.int p0]) C mfX12_isRow t4_212 t4_211 (ccX12_isRow l D cy p0 _ hF) rfl rfl (hP.sub [] rfl) PR.np rfl hl.1 rfl (Nat.le_of_ble_eq_true rfl) dX12_gone_11 ⟨Nat.le_of_ble_eq_true rfl, Nat.le_of_ble_eq_true rfl⟩ ⟨Nat.le_of_ble_eq_true rfl, Nat.le_of_ble_eq_true rfl⟩ ?_
    intro r2 hF
    refine W.eq (g2 := F0 m 14 ls [.int (bz r2)]) rfl ?_
    refine lv_if_eq (tgt := 55) hx hb dX12_gone_14 (by decide) (fun c_ => ?_) (fun c_ => ?_)
    · have hF := hF.1 ((bz_0 _).mp c_)
      refine lv_ldc hx hb hown (hts _ t4_217) dX12_gone_55 ?_
      exact rt_i C hQ rfl hP hD hS ⟨v_status, v_livedMany, v_habit, v_tried, rfl, hF⟩ dX12_gone_57
    · have hF := hF.2 ((bz_1 _).mp c_)
      refine lv_iload_n hx hb dX12_gone_17 rfl (lv_at hl 2 rfl) ?_
      refine lv_iconst (v := 1) hx hb dX12_gone_18 (by decide) ?_
      refine lv_bipush (v := 20) hx hb dX12_gone_19 (by decide) ?_
      refine cS_r (As := [.int p1, .int 1, .int 20]) C mfX12_in t4_215 t4_214 (ccX12_in l D cy p1 1 20 _ hF) rfl rfl (hP.sub [] rfl) PR.np rfl hl.1 rfl (Nat.le_of_ble_eq_true rfl) dX12_gone_21 ⟨Nat.le_of_ble_eq_true rfl, Nat.le_of_ble_eq_true rfl⟩ ⟨Nat.le_of_ble_eq_true rfl, Nat.le_of_ble_eq_true rfl⟩ ?_
      intro r3 hF
      refine W.eq (g2 := F0 m 24 ls [.int (bz r3)]) rfl ?_
      refine lv_if_eq (tgt := 55) hx hb dX12_gone_24 (by decide) (fun c_ => ?_) (fun c_ => ?_)
      · have hF := hF.1 ((bz_0 _).mp c_)
        refine lv_ldc hx hb hown (hts _ t4_217) dX12_gone_55 ?_
        exact rt_i C hQ rfl hP hD hS ⟨v_status, v_livedMany, v_habit, v_tried, rfl, hF⟩ dX12_gone_57
      · have hF := hF.2 ((bz_1 _).mp c_)
        refine lv_iload_n hx hb dX12_gone_27 rfl (lv_at hl 3 rfl) ?_
        refine lv_iconst (v := 1) hx hb dX12_gone_28 (by decide) ?_
        refine lv_ldc hx hb hown (hts _ t5_64) dX12_gone_29 ?_
        refine cS_r (As := [.int p2, .int 1, .int 999999]) C mfX12_in t4_215 t4_214 (ccX12_in l D cy p2 1 999999 _ hF) rfl rfl (hP.sub [] rfl) PR.np rfl hl.1 rfl (Nat.le_of_ble_eq_true rfl) dX12_gone_31 ⟨Nat.le_of_ble_eq_true rfl, Nat.le_of_ble_eq_true rfl⟩ ⟨Nat.le_of_ble_eq_true rfl, Nat.le_of_ble_eq_true rfl⟩ ?_
        intro r4 hF
        refine W.eq (g2 := F0 m 34 ls [.int (bz r4)]) rfl ?_
        refine lv_if_eq (tgt := 55) hx hb dX12_gone_34 (by decide) (fun c_ => ?_) (fun c_ => ?_)
        · have hF := hF.1 ((bz_0 _).mp c_)
          refine lv_ldc hx hb hown (hts _ t4_217) dX12_gone_55 ?_
          exact rt_i C hQ rfl hP hD hS ⟨v_status, v_livedMany, v_habit, v_tried, rfl, hF⟩ dX12_gone_57
        · have hF := hF.2 ((bz_1 _).mp c_)
          refine lv_iload hx hb dX12_gone_37 (lv_at hl 4 rfl) ?_
          refine lv_bipush (v := (-2)) hx hb dX12_gone_39 (by decide) ?_
          refine lv_aload_n hx hb dX12_gone_41 rfl (lv_at hl 0 rfl) ?_
          refine va_get (D := D) (ci := 11) (v := .ref h_now) (C := RX12) (T := TX12) (N := 27) hx hb hts inTX12 hown hK.1 hP 0 rfl rfl 13 (by decide) (hts _ t4_137) (fun _ h9 => h9) rfl dX12_gone_42 ?_
          refine lv_iconst (v := 1) hx hb dX12_gone_45 (by decide) ?_
          refine s_iald (j := 1) hx hb hK.1 hP 1 0 rfl rfl (vi (by decide)) (by decide) dX12_gone_46 ?_
          refine lv_iconst (v := 1) hx hb dX12_gone_47 (by decide) ?_
          refine lv_isub hx hb dX12_gone_48 ?_
          refine cS_r (As := [.int p3, .int (-2), .int ((v_now 1) - 1)]) C mfX12_in t4_215 t4_214 (ccX12_in l D cy p3 (-2) ((v_now 1) - 1) _ hF) rfl rfl (hP.sub [] rfl) PR.np rfl hl.1 rfl (Nat.le_of_ble_eq_true rfl) dX12_gone_49 ⟨Nat.le_of_ble_eq_true rfl, Nat.le_of_ble_eq_true rfl⟩ ⟨Nat.le_of_ble_eq_true rfl, Nat.le_of_ble_eq_true rfl⟩ ?_
          intro r5 hF
          refine W.eq (g2 := F0 m 52 ls [.int (bz r5)]) rfl ?_
          refine lv_if_ne (tgt := 58) hx hb dX12_gone_52 (by decide) (fun c_ => ?_) (fun c_ => ?_)
          · have hF := hF.1 ((bz_1 _).mp c_)
            refine lv_aload_n hx hb dX12_gone_58 rfl (lv_at hl 0 rfl) ?_
            refine lv_iload_n hx hb dX12_gone_59 rfl (lv_at hl 1 rfl) ?_
            refine cV_t (As := [.int p0]) (wr := [(h_tried, .inl (cy 0, 124, .inl v_tried))]) C hA hP hD hS mfX12_notHabits t5_131 ts_27 t5_129 (ccX12_notHabits l D cy h_this h_lane h_many h_now h_habit h_items x_spare x_tape x_draft (.ref h_tried) x_past x_images x_kept x_trace x_comes x_standing x_brought v_status v_taped v_faultKind v_faultPlace v_at v_start v_token v_value v_acts v_traced v_livedMany v_lane v_many v_now v_habit v_items p0 _ hF) [0, 2, 3, 1, 4, 5] [6] rfl rfl (by decide) (by decide) (by decide) PO.np 0 11 rfl rfl rfl rfl hl.1 rfl (Nat.le_of_ble_eq_true rfl) dX12_gone_60 ⟨Nat.le_of_ble_eq_true rfl, Nat.le_of_ble_eq_true rfl⟩ ⟨Nat.le_of_ble_eq_true rfl, Nat.le_of_ble_eq_true rfl⟩ ?_
            rintro r6 w1 H locs ⟨u7_status, u8_habit, rfl, hF⟩ hP hD hS
            have hP : va_P D CL [(h_tried, .inl (cy 0, 124, .inl v_tried)), (h_this, .inr (11, [.ref h_lane, .ref h_many, .ref h_items, x_spare, .int u7_status, x_tape, .int v_taped, .int v_faultKind, .int v_faultPlace, .int v_at, .int v_start, .int v_token, .int v_value, .ref h_now, x_draft, .ref h_tried, x_past, .int v_acts, x_images, x_kept, x_trace, .int v_traced, x_comes, x_standing, x_brought, .ref h_habit, .int v_livedMany])), (h_lane, .inl (cy 0, 8, .inl v_lane)), (h_many, .inl (cy 0, 8, .inl v_many)), (h_now, .inl (cy 0, 124, .inl v_now)), (h_habit, .inl (cy 0, 3, .inl u8_habit)), (h_items, .inl (cy 0, 320, .inl v_items))] H := hP
            have hD : va_D A [(h_tried, .inl (cy 0, 124, .inl v_tried)), (h_this, .inr (11, [.ref h_lane, .ref h_many, .ref h_items, x_spare, .int u7_status, x_tape, .int v_taped, .int v_faultKind, .int v_faultPlace, .int v_at, .int v_start, .int v_token, .int v_value, .ref h_now, x_draft, .ref h_tried, x_past, .int v_acts, x_images, x_kept, x_trace, .int v_traced, x_comes, x_standing, x_brought, .ref h_habit, .int v_livedMany])), (h_lane, .inl (cy 0, 8, .inl v_lane)), (h_many, .inl (cy 0, 8, .inl v_many)), (h_now, .inl (cy 0, 124, .inl v_now)), (h_habit, .inl (cy 0, 3, .inl u8_habit)), (h_items, .inl (cy 0, 320, .inl v_items))] := hD
            refine W.eq (g2 := F0 m 63 ls [.int r6]) rfl ?_
            refine lv_istore (lv' := [(5, .int r6), (0, .ref h_this), (1, .int p0), (2, .int p1), (3, .int p2), (4, .int p3)]) hx hb dX12_gone_63 hl (by decide) rfl (fun ls hl => ?_)
            refine lv_iload hx hb dX12_gone_65 (lv_at hl 0 rfl) ?_
            refine lv_if_eq (tgt := 73) hx hb dX12_gone_67 (by decide) (fun c_ => ?_) (fun c_ => ?_)
            · have hF := hF.1 c_
              refine lv_aload_n hx hb dX12_gone_73 rfl (lv_at hl 1 rfl) ?_
              refine lv_iconst (v := 0) hx hb dX12_gone_74 (by decide) ?_
              refine va_put (D := D) (ci := 11) (v := .int 0) (ty := .int) (C := RX12) (T := TX12) (N := 27) hx hb hts inTX12 tyX12 tyX12_ok nmX12 hown hK.1 hP hD hS 1 rfl rfl 4 (by decide) (hts _ t4_128) (fun _ h9 => h9) rfl (tyX12_ok 4 (by decide)) rfl rfl (Nat.le_of_ble_eq_true rfl) dX12_gone_75 (fun H locs hP hD hS => ?_)
              have hP : va_P D CL [(h_tried, .inl (cy 0, 124, .inl v_tried)), (h_this, .inr (11, [.ref h_lane, .ref h_many, .ref h_items, x_spare, .int 0, x_tape, .int v_taped, .int v_faultKind, .int v_faultPlace, .int v_at, .int v_start, .int v_token, .int v_value, .ref h_now, x_draft, .ref h_tried, x_past, .int v_acts, x_images, x_kept, x_trace, .int v_traced, x_comes, x_standing, x_brought, .ref h_habit, .int v_livedMany])), (h_lane, .inl (cy 0, 8, .inl v_lane)), (h_many, .inl (cy 0, 8, .inl v_many)), (h_now, .inl (cy 0, 124, .inl v_now)), (h_habit, .inl (cy 0, 3, .inl u8_habit)), (h_items, .inl (cy 0, 320, .inl v_items))] H := hP
              have hD : va_D A [(h_tried, .inl (cy 0, 124, .inl v_tried)), (h_this, .inr (11, [.ref h_lane, .ref h_many, .ref h_items, x_spare, .int 0, x_tape, .int v_taped, .int v_faultKind, .int v_faultPlace, .int v_at, .int v_start, .int v_token, .int v_value, .ref h_now, x_draft, .ref h_tried, x_past, .int v_acts, x_images, x_kept, x_trace, .int v_traced, x_comes, x_standing, x_brought, .ref h_habit, .int v_livedMany])), (h_lane, .inl (cy 0, 8, .inl v_lane)), (h_many, .inl (cy 0, 8, .inl v_many)), (h_now, .inl (cy 0, 124, .inl v_now)), (h_habit, .inl (cy 0, 3, .inl u8_habit)), (h_items, .inl (cy 0, 320, .inl v_items))] := hD
              refine lv_aload_n hx hb dX12_gone_78 rfl (lv_at hl 1 rfl) ?_
              refine lv_iload_n hx hb dX12_gone_79 rfl (lv_at hl 3 rfl) ?_
              refine lv_iload_n hx hb dX12_gone_80 rfl (lv_at hl 4 rfl) ?_
              refine cV_t (As := [.int p1, .int p2]) (wr := [(h_lane, .inl (cy 0, 8, .inl v_lane)), (h_many, .inl (cy 0, 8, .inl v_many)), (h_items, .inl (cy 0, 320, .inl v_items))]) C hA hP hD hS mfX12_goes t5_197 ts_34 t5_195 (ccX12_goes l D cy h_this h_tried h_now h_habit (.ref h_lane) (.ref h_many) (.ref h_items) x_spare x_tape x_draft x_past x_images x_kept x_trace x_comes x_standing x_brought 0 v_taped v_faultKind v_faultPlace v_at v_start v_token v_value v_acts v_traced v_livedMany v_tried v_now u8_habit p1 p2 _ hF) [1, 0, 4, 5] [2, 3, 6] rfl rfl (by decide) (by decide) (by decide) PO.np 1 11 rfl rfl rfl rfl hl.1 rfl (Nat.le_of_ble_eq_true rfl) dX12_gone_81 ⟨Nat.le_of_ble_eq_true rfl, Nat.le_of_ble_eq_true rfl⟩ ⟨Nat.le_of_ble_eq_true rfl, Nat.le_of_ble_eq_true rfl⟩ ?_
              rintro ⟨⟩ w1 H locs ⟨u10_livedMany, u11_tried, rfl, hF⟩ hP hD hS
              have hP : va_P D CL [(h_lane, .inl (cy 0, 8, .inl v_lane)), (h_many, .inl (cy 0, 8, .inl v_many)), (h_items, .inl (cy 0, 320, .inl v_items)), (h_this, .inr (11, [.ref h_lane, .ref h_many, .ref h_items, x_spare, .int 0, x_tape, .int v_taped, .int v_faultKind, .int v_faultPlace, .int v_at, .int v_start, .int v_token, .int v_value, .ref h_now, x_draft, .ref h_tried, x_past, .int v_acts, x_images, x_kept, x_trace, .int v_traced, x_comes, x_standing, x_brought, .ref h_habit, .int u10_livedMany])), (h_tried, .inl (cy 0, 124, .inl u11_tried)), (h_now, .inl (cy 0, 124, .inl v_now)), (h_habit, .inl (cy 0, 3, .inl u8_habit))] H := hP
              have hD : va_D A [(h_lane, .inl (cy 0, 8, .inl v_lane)), (h_many, .inl (cy 0, 8, .inl v_many)), (h_items, .inl (cy 0, 320, .inl v_items)), (h_this, .inr (11, [.ref h_lane, .ref h_many, .ref h_items, x_spare, .int 0, x_tape, .int v_taped, .int v_faultKind, .int v_faultPlace, .int v_at, .int v_start, .int v_token, .int v_value, .ref h_now, x_draft, .ref h_tried, x_past, .int v_acts, x_images, x_kept, x_trace, .int v_traced, x_comes, x_standing, x_brought, .ref h_habit, .int u10_livedMany])), (h_tried, .inl (cy 0, 124, .inl u11_tried)), (h_now, .inl (cy 0, 124, .inl v_now)), (h_habit, .inl (cy 0, 3, .inl u8_habit))] := hD
              refine W.eq (g2 := F0 m 84 ls []) rfl ?_
              refine lv_iload hx hb dX12_gone_84 (lv_at hl 5 rfl) ?_
              refine lv_iconst (v := (-1)) hx hb dX12_gone_86 (by decide) ?_
              refine lv_icmp_ne (tgt := 97) hx hb dX12_gone_87 (by decide) (fun c_ => ?_) (fun c_ => ?_)
              · have hF := hF.1 c_
                refine lv_iload hx hb dX12_gone_97 (lv_at hl 5 rfl) ?_
                refine lv_bipush (v := (-2)) hx hb dX12_gone_99 (by decide) ?_
                refine lv_icmp_ne (tgt := 113) hx hb dX12_gone_101 (by decide) (fun c_ => ?_) (fun c_ => ?_)
                · have hF := hF.1 c_
                  refine lv_aload_n hx hb dX12_gone_113 rfl (lv_at hl 1 rfl) ?_
                  refine va_get (D := D) (ci := 11) (v := .ref h_tried) (C := RX12) (T := TX12) (N := 27) hx hb hts inTX12 hown hK.1 hP 3 rfl rfl 15 (by decide) (hts _ t4_139) (fun _ h9 => h9) rfl dX12_gone_114 ?_
                  refine lv_bipush (v := 6) hx hb dX12_gone_117 (by decide) ?_
                  refine lv_bipush (v := 6) hx hb dX12_gone_119 (by decide) ?_
                  refine lv_iload hx hb dX12_gone_121 (lv_at hl 5 rfl) ?_
                  refine lv_imul hx hb dX12_gone_123 ?_
                  refine lv_iadd hx hb dX12_gone_124 ?_
                  refine lv_iconst (v := 4) hx hb dX12_gone_125 (by decide) ?_
                  refine lv_iadd hx hb dX12_gone_126 ?_
                  obtain ⟨hi12, hF⟩ := hF
                  refine s_iald (j := (((6 + (6 * p3)) + 4)).toNatClampNeg) hx hb hK.1 hP 4 0 rfl rfl hi12 rfl dX12_gone_127 ?_
                  have hP : va_P D CL [(h_this, .inr (11, [.ref h_lane, .ref h_many, .ref h_items, x_spare, .int 0, x_tape, .int v_taped, .int v_faultKind, .int v_faultPlace, .int v_at, .int v_start, .int v_token, .int v_value, .ref h_now, x_draft, .ref h_tried, x_past, .int v_acts, x_images, x_kept, x_trace, .int v_traced, x_comes, x_standing, x_brought, .ref h_habit, .int u10_livedMany])), (h_now, .inl (cy 0, 124, .inl v_now)), (h_lane, .inl (cy 0, 8, .inl v_lane)), (h_many, .inl (cy 0, 8, .inl v_many)), (h_habit, .inl (cy 0, 3, .inl u8_habit)), (h_items, .inl (cy 0, 320, .inl v_items)), (h_tried, .inl (cy 0, 124, .inl u11_tried))] H := (hP.sub [3, 5, 0, 1, 6, 2, 4] rfl)
                  have hD : va_D A [(h_this, .inr (11, [.ref h_lane, .ref h_many, .ref h_items, x_spare, .int 0, x_tape, .int v_taped, .int v_faultKind, .int v_faultPlace, .int v_at, .int v_start, .int v_token, .int v_value, .ref h_now, x_draft, .ref h_tried, x_past, .int v_acts, x_images, x_kept, x_trace, .int v_traced, x_comes, x_standing, x_brought, .ref h_habit, .int u10_livedMany])), (h_now, .inl (cy 0, 124, .inl v_now)), (h_lane, .inl (cy 0, 8, .inl v_lane)), (h_many, .inl (cy 0, 8, .inl v_many)), (h_habit, .inl (cy 0, 3, .inl u8_habit)), (h_items, .inl (cy 0, 320, .inl v_items)), (h_tried, .inl (cy 0, 124, .inl u11_tried))] := (hD.sub [3, 5, 0, 1, 6, 2, 4] (by decide) rfl)
                  exact rt_i C hQ rfl hP hD hS ⟨0, u10_livedMany, u8_habit, u11_tried, rfl, hF⟩ dX12_gone_128
                · have hF := hF.2 c_
                  refine lv_aload_n hx hb dX12_gone_104 rfl (lv_at hl 1 rfl) ?_
                  refine va_get (D := D) (ci := 11) (v := .ref h_tried) (C := RX12) (T := TX12) (N := 27) hx hb hts inTX12 hown hK.1 hP 3 rfl rfl 15 (by decide) (hts _ t4_139) (fun _ h9 => h9) rfl dX12_gone_105 ?_
                  refine lv_iconst (v := 2) hx hb dX12_gone_108 (by decide) ?_
                  refine s_iald (j := 2) hx hb hK.1 hP 4 0 rfl rfl (vi (by decide)) (by decide) dX12_gone_109 ?_
                  refine lv_goto (tgt := 128) hx hb dX12_gone_110 (by decide) ?_
                  have hP : va_P D CL [(h_this, .inr (11, [.ref h_lane, .ref h_many, .ref h_items, x_spare, .int 0, x_tape, .int v_taped, .int v_faultKind, .int v_faultPlace, .int v_at, .int v_start, .int v_token, .int v_value, .ref h_now, x_draft, .ref h_tried, x_past, .int v_acts, x_images, x_kept, x_trace, .int v_traced, x_comes, x_standing, x_brought, .ref h_habit, .int u10_livedMany])), (h_now, .inl (cy 0, 124, .inl v_now)), (h_lane, .inl (cy 0, 8, .inl v_lane)), (h_many, .inl (cy 0, 8, .inl v_many)), (h_habit, .inl (cy 0, 3, .inl u8_habit)), (h_items, .inl (cy 0, 320, .inl v_items)), (h_tried, .inl (cy 0, 124, .inl u11_tried))] H := (hP.sub [3, 5, 0, 1, 6, 2, 4] rfl)
                  have hD : va_D A [(h_this, .inr (11, [.ref h_lane, .ref h_many, .ref h_items, x_spare, .int 0, x_tape, .int v_taped, .int v_faultKind, .int v_faultPlace, .int v_at, .int v_start, .int v_token, .int v_value, .ref h_now, x_draft, .ref h_tried, x_past, .int v_acts, x_images, x_kept, x_trace, .int v_traced, x_comes, x_standing, x_brought, .ref h_habit, .int u10_livedMany])), (h_now, .inl (cy 0, 124, .inl v_now)), (h_lane, .inl (cy 0, 8, .inl v_lane)), (h_many, .inl (cy 0, 8, .inl v_many)), (h_habit, .inl (cy 0, 3, .inl u8_habit)), (h_items, .inl (cy 0, 320, .inl v_items)), (h_tried, .inl (cy 0, 124, .inl u11_tried))] := (hD.sub [3, 5, 0, 1, 6, 2, 4] (by decide) rfl)
                  exact rt_i C hQ rfl hP hD hS ⟨0, u10_livedMany, u8_habit, u11_tried, rfl, hF⟩ dX12_gone_128
              · have hF := hF.2 c_
                refine lv_aload_n hx hb dX12_gone_90 rfl (lv_at hl 1 rfl) ?_
                refine va_get (D := D) (ci := 11) (v := .int u10_livedMany) (C := RX12) (T := TX12) (N := 27) hx hb hts inTX12 hown hK.1 hP 3 rfl rfl 26 (by decide) (hts _ t4_150) (fun _ h9 => h9) rfl dX12_gone_91 ?_
                refine lv_goto (tgt := 128) hx hb dX12_gone_94 (by decide) ?_
                have hP : va_P D CL [(h_this, .inr (11, [.ref h_lane, .ref h_many, .ref h_items, x_spare, .int 0, x_tape, .int v_taped, .int v_faultKind, .int v_faultPlace, .int v_at, .int v_start, .int v_token, .int v_value, .ref h_now, x_draft, .ref h_tried, x_past, .int v_acts, x_images, x_kept, x_trace, .int v_traced, x_comes, x_standing, x_brought, .ref h_habit, .int u10_livedMany])), (h_now, .inl (cy 0, 124, .inl v_now)), (h_lane, .inl (cy 0, 8, .inl v_lane)), (h_many, .inl (cy 0, 8, .inl v_many)), (h_habit, .inl (cy 0, 3, .inl u8_habit)), (h_items, .inl (cy 0, 320, .inl v_items)), (h_tried, .inl (cy 0, 124, .inl u11_tried))] H := (hP.sub [3, 5, 0, 1, 6, 2, 4] rfl)
                have hD : va_D A [(h_this, .inr (11, [.ref h_lane, .ref h_many, .ref h_items, x_spare, .int 0, x_tape, .int v_taped, .int v_faultKind, .int v_faultPlace, .int v_at, .int v_start, .int v_token, .int v_value, .ref h_now, x_draft, .ref h_tried, x_past, .int v_acts, x_images, x_kept, x_trace, .int v_traced, x_comes, x_standing, x_brought, .ref h_habit, .int u10_livedMany])), (h_now, .inl (cy 0, 124, .inl v_now)), (h_lane, .inl (cy 0, 8, .inl v_lane)), (h_many, .inl (cy 0, 8, .inl v_many)), (h_habit, .inl (cy 0, 3, .inl u8_habit)), (h_items, .inl (cy 0, 320, .inl v_items)), (h_tried, .inl (cy 0, 124, .inl u11_tried))] := (hD.sub [3, 5, 0, 1, 6, 2, 4] (by decide) rfl)
                exact rt_i C hQ rfl hP hD hS ⟨0, u10_livedMany, u8_habit, u11_tried, rfl, hF⟩ dX12_gone_128
            · have hF := hF.2 c_
              refine lv_iload hx hb dX12_gone_70 (lv_at hl 0 rfl) ?_
              have hP : va_P D CL [(h_this, .inr (11, [.ref h_lane, .ref h_many, .ref h_items, x_spare, .int u7_status, x_tape, .int v_taped, .int v_faultKind, .int v_faultPlace, .int v_at, .int v_start, .int v_token, .int v_value, .ref h_now, x_draft, .ref h_tried, x_past, .int v_acts, x_images, x_kept, x_trace, .int v_traced, x_comes, x_standing, x_brought, .ref h_habit, .int v_livedMany])), (h_now, .inl (cy 0, 124, .inl v_now)), (h_lane, .inl (cy 0, 8, .inl v_lane)), (h_many, .inl (cy 0, 8, .inl v_many)), (h_habit, .inl (cy 0, 3, .inl u8_habit)), (h_items, .inl (cy 0, 320, .inl v_items)), (h_tried, .inl (cy 0, 124, .inl v_tried))] H := (hP.sub [1, 4, 2, 3, 5, 6, 0] rfl)
              have hD : va_D A [(h_this, .inr (11, [.ref h_lane, .ref h_many, .ref h_items, x_spare, .int u7_status, x_tape, .int v_taped, .int v_faultKind, .int v_faultPlace, .int v_at, .int v_start, .int v_token, .int v_value, .ref h_now, x_draft, .ref h_tried, x_past, .int v_acts, x_images, x_kept, x_trace, .int v_traced, x_comes, x_standing, x_brought, .ref h_habit, .int v_livedMany])), (h_now, .inl (cy 0, 124, .inl v_now)), (h_lane, .inl (cy 0, 8, .inl v_lane)), (h_many, .inl (cy 0, 8, .inl v_many)), (h_habit, .inl (cy 0, 3, .inl u8_habit)), (h_items, .inl (cy 0, 320, .inl v_items)), (h_tried, .inl (cy 0, 124, .inl v_tried))] := (hD.sub [1, 4, 2, 3, 5, 6, 0] (by decide) rfl)
              exact rt_i C hQ rfl hP hD hS ⟨u7_status, v_livedMany, u8_habit, v_tried, rfl, hF⟩ dX12_gone_72
          · have hF := hF.2 ((bz_0 _).mp c_)
            refine lv_ldc hx hb hown (hts _ t4_217) dX12_gone_55 ?_
            exact rt_i C hQ rfl hP hD hS ⟨v_status, v_livedMany, v_habit, v_tried, rfl, hF⟩ dX12_gone_57
  · have hF := hF.2 ((bz_0 _).mp c_)
    refine lv_ldc hx hb hown (hts _ t5_55) dX12_gone_7 ?_
    exact rt_i C hQ rfl hP hD hS ⟨v_status, v_livedMany, v_habit, v_tried, rfl, hF⟩ dX12_gone_9

def wlX12_image_24 (v_now : Nat → Int32) (post : Int32 → (Nat → Int32) → (Nat → Int32) → Prop) : Nat → Int32 → Int32 → (Nat → Int32) → (Nat → Int32) → Prop
  | 0, _, _, _, _ => False
  | n + 1, l1, l2, w_kept, w_images => (124 ≤ l2 → (vp_in l1 2 ∧ (post 1 (upd w_kept ((l1).toNatClampNeg) (vp_nar .boolean 1)) w_images))) ∧ (¬ 124 ≤ l2 → (vp_in l2 124 ∧ (vp_in ((124 * l1) + l2) 248 ∧ ((wlX12_image_24 v_now post n) l1 (l2 + 1) w_kept (upd w_images ((((124 * l1) + l2)).toNatClampNeg) (v_now ((l2).toNatClampNeg)))))))
def wpX12_image (p0 : Int32) (v_now : Nat → Int32) (v_kept : Nat → Int32) (v_images : Nat → Int32) (post : Int32 → (Nat → Int32) → (Nat → Int32) → Prop) : Prop := wpX12_in p0 0 1 (fun r1 => (r1 = true → (wpX12_isVillage v_now (fun r2 => (r2 = true → (wlX12_image_24 v_now post fu p0 0 v_kept v_images)) ∧ (r2 = false → (post (-1000002) v_kept v_images))))) ∧ (r1 = false → (post (-1000001) v_kept v_images)))
abbrev miX12_image : MI := (yX12_image, cX12_image, 3, (some .int))
theorem mfX12_image : MF miX12_image 1 := ⟨t5_202, t1_8, by decide +kernel⟩
abbrev rmX12_image : Room := { frames := 1, cells := 0, slots := 0, locals := 22 }
set_option maxHeartbeats 4000000 in
set_option maxRecDepth 100000 in
theorem ccX12_image (l : Launch) (D : va_G) (cy : Nat → ClassId) (h_this : Nat) (h_now : Nat) (h_kept : Nat) (h_images : Nat) (x_lane : Value) (x_many : Value) (x_items : Value) (x_spare : Value) (x_tape : Value) (x_draft : Value) (x_tried : Value) (x_past : Value) (x_trace : Value) (x_comes : Value) (x_standing : Value) (x_brought : Value) (x_habit : Value) (v_status : Int32) (v_taped : Int32) (v_faultKind : Int32) (v_faultPlace : Int32) (v_at : Int32) (v_start : Int32) (v_token : Int32) (v_value : Int32) (v_acts : Int32) (v_traced : Int32) (v_livedMany : Int32) (v_now : Nat → Int32) (v_kept : Nat → Int32) (v_images : Nat → Int32) (p0 : Int32) (post : Int32 → (Nat → Int32) → (Nat → Int32) → Prop) (hF : wpX12_image p0 v_now v_kept v_images post) : Ct l D cy miX12_image rmX12_image emI NP [.ref h_this, .int p0] [(h_this, .inr (11, [x_lane, x_many, x_items, x_spare, .int v_status, x_tape, .int v_taped, .int v_faultKind, .int v_faultPlace, .int v_at, .int v_start, .int v_token, .int v_value, .ref h_now, x_draft, x_tried, x_past, .int v_acts, .ref h_images, .ref h_kept, x_trace, .int v_traced, x_comes, x_standing, x_brought, x_habit, .int v_livedMany])), (h_now, .inl (cy 0, 124, .inl v_now)), (h_kept, .inl (cy 2, 2, .inl v_kept)), (h_images, .inl (cy 0, 248, .inl v_images))] (fun r w1 => ∃ (w_kept : Nat → Int32) (w_images : Nat → Int32), w1 = [(h_this, .inr (11, [x_lane, x_many, x_items, x_spare, .int v_status, x_tape, .int v_taped, .int v_faultKind, .int v_faultPlace, .int v_at, .int v_start, .int v_token, .int v_value, .ref h_now, x_draft, x_tried, x_past, .int v_acts, .ref h_images, .ref h_kept, x_trace, .int v_traced, x_comes, x_standing, x_brought, x_habit, .int v_livedMany])), (h_now, .inl (cy 0, 124, .inl v_now)), (h_kept, .inl (cy 2, 2, .inl w_kept)), (h_images, .inl (cy 0, 248, .inl w_images))] ∧ post r w_kept w_images) := by
  refine Ct.of (by decide) (Nat.le_of_ble_eq_true rfl) ?_
  intro p e s m args below meth c A ls Q C hQ hA hI hP hD hS hl
  obtain ⟨hx, hb, hr, hml, hown, hts, hK, hlk, hnm⟩ := id C
  have hb : c.code = cX12_image := hb
  have hml : c.maxLocals = 3 := hml
  have hown : s.vm.findClass RX12 = some m.cls := hown
  have hl : lv_has ls 3 [(0, .ref h_this), (1, .int p0)] := hl
  have L_24 : ∀ (n_24 : Nat) (l1 : Int32) (l2 : Int32) (w_kept : Nat → Int32) (w_images : Nat → Int32) (H : Heap) (locs : List Loc) (ls : Array Slot), va_P D CL [(h_this, .inr (11, [x_lane, x_many, x_items, x_spare, .int v_status, x_tape, .int v_taped, .int v_faultKind, .int v_faultPlace, .int v_at, .int v_start, .int v_token, .int v_value, .ref h_now, x_draft, x_tried, x_past, .int v_acts, .ref h_images, .ref h_kept, x_trace, .int v_traced, x_comes, x_standing, x_brought, x_habit, .int v_livedMany])), (h_now, .inl (cy 0, 124, .inl v_now)), (h_kept, .inl (cy 2, 2, .inl w_kept)), (h_images, .inl (cy 0, 248, .inl w_images))] H → va_D A [(h_this, .inr (11, [x_lane, x_many, x_items, x_spare, .int v_status, x_tape, .int v_taped, .int v_faultKind, .int v_faultPlace, .int v_at, .int v_start, .int v_token, .int v_value, .ref h_now, x_draft, x_tried, x_past, .int v_acts, .ref h_images, .ref h_kept, x_trace, .int v_traced, x_comes, x_standing, x_brought, x_habit, .int v_livedMany])), (h_now, .inl (cy 0, 124, .inl v_now)), (h_kept, .inl (cy 2, 2, .inl w_kept)), (h_images, .inl (cy 0, 248, .inl w_images))] → va_S A s.heap H locs → lv_has ls 3 [(0, .ref h_this), (1, .int l1), (2, .int l2)] → wlX12_image_24 v_now post n_24 l1 l2 w_kept w_images → W p l e rmX12_image s m args below meth c H locs 0 0 Q (F0 m 24 ls []) := by
    intro n_24
    induction n_24 with
    | zero =>
      intro l1 l2 w_kept w_images H locs ls  hP hD hS hl hF
      simp only [wlX12_image_24] at hF
    | succ n_24 ih_24 =>
      intro l1 l2 w_kept w_images H locs ls  hP hD hS hl hF
      unfold wlX12_image_24 at hF
      refine lv_iload_n hx hb dX12_image_24 rfl (lv_at hl 2 rfl) ?_
      refine lv_bipush (v := 124) hx hb dX12_image_25 (by decide) ?_
      refine lv_icmp_ge (tgt := 53) hx hb dX12_image_27 (by decide) (fun c_ => ?_) (fun c_ => ?_)
      · have hF := hF.1 c_
        refine lv_aload_n hx hb dX12_image_53 rfl (lv_at hl 0 rfl) ?_
        refine va_get (D := D) (ci := 11) (v := .ref h_kept) (C := RX12) (T := TX12) (N := 27) hx hb hts inTX12 hown hK.1 hP 0 rfl rfl 19 (by decide) (hts _ t4_143) (fun _ h9 => h9) rfl dX12_image_54 ?_
        refine lv_iload_n hx hb dX12_image_57 rfl (lv_at hl 1 rfl) ?_
        refine lv_iconst (v := 1) hx hb dX12_image_58 (by decide) ?_
        obtain ⟨hi1, hF⟩ := hF
        refine s_zast (j := (l1).toNatClampNeg) hx hb hK.1 hP hD hS 2 2 rfl rfl hi1 rfl dX12_image_59 (fun H locs hP hD hS => ?_)
        have hP : va_P D CL [(h_this, .inr (11, [x_lane, x_many, x_items, x_spare, .int v_status, x_tape, .int v_taped, .int v_faultKind, .int v_faultPlace, .int v_at, .int v_start, .int v_token, .int v_value, .ref h_now, x_draft, x_tried, x_past, .int v_acts, .ref h_images, .ref h_kept, x_trace, .int v_traced, x_comes, x_standing, x_brought, x_habit, .int v_livedMany])), (h_now, .inl (cy 0, 124, .inl v_now)), (h_kept, .inl (cy 2, 2, .inl (upd w_kept ((l1).toNatClampNeg) (vp_nar .boolean 1)))), (h_images, .inl (cy 0, 248, .inl w_images))] H := hP
        have hD : va_D A [(h_this, .inr (11, [x_lane, x_many, x_items, x_spare, .int v_status, x_tape, .int v_taped, .int v_faultKind, .int v_faultPlace, .int v_at, .int v_start, .int v_token, .int v_value, .ref h_now, x_draft, x_tried, x_past, .int v_acts, .ref h_images, .ref h_kept, x_trace, .int v_traced, x_comes, x_standing, x_brought, x_habit, .int v_livedMany])), (h_now, .inl (cy 0, 124, .inl v_now)), (h_kept, .inl (cy 2, 2, .inl (upd w_kept ((l1).toNatClampNeg) (vp_nar .boolean 1)))), (h_images, .inl (cy 0, 248, .inl w_images))] := hD
        refine lv_iconst (v := 1) hx hb dX12_image_60 (by decide) ?_
        exact rt_i C hQ rfl hP hD hS ⟨(upd w_kept ((l1).toNatClampNeg) (vp_nar .boolean 1)), w_images, rfl, hF⟩ dX12_image_61
      · have hF := hF.2 c_
        refine lv_aload_n hx hb dX12_image_30 rfl (lv_at hl 0 rfl) ?_
        refine va_get (D := D) (ci := 11) (v := .ref h_images) (C := RX12) (T := TX12) (N := 27) hx hb hts inTX12 hown hK.1 hP 0 rfl rfl 18 (by decide) (hts _ t4_142) (fun _ h9 => h9) rfl dX12_image_31 ?_
        refine lv_bipush (v := 124) hx hb dX12_image_34 (by decide) ?_
        refine lv_iload_n hx hb dX12_image_36 rfl (lv_at hl 1 rfl) ?_
        refine lv_imul hx hb dX12_image_37 ?_
        refine lv_iload_n hx hb dX12_image_38 rfl (lv_at hl 2 rfl) ?_
        refine lv_iadd hx hb dX12_image_39 ?_
        refine lv_aload_n hx hb dX12_image_40 rfl (lv_at hl 0 rfl) ?_
        refine va_get (D := D) (ci := 11) (v := .ref h_now) (C := RX12) (T := TX12) (N := 27) hx hb hts inTX12 hown hK.1 hP 0 rfl rfl 13 (by decide) (hts _ t4_137) (fun _ h9 => h9) rfl dX12_image_41 ?_
        refine lv_iload_n hx hb dX12_image_44 rfl (lv_at hl 2 rfl) ?_
        obtain ⟨hi2, hF⟩ := hF
        refine s_iald (j := (l2).toNatClampNeg) hx hb hK.1 hP 1 0 rfl rfl hi2 rfl dX12_image_45 ?_
        obtain ⟨hi3, hF⟩ := hF
        refine s_iast (j := (((124 * l1) + l2)).toNatClampNeg) hx hb hK.1 hP hD hS 3 0 rfl rfl hi3 rfl dX12_image_46 (fun H locs hP hD hS => ?_)
        have hP : va_P D CL [(h_this, .inr (11, [x_lane, x_many, x_items, x_spare, .int v_status, x_tape, .int v_taped, .int v_faultKind, .int v_faultPlace, .int v_at, .int v_start, .int v_token, .int v_value, .ref h_now, x_draft, x_tried, x_past, .int v_acts, .ref h_images, .ref h_kept, x_trace, .int v_traced, x_comes, x_standing, x_brought, x_habit, .int v_livedMany])), (h_now, .inl (cy 0, 124, .inl v_now)), (h_kept, .inl (cy 2, 2, .inl w_kept)), (h_images, .inl (cy 0, 248, .inl (upd w_images ((((124 * l1) + l2)).toNatClampNeg) (v_now ((l2).toNatClampNeg)))))] H := hP
        have hD : va_D A [(h_this, .inr (11, [x_lane, x_many, x_items, x_spare, .int v_status, x_tape, .int v_taped, .int v_faultKind, .int v_faultPlace, .int v_at, .int v_start, .int v_token, .int v_value, .ref h_now, x_draft, x_tried, x_past, .int v_acts, .ref h_images, .ref h_kept, x_trace, .int v_traced, x_comes, x_standing, x_brought, x_habit, .int v_livedMany])), (h_now, .inl (cy 0, 124, .inl v_now)), (h_kept, .inl (cy 2, 2, .inl w_kept)), (h_images, .inl (cy 0, 248, .inl (upd w_images ((((124 * l1) + l2)).toNatClampNeg) (v_now ((l2).toNatClampNeg)))))] := hD
        refine lv_iinc (v := (l2 + 1)) (lv' := [(2, .int (l2 + 1)), (0, .ref h_this), (1, .int l1)]) hx hb dX12_image_47 hl (k := 2) rfl rfl (by decide) rfl (fun ls hl => ?_)
        refine lv_goto (tgt := 24) hx hb dX12_image_50 (by decide) ?_
        exact ih_24 l1 (l2 + 1) w_kept (upd w_images ((((124 * l1) + l2)).toNatClampNeg) (v_now ((l2).toNatClampNeg))) _ _ ls  hP hD hS (lv_sub hl [1, 2, 0] rfl) hF
  unfold wpX12_image at hF
  refine lv_iload_n hx hb dX12_image_0 rfl (lv_at hl 1 rfl) ?_
  refine lv_iconst (v := 0) hx hb dX12_image_1 (by decide) ?_
  refine lv_iconst (v := 1) hx hb dX12_image_2 (by decide) ?_
  refine cS_r (As := [.int p0, .int 0, .int 1]) C mfX12_in t4_215 t4_214 (ccX12_in l D cy p0 0 1 _ hF) rfl rfl (hP.sub [] rfl) PR.np rfl hl.1 rfl (Nat.le_of_ble_eq_true rfl) dX12_image_3 ⟨Nat.le_of_ble_eq_true rfl, Nat.le_of_ble_eq_true rfl⟩ ⟨Nat.le_of_ble_eq_true rfl, Nat.le_of_ble_eq_true rfl⟩ ?_
  intro r1 hF
  refine W.eq (g2 := F0 m 6 ls [.int (bz r1)]) rfl ?_
  refine lv_if_ne (tgt := 12) hx hb dX12_image_6 (by decide) (fun c_ => ?_) (fun c_ => ?_)
  · have hF := hF.1 ((bz_1 _).mp c_)
    refine lv_aload_n hx hb dX12_image_12 rfl (lv_at hl 0 rfl) ?_
    refine cV_r (As := []) C mfX12_isVillage t5_62 ts_24 t5_60 (ccX12_isVillage l D cy h_this h_now x_lane x_many x_items x_spare x_tape x_draft x_tried x_past (.ref h_images) (.ref h_kept) x_trace x_comes x_standing x_brought x_habit v_status v_taped v_faultKind v_faultPlace v_at v_start v_token v_value v_acts v_traced v_livedMany v_now _ hF) rfl rfl (hP.sub [0, 1] rfl) PR.np hP 0 11 rfl rfl rfl rfl hl.1 rfl (Nat.le_of_ble_eq_true rfl) dX12_image_13 ⟨Nat.le_of_ble_eq_true rfl, Nat.le_of_ble_eq_true rfl⟩ ⟨Nat.le_of_ble_eq_true rfl, Nat.le_of_ble_eq_true rfl⟩ ?_
    intro r2 hF
    refine W.eq (g2 := F0 m 16 ls [.int (bz r2)]) rfl ?_
    refine lv_if_ne (tgt := 22) hx hb dX12_image_16 (by decide) (fun c_ => ?_) (fun c_ => ?_)
    · have hF := hF.1 ((bz_1 _).mp c_)
      refine lv_iconst (v := 0) hx hb dX12_image_22 (by decide) ?_
      refine lv_istore_n (lv' := [(2, .int 0), (0, .ref h_this), (1, .int p0)]) hx hb dX12_image_23 rfl hl (by decide) rfl (fun ls hl => ?_)
      exact L_24 fu p0 0 v_kept v_images _ _ ls  hP hD hS (lv_sub hl [1, 2, 0] rfl) hF
    · have hF := hF.2 ((bz_0 _).mp c_)
      refine lv_ldc hx hb hown (hts _ t5_55) dX12_image_19 ?_
      exact rt_i C hQ rfl hP hD hS ⟨v_kept, v_images, rfl, hF⟩ dX12_image_21
  · have hF := hF.2 ((bz_0 _).mp c_)
    refine lv_ldc hx hb hown (hts _ t4_217) dX12_image_9 ?_
    exact rt_i C hQ rfl hP hD hS ⟨v_kept, v_images, rfl, hF⟩ dX12_image_11

def wlX12_restore_26 (v_kept : Nat → Int32) (v_images : Nat → Int32) (post : Int32 → Int32 → (Nat → Int32) → Prop) : Nat → Int32 → Int32 → Int32 → (Nat → Int32) → Prop
  | 0, _, _, _, _ => False
  | n + 1, l1, l2, w_acts, w_now => (124 ≤ l2 → (post 1 0 w_now)) ∧ (¬ 124 ≤ l2 → (vp_in ((124 * l1) + l2) 248 ∧ (vp_in l2 124 ∧ ((wlX12_restore_26 v_kept v_images post n) l1 (l2 + 1) w_acts (upd w_now ((l2).toNatClampNeg) (v_images ((((124 * l1) + l2)).toNatClampNeg)))))))
def wpX12_restore (p0 : Int32) (v_acts : Int32) (v_kept : Nat → Int32) (v_now : Nat → Int32) (v_images : Nat → Int32) (post : Int32 → Int32 → (Nat → Int32) → Prop) : Prop := wpX12_in p0 0 1 (fun r1 => (r1 = true → (vp_in p0 2 ∧ ((¬ (v_kept ((p0).toNatClampNeg)) = 0 → (wlX12_restore_26 v_kept v_images post fu p0 0 v_acts v_now)) ∧ ((v_kept ((p0).toNatClampNeg)) = 0 → (post (-1000002) v_acts v_now))))) ∧ (r1 = false → (post (-1000001) v_acts v_now)))
abbrev miX12_restore : MI := (yX12_restore, cX12_restore, 3, (some .int))
theorem mfX12_restore : MF miX12_restore 1 := ⟨t5_206, t1_8, by decide +kernel⟩
abbrev rmX12_restore : Room := { frames := 1, cells := 0, slots := 0, locals := 22 }
set_option maxHeartbeats 4000000 in
set_option maxRecDepth 100000 in
theorem ccX12_restore (l : Launch) (D : va_G) (cy : Nat → ClassId) (h_this : Nat) (h_kept : Nat) (h_now : Nat) (h_images : Nat) (x_lane : Value) (x_many : Value) (x_items : Value) (x_spare : Value) (x_tape : Value) (x_draft : Value) (x_tried : Value) (x_past : Value) (x_trace : Value) (x_comes : Value) (x_standing : Value) (x_brought : Value) (x_habit : Value) (v_status : Int32) (v_taped : Int32) (v_faultKind : Int32) (v_faultPlace : Int32) (v_at : Int32) (v_start : Int32) (v_token : Int32) (v_value : Int32) (v_acts : Int32) (v_traced : Int32) (v_livedMany : Int32) (v_kept : Nat → Int32) (v_now : Nat → Int32) (v_images : Nat → Int32) (p0 : Int32) (post : Int32 → Int32 → (Nat → Int32) → Prop) (hF : wpX12_restore p0 v_acts v_kept v_now v_images post) : Ct l D cy miX12_restore rmX12_restore emI NP [.ref h_this, .int p0] [(h_this, .inr (11, [x_lane, x_many, x_items, x_spare, .int v_status, x_tape, .int v_taped, .int v_faultKind, .int v_faultPlace, .int v_at, .int v_start, .int v_token, .int v_value, .ref h_now, x_draft, x_tried, x_past, .int v_acts, .ref h_images, .ref h_kept, x_trace, .int v_traced, x_comes, x_standing, x_brought, x_habit, .int v_livedMany])), (h_kept, .inl (cy 2, 2, .inl v_kept)), (h_now, .inl (cy 0, 124, .inl v_now)), (h_images, .inl (cy 0, 248, .inl v_images))] (fun r w1 => ∃ (w_acts : Int32) (w_now : Nat → Int32), w1 = [(h_this, .inr (11, [x_lane, x_many, x_items, x_spare, .int v_status, x_tape, .int v_taped, .int v_faultKind, .int v_faultPlace, .int v_at, .int v_start, .int v_token, .int v_value, .ref h_now, x_draft, x_tried, x_past, .int w_acts, .ref h_images, .ref h_kept, x_trace, .int v_traced, x_comes, x_standing, x_brought, x_habit, .int v_livedMany])), (h_kept, .inl (cy 2, 2, .inl v_kept)), (h_now, .inl (cy 0, 124, .inl w_now)), (h_images, .inl (cy 0, 248, .inl v_images))] ∧ post r w_acts w_now) := by
  refine Ct.of (by decide) (Nat.le_of_ble_eq_true rfl) ?_
  intro p e s m args below meth c A ls Q C hQ hA hI hP hD hS hl
  obtain ⟨hx, hb, hr, hml, hown, hts, hK, hlk, hnm⟩ := id C
  have hb : c.code = cX12_restore := hb
  have hml : c.maxLocals = 3 := hml
  have hown : s.vm.findClass RX12 = some m.cls := hown
  have hl : lv_has ls 3 [(0, .ref h_this), (1, .int p0)] := hl
  have L_26 : ∀ (n_26 : Nat) (l1 : Int32) (l2 : Int32) (w_acts : Int32) (w_now : Nat → Int32) (H : Heap) (locs : List Loc) (ls : Array Slot), va_P D CL [(h_this, .inr (11, [x_lane, x_many, x_items, x_spare, .int v_status, x_tape, .int v_taped, .int v_faultKind, .int v_faultPlace, .int v_at, .int v_start, .int v_token, .int v_value, .ref h_now, x_draft, x_tried, x_past, .int w_acts, .ref h_images, .ref h_kept, x_trace, .int v_traced, x_comes, x_standing, x_brought, x_habit, .int v_livedMany])), (h_kept, .inl (cy 2, 2, .inl v_kept)), (h_now, .inl (cy 0, 124, .inl w_now)), (h_images, .inl (cy 0, 248, .inl v_images))] H → va_D A [(h_this, .inr (11, [x_lane, x_many, x_items, x_spare, .int v_status, x_tape, .int v_taped, .int v_faultKind, .int v_faultPlace, .int v_at, .int v_start, .int v_token, .int v_value, .ref h_now, x_draft, x_tried, x_past, .int w_acts, .ref h_images, .ref h_kept, x_trace, .int v_traced, x_comes, x_standing, x_brought, x_habit, .int v_livedMany])), (h_kept, .inl (cy 2, 2, .inl v_kept)), (h_now, .inl (cy 0, 124, .inl w_now)), (h_images, .inl (cy 0, 248, .inl v_images))] → va_S A s.heap H locs → lv_has ls 3 [(0, .ref h_this), (1, .int l1), (2, .int l2)] → wlX12_restore_26 v_kept v_images post n_26 l1 l2 w_acts w_now → W p l e rmX12_restore s m args below meth c H locs 0 0 Q (F0 m 26 ls []) := by
    intro n_26
    induction n_26 with
    | zero =>
      intro l1 l2 w_acts w_now H locs ls  hP hD hS hl hF
      simp only [wlX12_restore_26] at hF
    | succ n_26 ih_26 =>
      intro l1 l2 w_acts w_now H locs ls  hP hD hS hl hF
      unfold wlX12_restore_26 at hF
      refine lv_iload_n hx hb dX12_restore_26 rfl (lv_at hl 2 rfl) ?_
      refine lv_bipush (v := 124) hx hb dX12_restore_27 (by decide) ?_
      refine lv_icmp_ge (tgt := 55) hx hb dX12_restore_29 (by decide) (fun c_ => ?_) (fun c_ => ?_)
      · have hF := hF.1 c_
        refine lv_aload_n hx hb dX12_restore_55 rfl (lv_at hl 0 rfl) ?_
        refine lv_iconst (v := 0) hx hb dX12_restore_56 (by decide) ?_
        refine va_put (D := D) (ci := 11) (v := .int 0) (ty := .int) (C := RX12) (T := TX12) (N := 27) hx hb hts inTX12 tyX12 tyX12_ok nmX12 hown hK.1 hP hD hS 0 rfl rfl 17 (by decide) (hts _ t4_141) (fun _ h9 => h9) rfl (tyX12_ok 17 (by decide)) rfl rfl (Nat.le_of_ble_eq_true rfl) dX12_restore_57 (fun H locs hP hD hS => ?_)
        have hP : va_P D CL [(h_this, .inr (11, [x_lane, x_many, x_items, x_spare, .int v_status, x_tape, .int v_taped, .int v_faultKind, .int v_faultPlace, .int v_at, .int v_start, .int v_token, .int v_value, .ref h_now, x_draft, x_tried, x_past, .int 0, .ref h_images, .ref h_kept, x_trace, .int v_traced, x_comes, x_standing, x_brought, x_habit, .int v_livedMany])), (h_kept, .inl (cy 2, 2, .inl v_kept)), (h_now, .inl (cy 0, 124, .inl w_now)), (h_images, .inl (cy 0, 248, .inl v_images))] H := hP
        have hD : va_D A [(h_this, .inr (11, [x_lane, x_many, x_items, x_spare, .int v_status, x_tape, .int v_taped, .int v_faultKind, .int v_faultPlace, .int v_at, .int v_start, .int v_token, .int v_value, .ref h_now, x_draft, x_tried, x_past, .int 0, .ref h_images, .ref h_kept, x_trace, .int v_traced, x_comes, x_standing, x_brought, x_habit, .int v_livedMany])), (h_kept, .inl (cy 2, 2, .inl v_kept)), (h_now, .inl (cy 0, 124, .inl w_now)), (h_images, .inl (cy 0, 248, .inl v_images))] := hD
        refine lv_iconst (v := 1) hx hb dX12_restore_60 (by decide) ?_
        exact rt_i C hQ rfl hP hD hS ⟨0, w_now, rfl, hF⟩ dX12_restore_61
      · have hF := hF.2 c_
        refine lv_aload_n hx hb dX12_restore_32 rfl (lv_at hl 0 rfl) ?_
        refine va_get (D := D) (ci := 11) (v := .ref h_now) (C := RX12) (T := TX12) (N := 27) hx hb hts inTX12 hown hK.1 hP 0 rfl rfl 13 (by decide) (hts _ t4_137) (fun _ h9 => h9) rfl dX12_restore_33 ?_
        refine lv_iload_n hx hb dX12_restore_36 rfl (lv_at hl 2 rfl) ?_
        refine lv_aload_n hx hb dX12_restore_37 rfl (lv_at hl 0 rfl) ?_
        refine va_get (D := D) (ci := 11) (v := .ref h_images) (C := RX12) (T := TX12) (N := 27) hx hb hts inTX12 hown hK.1 hP 0 rfl rfl 18 (by decide) (hts _ t4_142) (fun _ h9 => h9) rfl dX12_restore_38 ?_
        refine lv_bipush (v := 124) hx hb dX12_restore_41 (by decide) ?_
        refine lv_iload_n hx hb dX12_restore_43 rfl (lv_at hl 1 rfl) ?_
        refine lv_imul hx hb dX12_restore_44 ?_
        refine lv_iload_n hx hb dX12_restore_45 rfl (lv_at hl 2 rfl) ?_
        refine lv_iadd hx hb dX12_restore_46 ?_
        obtain ⟨hi1, hF⟩ := hF
        refine s_iald (j := (((124 * l1) + l2)).toNatClampNeg) hx hb hK.1 hP 3 0 rfl rfl hi1 rfl dX12_restore_47 ?_
        obtain ⟨hi2, hF⟩ := hF
        refine s_iast (j := (l2).toNatClampNeg) hx hb hK.1 hP hD hS 2 0 rfl rfl hi2 rfl dX12_restore_48 (fun H locs hP hD hS => ?_)
        have hP : va_P D CL [(h_this, .inr (11, [x_lane, x_many, x_items, x_spare, .int v_status, x_tape, .int v_taped, .int v_faultKind, .int v_faultPlace, .int v_at, .int v_start, .int v_token, .int v_value, .ref h_now, x_draft, x_tried, x_past, .int w_acts, .ref h_images, .ref h_kept, x_trace, .int v_traced, x_comes, x_standing, x_brought, x_habit, .int v_livedMany])), (h_kept, .inl (cy 2, 2, .inl v_kept)), (h_now, .inl (cy 0, 124, .inl (upd w_now ((l2).toNatClampNeg) (v_images ((((124 * l1) + l2)).toNatClampNeg))))), (h_images, .inl (cy 0, 248, .inl v_images))] H := hP
        have hD : va_D A [(h_this, .inr (11, [x_lane, x_many, x_items, x_spare, .int v_status, x_tape, .int v_taped, .int v_faultKind, .int v_faultPlace, .int v_at, .int v_start, .int v_token, .int v_value, .ref h_now, x_draft, x_tried, x_past, .int w_acts, .ref h_images, .ref h_kept, x_trace, .int v_traced, x_comes, x_standing, x_brought, x_habit, .int v_livedMany])), (h_kept, .inl (cy 2, 2, .inl v_kept)), (h_now, .inl (cy 0, 124, .inl (upd w_now ((l2).toNatClampNeg) (v_images ((((124 * l1) + l2)).toNatClampNeg))))), (h_images, .inl (cy 0, 248, .inl v_images))] := hD
        refine lv_iinc (v := (l2 + 1)) (lv' := [(2, .int (l2 + 1)), (0, .ref h_this), (1, .int l1)]) hx hb dX12_restore_49 hl (k := 2) rfl rfl (by decide) rfl (fun ls hl => ?_)
        refine lv_goto (tgt := 26) hx hb dX12_restore_52 (by decide) ?_
        exact ih_26 l1 (l2 + 1) w_acts (upd w_now ((l2).toNatClampNeg) (v_images ((((124 * l1) + l2)).toNatClampNeg))) _ _ ls  hP hD hS (lv_sub hl [1, 2, 0] rfl) hF
  unfold wpX12_restore at hF
  refine lv_iload_n hx hb dX12_restore_0 rfl (lv_at hl 1 rfl) ?_
  refine lv_iconst (v := 0) hx hb dX12_restore_1 (by decide) ?_
  refine lv_iconst (v := 1) hx hb dX12_restore_2 (by decide) ?_
  refine cS_r (As := [.int p0, .int 0, .int 1]) C mfX12_in t4_215 t4_214 (ccX12_in l D cy p0 0 1 _ hF) rfl rfl (hP.sub [] rfl) PR.np rfl hl.1 rfl (Nat.le_of_ble_eq_true rfl) dX12_restore_3 ⟨Nat.le_of_ble_eq_true rfl, Nat.le_of_ble_eq_true rfl⟩ ⟨Nat.le_of_ble_eq_true rfl, Nat.le_of_ble_eq_true rfl⟩ ?_
  intro r1 hF
  refine W.eq (g2 := F0 m 6 ls [.int (bz r1)]) rfl ?_
  refine lv_if_ne (tgt := 12) hx hb dX12_restore_6 (by decide) (fun c_ => ?_) (fun c_ => ?_)
  · have hF := hF.1 ((bz_1 _).mp c_)
    refine lv_aload_n hx hb dX12_restore_12 rfl (lv_at hl 0 rfl) ?_
    refine va_get (D := D) (ci := 11) (v := .ref h_kept) (C := RX12) (T := TX12) (N := 27) hx hb hts inTX12 hown hK.1 hP 0 rfl rfl 19 (by decide) (hts _ t4_143) (fun _ h9 => h9) rfl dX12_restore_13 ?_
    refine lv_iload_n hx hb dX12_restore_16 rfl (lv_at hl 1 rfl) ?_
    obtain ⟨hi2, hF⟩ := hF
    refine s_zald (j := (p0).toNatClampNeg) hx hb hK.1 hP 1 2 rfl rfl hi2 rfl dX12_restore_17 ?_
    refine lv_if_ne (tgt := 24) hx hb dX12_restore_18 (by decide) (fun c_ => ?_) (fun c_ => ?_)
    · have hF := hF.1 c_
      refine lv_iconst (v := 0) hx hb dX12_restore_24 (by decide) ?_
      refine lv_istore_n (lv' := [(2, .int 0), (0, .ref h_this), (1, .int p0)]) hx hb dX12_restore_25 rfl hl (by decide) rfl (fun ls hl => ?_)
      exact L_26 fu p0 0 v_acts v_now _ _ ls  hP hD hS (lv_sub hl [1, 2, 0] rfl) hF
    · have hF := hF.2 c_
      refine lv_ldc hx hb hown (hts _ t5_55) dX12_restore_21 ?_
      exact rt_i C hQ rfl hP hD hS ⟨v_acts, v_now, rfl, hF⟩ dX12_restore_23
  · have hF := hF.2 ((bz_0 _).mp c_)
    refine lv_ldc hx hb hown (hts _ t4_217) dX12_restore_9 ?_
    exact rt_i C hQ rfl hP hD hS ⟨v_acts, v_now, rfl, hF⟩ dX12_restore_11

def wpX12_kind (p0 : Int32) (v_now : Nat → Int32) (post : Int32 → Prop) : Prop := wpX12_isPerson p0 v_now (fun r1 => (r1 = false → (post (-1000001))) ∧ (r1 = true → (wpX12_kindIn p0 v_now (fun r2 => post r2))))
abbrev miX12_kind : MI := (yX12_kind, cX12_kind, 2, (some .int))
theorem mfX12_kind : MF miX12_kind 1 := ⟨t5_210, t1_8, by decide +kernel⟩
abbrev rmX12_kind : Room := { frames := 2, cells := 0, slots := 0, locals := 43 }
set_option maxHeartbeats 4000000 in
set_option maxRecDepth 100000 in
theorem ccX12_kind (l : Launch) (D : va_G) (cy : Nat → ClassId) (h_this : Nat) (h_now : Nat) (x_lane : Value) (x_many : Value) (x_items : Value) (x_spare : Value) (x_tape : Value) (x_draft : Value) (x_tried : Value) (x_past : Value) (x_images : Value) (x_kept : Value) (x_trace : Value) (x_comes : Value) (x_standing : Value) (x_brought : Value) (x_habit : Value) (v_status : Int32) (v_taped : Int32) (v_faultKind : Int32) (v_faultPlace : Int32) (v_at : Int32) (v_start : Int32) (v_token : Int32) (v_value : Int32) (v_acts : Int32) (v_traced : Int32) (v_livedMany : Int32) (v_now : Nat → Int32) (p0 : Int32) (post : Int32 → Prop) (hF : wpX12_kind p0 v_now post) : Cr l D cy miX12_kind rmX12_kind emI NP [.ref h_this, .int p0] [(h_this, .inr (11, [x_lane, x_many, x_items, x_spare, .int v_status, x_tape, .int v_taped, .int v_faultKind, .int v_faultPlace, .int v_at, .int v_start, .int v_token, .int v_value, .ref h_now, x_draft, x_tried, x_past, .int v_acts, x_images, x_kept, x_trace, .int v_traced, x_comes, x_standing, x_brought, x_habit, .int v_livedMany])), (h_now, .inl (cy 0, 124, .inl v_now))] post := by
  refine Cr.of (by decide) (Nat.le_of_ble_eq_true rfl) ?_
  intro p e s m args below meth c ls Q C hQ hO hP hl
  obtain ⟨hx, hb, hr, hml, hown, hts, hK, hlk, hnm⟩ := id C
  have hb : c.code = cX12_kind := hb
  have hml : c.maxLocals = 2 := hml
  have hown : s.vm.findClass RX12 = some m.cls := hown
  have hl : lv_has ls 2 [(0, .ref h_this), (1, .int p0)] := hl
  unfold wpX12_kind at hF
  refine lv_aload_n hx hb dX12_kind_0 rfl (lv_at hl 0 rfl) ?_
  refine lv_iload_n hx hb dX12_kind_1 rfl (lv_at hl 1 rfl) ?_
  refine cV_r (As := [.int p0]) C mfX12_isPerson t5_90 ts_26 t5_88 (ccX12_isPerson l D cy h_this h_now x_lane x_many x_items x_spare x_tape x_draft x_tried x_past x_images x_kept x_trace x_comes x_standing x_brought x_habit v_status v_taped v_faultKind v_faultPlace v_at v_start v_token v_value v_acts v_traced v_livedMany v_now p0 _ hF) rfl rfl (hP.sub [0, 1] rfl) PR.np hP 0 11 rfl rfl rfl rfl hl.1 rfl (Nat.le_of_ble_eq_true rfl) dX12_kind_2 ⟨Nat.le_of_ble_eq_true rfl, Nat.le_of_ble_eq_true rfl⟩ ⟨Nat.le_of_ble_eq_true rfl, Nat.le_of_ble_eq_true rfl⟩ ?_
  intro r1 hF
  refine W.eq (g2 := F0 m 5 ls [.int (bz r1)]) rfl ?_
  refine lv_if_eq (tgt := 19) hx hb dX12_kind_5 (by decide) (fun c_ => ?_) (fun c_ => ?_)
  · have hF := hF.1 ((bz_0 _).mp c_)
    refine lv_ldc hx hb hown (hts _ t4_217) dX12_kind_19 ?_
    exact rr_i C hQ rfl hF dX12_kind_21
  · have hF := hF.2 ((bz_1 _).mp c_)
    refine lv_aload_n hx hb dX12_kind_8 rfl (lv_at hl 0 rfl) ?_
    refine va_get (D := D) (ci := 11) (v := .ref h_now) (C := RX12) (T := TX12) (N := 27) hx hb hts inTX12 hown hK.1 hP 0 rfl rfl 13 (by decide) (hts _ t4_137) (fun _ h9 => h9) rfl dX12_kind_9 ?_
    refine lv_iload_n hx hb dX12_kind_12 rfl (lv_at hl 1 rfl) ?_
    refine cS_r (As := [.ref h_now, .int p0]) C mfX12_kindIn t5_82 t5_81 (ccX12_kindIn l D cy h_now v_now p0 _ hF) rfl rfl (hP.sub [1] rfl) PR.np rfl hl.1 rfl (Nat.le_of_ble_eq_true rfl) dX12_kind_13 ⟨Nat.le_of_ble_eq_true rfl, Nat.le_of_ble_eq_true rfl⟩ ⟨Nat.le_of_ble_eq_true rfl, Nat.le_of_ble_eq_true rfl⟩ ?_
    intro r2 hF
    refine W.eq (g2 := F0 m 16 ls [.int r2]) rfl ?_
    refine lv_goto (tgt := 21) hx hb dX12_kind_16 (by decide) ?_
    exact rr_i C hQ rfl hF dX12_kind_21

def wjX12_as_63 (v_now : Nat → Int32) (post : Int32 → Int32 → Prop) (l1 : Int32) (k0 : Bool) (w_status : Int32) : Prop := (k0 = false → (wpX12_found 3 w_status (fun r1 u2_status => post r1 u2_status))) ∧ (k0 = true → (wpX12_well l1 w_status (fun r3 u4_status => post r3 u4_status)))
def wjX12_as_62 (v_now : Nat → Int32) (post : Int32 → Int32 → Prop) (l1 : Int32) (w_status : Int32) : Prop := wjX12_as_63 v_now post l1 false w_status
def wjX12_as_58 (v_now : Nat → Int32) (post : Int32 → Int32 → Prop) (l1 : Int32) (w_status : Int32) : Prop := wjX12_as_63 v_now post l1 true w_status
def wjX12_as_48 (v_now : Nat → Int32) (post : Int32 → Int32 → Prop) (l1 : Int32) (l2 : Int32) (l3 : Int32) (w_status : Int32) : Prop := (¬ l2 = 4 → (wjX12_as_62 v_now post l1 w_status)) ∧ (l2 = 4 → ((¬ l3 = 5 → (wjX12_as_62 v_now post l1 w_status)) ∧ (l3 = 5 → (wjX12_as_58 v_now post l1 w_status))))
def wpX12_as (p0 : Int32) (p1 : Int32) (v_status : Int32) (v_now : Nat → Int32) (post : Int32 → Int32 → Prop) : Prop := wpX12_isPerson p0 v_now (fun r1 => (r1 = false → (post (-1000001) v_status)) ∧ (r1 = true → (wpX12_in p1 0 5 (fun r2 => (r2 = true → (wpX12_kindIn p0 v_now (fun r3 => (p1 = 0 → (wjX12_as_58 v_now post p0 v_status)) ∧ (¬ p1 = 0 → ((p1 = r3 → (wjX12_as_58 v_now post p0 v_status)) ∧ (¬ p1 = r3 → ((¬ p1 = 1 → (wjX12_as_48 v_now post p0 p1 r3 v_status)) ∧ (p1 = 1 → ((r3 < 4 → (wjX12_as_58 v_now post p0 v_status)) ∧ (¬ r3 < 4 → (wjX12_as_48 v_now post p0 p1 r3 v_status))))))))))) ∧ (r2 = false → (post (-1000001) v_status))))))
abbrev miX12_as : MI := (yX12_as, cX12_as, 5, (some .int))
theorem mfX12_as : MF miX12_as 2 := ⟨t5_214, t1_8, by decide +kernel⟩
abbrev rmX12_as : Room := { frames := 2, cells := 0, slots := 0, locals := 43 }
set_option maxHeartbeats 4000000 in
set_option maxRecDepth 100000 in
theorem ccX12_as (l : Launch) (D : va_G) (cy : Nat → ClassId) (h_this : Nat) (h_now : Nat) (x_lane : Value) (x_many : Value) (x_items : Value) (x_spare : Value) (x_tape : Value) (x_draft : Value) (x_tried : Value) (x_past : Value) (x_images : Value) (x_kept : Value) (x_trace : Value) (x_comes : Value) (x_standing : Value) (x_brought : Value) (x_habit : Value) (v_status : Int32) (v_taped : Int32) (v_faultKind : Int32) (v_faultPlace : Int32) (v_at : Int32) (v_start : Int32) (v_token : Int32) (v_value : Int32) (v_acts : Int32) (v_traced : Int32) (v_livedMany : Int32) (v_now : Nat → Int32) (p0 : Int32) (p1 : Int32) (post : Int32 → Int32 → Prop) (hF : wpX12_as p0 p1 v_status v_now post) : Ct l D cy miX12_as rmX12_as emI NP [.ref h_this, .int p0, .int p1] [(h_this, .inr (11, [x_lane, x_many, x_items, x_spare, .int v_status, x_tape, .int v_taped, .int v_faultKind, .int v_faultPlace, .int v_at, .int v_start, .int v_token, .int v_value, .ref h_now, x_draft, x_tried, x_past, .int v_acts, x_images, x_kept, x_trace, .int v_traced, x_comes, x_standing, x_brought, x_habit, .int v_livedMany])), (h_now, .inl (cy 0, 124, .inl v_now))] (fun r w1 => ∃ (w_status : Int32), w1 = [(h_this, .inr (11, [x_lane, x_many, x_items, x_spare, .int w_status, x_tape, .int v_taped, .int v_faultKind, .int v_faultPlace, .int v_at, .int v_start, .int v_token, .int v_value, .ref h_now, x_draft, x_tried, x_past, .int v_acts, x_images, x_kept, x_trace, .int v_traced, x_comes, x_standing, x_brought, x_habit, .int v_livedMany])), (h_now, .inl (cy 0, 124, .inl v_now))] ∧ post r w_status) := by
  refine Ct.of (by decide) (Nat.le_of_ble_eq_true rfl) ?_
  intro p e s m args below meth c A ls Q C hQ hA hI hP hD hS hl
  obtain ⟨hx, hb, hr, hml, hown, hts, hK, hlk, hnm⟩ := id C
  have hb : c.code = cX12_as := hb
  have hml : c.maxLocals = 5 := hml
  have hown : s.vm.findClass RX12 = some m.cls := hown
  have hl : lv_has ls 5 [(0, .ref h_this), (1, .int p0), (2, .int p1)] := hl
  have J_63 : ∀ (l1 : Int32) (k0 : Bool) (w_status : Int32) (H : Heap) (locs : List Loc) (ls : Array Slot), va_P D CL [(h_this, .inr (11, [x_lane, x_many, x_items, x_spare, .int w_status, x_tape, .int v_taped, .int v_faultKind, .int v_faultPlace, .int v_at, .int v_start, .int v_token, .int v_value, .ref h_now, x_draft, x_tried, x_past, .int v_acts, x_images, x_kept, x_trace, .int v_traced, x_comes, x_standing, x_brought, x_habit, .int v_livedMany])), (h_now, .inl (cy 0, 124, .inl v_now))] H → va_D A [(h_this, .inr (11, [x_lane, x_many, x_items, x_spare, .int w_status, x_tape, .int v_taped, .int v_faultKind, .int v_faultPlace, .int v_at, .int v_start, .int v_token, .int v_value, .ref h_now, x_draft, x_tried, x_past, .int v_acts, x_images, x_kept, x_trace, .int v_traced, x_comes, x_standing, x_brought, x_habit, .int v_livedMany])), (h_now, .inl (cy 0, 124, .inl v_now))] → va_S A s.heap H locs → lv_has ls 5 [(0, .ref h_this), (1, .int l1)] → wjX12_as_63 v_now post l1 k0 w_status → W p l e rmX12_as s m args below meth c H locs 0 0 Q (F0 m 63 ls [.int (bz k0)]) := by
    intro l1 k0 w_status H locs ls  hP hD hS hl hF
    unfold wjX12_as_63 at hF
    refine lv_istore (lv' := [(4, .int (bz k0)), (0, .ref h_this), (1, .int l1)]) hx hb dX12_as_63 hl (by decide) rfl (fun ls hl => ?_)
    refine lv_iload hx hb dX12_as_65 (lv_at hl 0 rfl) ?_
    refine lv_if_eq (tgt := 78) hx hb dX12_as_67 (by decide) (fun c_ => ?_) (fun c_ => ?_)
    · have hF := hF.1 ((bz_0 _).mp c_)
      refine lv_aload_n hx hb dX12_as_78 rfl (lv_at hl 1 rfl) ?_
      refine lv_iconst (v := 3) hx hb dX12_as_79 (by decide) ?_
      refine cV_t (As := [.int 3]) (wr := [(h_now, .inl (cy 0, 124, .inl v_now))]) C hA hP hD hS mfX12_found t4_220 ts_14 t4_218 (ccX12_found l D cy h_this x_lane x_many x_items x_spare x_tape (.ref h_now) x_draft x_tried x_past x_images x_kept x_trace x_comes x_standing x_brought x_habit w_status v_taped v_faultKind v_faultPlace v_at v_start v_token v_value v_acts v_traced v_livedMany 3 _ hF) [0] [1] rfl rfl (by decide) (by decide) (by decide) PO.np 0 11 rfl rfl rfl rfl hl.1 rfl (Nat.le_of_ble_eq_true rfl) dX12_as_80 ⟨Nat.le_of_ble_eq_true rfl, Nat.le_of_ble_eq_true rfl⟩ ⟨Nat.le_of_ble_eq_true rfl, Nat.le_of_ble_eq_true rfl⟩ ?_
      rintro r1 w1 H locs ⟨u2_status, rfl, hF⟩ hP hD hS
      have hP : va_P D CL [(h_now, .inl (cy 0, 124, .inl v_now)), (h_this, .inr (11, [x_lane, x_many, x_items, x_spare, .int u2_status, x_tape, .int v_taped, .int v_faultKind, .int v_faultPlace, .int v_at, .int v_start, .int v_token, .int v_value, .ref h_now, x_draft, x_tried, x_past, .int v_acts, x_images, x_kept, x_trace, .int v_traced, x_comes, x_standing, x_brought, x_habit, .int v_livedMany]))] H := hP
      have hD : va_D A [(h_now, .inl (cy 0, 124, .inl v_now)), (h_this, .inr (11, [x_lane, x_many, x_items, x_spare, .int u2_status, x_tape, .int v_taped, .int v_faultKind, .int v_faultPlace, .int v_at, .int v_start, .int v_token, .int v_value, .ref h_now, x_draft, x_tried, x_past, .int v_acts, x_images, x_kept, x_trace, .int v_traced, x_comes, x_standing, x_brought, x_habit, .int v_livedMany]))] := hD
      refine W.eq (g2 := F0 m 83 ls [.int r1]) rfl ?_
      have hP : va_P D CL [(h_this, .inr (11, [x_lane, x_many, x_items, x_spare, .int u2_status, x_tape, .int v_taped, .int v_faultKind, .int v_faultPlace, .int v_at, .int v_start, .int v_token, .int v_value, .ref h_now, x_draft, x_tried, x_past, .int v_acts, x_images, x_kept, x_trace, .int v_traced, x_comes, x_standing, x_brought, x_habit, .int v_livedMany])), (h_now, .inl (cy 0, 124, .inl v_now))] H := (hP.sub [1, 0] rfl)
      have hD : va_D A [(h_this, .inr (11, [x_lane, x_many, x_items, x_spare, .int u2_status, x_tape, .int v_taped, .int v_faultKind, .int v_faultPlace, .int v_at, .int v_start, .int v_token, .int v_value, .ref h_now, x_draft, x_tried, x_past, .int v_acts, x_images, x_kept, x_trace, .int v_traced, x_comes, x_standing, x_brought, x_habit, .int v_livedMany])), (h_now, .inl (cy 0, 124, .inl v_now))] := (hD.sub [1, 0] (by decide) rfl)
      exact rt_i C hQ rfl hP hD hS ⟨u2_status, rfl, hF⟩ dX12_as_83
    · have hF := hF.2 ((bz_1 _).mp c_)
      refine lv_aload_n hx hb dX12_as_70 rfl (lv_at hl 1 rfl) ?_
      refine lv_iload_n hx hb dX12_as_71 rfl (lv_at hl 2 rfl) ?_
      refine cV_t (As := [.int l1]) (wr := [(h_now, .inl (cy 0, 124, .inl v_now))]) C hA hP hD hS mfX12_well t4_225 ts_15 t4_223 (ccX12_well l D cy h_this x_lane x_many x_items x_spare x_tape (.ref h_now) x_draft x_tried x_past x_images x_kept x_trace x_comes x_standing x_brought x_habit w_status v_taped v_faultKind v_faultPlace v_at v_start v_token v_value v_acts v_traced v_livedMany l1 _ hF) [0] [1] rfl rfl (by decide) (by decide) (by decide) PO.np 0 11 rfl rfl rfl rfl hl.1 rfl (Nat.le_of_ble_eq_true rfl) dX12_as_72 ⟨Nat.le_of_ble_eq_true rfl, Nat.le_of_ble_eq_true rfl⟩ ⟨Nat.le_of_ble_eq_true rfl, Nat.le_of_ble_eq_true rfl⟩ ?_
      rintro r3 w1 H locs ⟨u4_status, rfl, hF⟩ hP hD hS
      have hP : va_P D CL [(h_now, .inl (cy 0, 124, .inl v_now)), (h_this, .inr (11, [x_lane, x_many, x_items, x_spare, .int u4_status, x_tape, .int v_taped, .int v_faultKind, .int v_faultPlace, .int v_at, .int v_start, .int v_token, .int v_value, .ref h_now, x_draft, x_tried, x_past, .int v_acts, x_images, x_kept, x_trace, .int v_traced, x_comes, x_standing, x_brought, x_habit, .int v_livedMany]))] H := hP
      have hD : va_D A [(h_now, .inl (cy 0, 124, .inl v_now)), (h_this, .inr (11, [x_lane, x_many, x_items, x_spare, .int u4_status, x_tape, .int v_taped, .int v_faultKind, .int v_faultPlace, .int v_at, .int v_start, .int v_token, .int v_value, .ref h_now, x_draft, x_tried, x_past, .int v_acts, x_images, x_kept, x_trace, .int v_traced, x_comes, x_standing, x_brought, x_habit, .int v_livedMany]))] := hD
      refine W.eq (g2 := F0 m 75 ls [.int r3]) rfl ?_
      refine lv_goto (tgt := 83) hx hb dX12_as_75 (by decide) ?_
      have hP : va_P D CL [(h_this, .inr (11, [x_lane, x_many, x_items, x_spare, .int u4_status, x_tape, .int v_taped, .int v_faultKind, .int v_faultPlace, .int v_at, .int v_start, .int v_token, .int v_value, .ref h_now, x_draft, x_tried, x_past, .int v_acts, x_images, x_kept, x_trace, .int v_traced, x_comes, x_standing, x_brought, x_habit, .int v_livedMany])), (h_now, .inl (cy 0, 124, .inl v_now))] H := (hP.sub [1, 0] rfl)
      have hD : va_D A [(h_this, .inr (11, [x_lane, x_many, x_items, x_spare, .int u4_status, x_tape, .int v_taped, .int v_faultKind, .int v_faultPlace, .int v_at, .int v_start, .int v_token, .int v_value, .ref h_now, x_draft, x_tried, x_past, .int v_acts, x_images, x_kept, x_trace, .int v_traced, x_comes, x_standing, x_brought, x_habit, .int v_livedMany])), (h_now, .inl (cy 0, 124, .inl v_now))] := (hD.sub [1, 0] (by decide) rfl)
      exact rt_i C hQ rfl hP hD hS ⟨u4_status, rfl, hF⟩ dX12_as_83
  have J_62 : ∀ (l1 : Int32) (w_status : Int32) (H : Heap) (locs : List Loc) (ls : Array Slot), va_P D CL [(h_this, .inr (11, [x_lane, x_many, x_items, x_spare, .int w_status, x_tape, .int v_taped, .int v_faultKind, .int v_faultPlace, .int v_at, .int v_start, .int v_token, .int v_value, .ref h_now, x_draft, x_tried, x_past, .int v_acts, x_images, x_kept, x_trace, .int v_traced, x_comes, x_standing, x_brought, x_habit, .int v_livedMany])), (h_now, .inl (cy 0, 124, .inl v_now))] H → va_D A [(h_this, .inr (11, [x_lane, x_many, x_items, x_spare, .int w_status, x_tape, .int v_taped, .int v_faultKind, .int v_faultPlace, .int v_at, .int v_start, .int v_token, .int v_value, .ref h_now, x_draft, x_tried, x_past, .int v_acts, x_images, x_kept, x_trace, .int v_traced, x_comes, x_standing, x_brought, x_habit, .int v_livedMany])), (h_now, .inl (cy 0, 124, .inl v_now))] → va_S A s.heap H locs → lv_has ls 5 [(0, .ref h_this), (1, .int l1)] → wjX12_as_62 v_now post l1 w_status → W p l e rmX12_as s m args below meth c H locs 0 0 Q (F0 m 62 ls []) := by
    intro l1 w_status H locs ls  hP hD hS hl hF
    unfold wjX12_as_62 at hF
    refine lv_iconst (v := 0) hx hb dX12_as_62 (by decide) ?_
    exact J_63 l1 false w_status _ _ ls  hP hD hS (lv_sub hl [0, 1] rfl) hF
  have J_58 : ∀ (l1 : Int32) (w_status : Int32) (H : Heap) (locs : List Loc) (ls : Array Slot), va_P D CL [(h_this, .inr (11, [x_lane, x_many, x_items, x_spare, .int w_status, x_tape, .int v_taped, .int v_faultKind, .int v_faultPlace, .int v_at, .int v_start, .int v_token, .int v_value, .ref h_now, x_draft, x_tried, x_past, .int v_acts, x_images, x_kept, x_trace, .int v_traced, x_comes, x_standing, x_brought, x_habit, .int v_livedMany])), (h_now, .inl (cy 0, 124, .inl v_now))] H → va_D A [(h_this, .inr (11, [x_lane, x_many, x_items, x_spare, .int w_status, x_tape, .int v_taped, .int v_faultKind, .int v_faultPlace, .int v_at, .int v_start, .int v_token, .int v_value, .ref h_now, x_draft, x_tried, x_past, .int v_acts, x_images, x_kept, x_trace, .int v_traced, x_comes, x_standing, x_brought, x_habit, .int v_livedMany])), (h_now, .inl (cy 0, 124, .inl v_now))] → va_S A s.heap H locs → lv_has ls 5 [(0, .ref h_this), (1, .int l1)] → wjX12_as_58 v_now post l1 w_status → W p l e rmX12_as s m args below meth c H locs 0 0 Q (F0 m 58 ls []) := by
    intro l1 w_status H locs ls  hP hD hS hl hF
    unfold wjX12_as_58 at hF
    refine lv_iconst (v := 1) hx hb dX12_as_58 (by decide) ?_
    refine lv_goto (tgt := 63) hx hb dX12_as_59 (by decide) ?_
    exact J_63 l1 true w_status _ _ ls  hP hD hS (lv_sub hl [0, 1] rfl) hF
  have J_48 : ∀ (l1 : Int32) (l2 : Int32) (l3 : Int32) (w_status : Int32) (H : Heap) (locs : List Loc) (ls : Array Slot), va_P D CL [(h_this, .inr (11, [x_lane, x_many, x_items, x_spare, .int w_status, x_tape, .int v_taped, .int v_faultKind, .int v_faultPlace, .int v_at, .int v_start, .int v_token, .int v_value, .ref h_now, x_draft, x_tried, x_past, .int v_acts, x_images, x_kept, x_trace, .int v_traced, x_comes, x_standing, x_brought, x_habit, .int v_livedMany])), (h_now, .inl (cy 0, 124, .inl v_now))] H → va_D A [(h_this, .inr (11, [x_lane, x_many, x_items, x_spare, .int w_status, x_tape, .int v_taped, .int v_faultKind, .int v_faultPlace, .int v_at, .int v_start, .int v_token, .int v_value, .ref h_now, x_draft, x_tried, x_past, .int v_acts, x_images, x_kept, x_trace, .int v_traced, x_comes, x_standing, x_brought, x_habit, .int v_livedMany])), (h_now, .inl (cy 0, 124, .inl v_now))] → va_S A s.heap H locs → lv_has ls 5 [(0, .ref h_this), (1, .int l1), (2, .int l2), (3, .int l3)] → wjX12_as_48 v_now post l1 l2 l3 w_status → W p l e rmX12_as s m args below meth c H locs 0 0 Q (F0 m 48 ls []) := by
    intro l1 l2 l3 w_status H locs ls  hP hD hS hl hF
    unfold wjX12_as_48 at hF
    refine lv_iload_n hx hb dX12_as_48 rfl (lv_at hl 2 rfl) ?_
    refine lv_iconst (v := 4) hx hb dX12_as_49 (by decide) ?_
    refine lv_icmp_ne (tgt := 62) hx hb dX12_as_50 (by decide) (fun c_ => ?_) (fun c_ => ?_)
    · have hF := hF.1 c_
      exact J_62 l1 w_status _ _ ls  hP hD hS (lv_sub hl [0, 1] rfl) hF
    · have hF := hF.2 c_
      refine lv_iload_n hx hb dX12_as_53 rfl (lv_at hl 3 rfl) ?_
      refine lv_iconst (v := 5) hx hb dX12_as_54 (by decide) ?_
      refine lv_icmp_ne (tgt := 62) hx hb dX12_as_55 (by decide) (fun c_ => ?_) (fun c_ => ?_)
      · have hF := hF.1 c_
        exact J_62 l1 w_status _ _ ls  hP hD hS (lv_sub hl [0, 1] rfl) hF
      · have hF := hF.2 c_
        exact J_58 l1 w_status _ _ ls  hP hD hS (lv_sub hl [0, 1] rfl) hF
  unfold wpX12_as at hF
  refine lv_aload_n hx hb dX12_as_0 rfl (lv_at hl 0 rfl) ?_
  refine lv_iload_n hx hb dX12_as_1 rfl (lv_at hl 1 rfl) ?_
  refine cV_r (As := [.int p0]) C mfX12_isPerson t5_90 ts_26 t5_88 (ccX12_isPerson l D cy h_this h_now x_lane x_many x_items x_spare x_tape x_draft x_tried x_past x_images x_kept x_trace x_comes x_standing x_brought x_habit v_status v_taped v_faultKind v_faultPlace v_at v_start v_token v_value v_acts v_traced v_livedMany v_now p0 _ hF) rfl rfl (hP.sub [0, 1] rfl) PR.np hP 0 11 rfl rfl rfl rfl hl.1 rfl (Nat.le_of_ble_eq_true rfl) dX12_as_2 ⟨Nat.le_of_ble_eq_true rfl, Nat.le_of_ble_eq_true rfl⟩ ⟨Nat.le_of_ble_eq_true rfl, Nat.le_of_ble_eq_true rfl⟩ ?_
  intro r1 hF
  refine W.eq (g2 := F0 m 5 ls [.int (bz r1)]) rfl ?_
  refine lv_if_eq (tgt := 17) hx hb dX12_as_5 (by decide) (fun c_ => ?_) (fun c_ => ?_)
  · have hF := hF.1 ((bz_0 _).mp c_)
    refine lv_ldc hx hb hown (hts _ t4_217) dX12_as_17 ?_
    exact rt_i C hQ rfl hP hD hS ⟨v_status, rfl, hF⟩ dX12_as_19
  · have hF := hF.2 ((bz_1 _).mp c_)
    refine lv_iload_n hx hb dX12_as_8 rfl (lv_at hl 2 rfl) ?_
    refine lv_iconst (v := 0) hx hb dX12_as_9 (by decide) ?_
    refine lv_iconst (v := 5) hx hb dX12_as_10 (by decide) ?_
    refine cS_r (As := [.int p1, .int 0, .int 5]) C mfX12_in t4_215 t4_214 (ccX12_in l D cy p1 0 5 _ hF) rfl rfl (hP.sub [] rfl) PR.np rfl hl.1 rfl (Nat.le_of_ble_eq_true rfl) dX12_as_11 ⟨Nat.le_of_ble_eq_true rfl, Nat.le_of_ble_eq_true rfl⟩ ⟨Nat.le_of_ble_eq_true rfl, Nat.le_of_ble_eq_true rfl⟩ ?_
    intro r2 hF
    refine W.eq (g2 := F0 m 14 ls [.int (bz r2)]) rfl ?_
    refine lv_if_ne (tgt := 20) hx hb dX12_as_14 (by decide) (fun c_ => ?_) (fun c_ => ?_)
    · have hF := hF.1 ((bz_1 _).mp c_)
      refine lv_aload_n hx hb dX12_as_20 rfl (lv_at hl 0 rfl) ?_
      refine va_get (D := D) (ci := 11) (v := .ref h_now) (C := RX12) (T := TX12) (N := 27) hx hb hts inTX12 hown hK.1 hP 0 rfl rfl 13 (by decide) (hts _ t4_137) (fun _ h9 => h9) rfl dX12_as_21 ?_
      refine lv_iload_n hx hb dX12_as_24 rfl (lv_at hl 1 rfl) ?_
      refine cS_r (As := [.ref h_now, .int p0]) C mfX12_kindIn t5_82 t5_81 (ccX12_kindIn l D cy h_now v_now p0 _ hF) rfl rfl (hP.sub [1] rfl) PR.np rfl hl.1 rfl (Nat.le_of_ble_eq_true rfl) dX12_as_25 ⟨Nat.le_of_ble_eq_true rfl, Nat.le_of_ble_eq_true rfl⟩ ⟨Nat.le_of_ble_eq_true rfl, Nat.le_of_ble_eq_true rfl⟩ ?_
      intro r3 hF
      refine W.eq (g2 := F0 m 28 ls [.int r3]) rfl ?_
      refine lv_istore_n (lv' := [(3, .int r3), (0, .ref h_this), (1, .int p0), (2, .int p1)]) hx hb dX12_as_28 rfl hl (by decide) rfl (fun ls hl => ?_)
      refine lv_iload_n hx hb dX12_as_29 rfl (lv_at hl 3 rfl) ?_
      refine lv_if_eq (tgt := 58) hx hb dX12_as_30 (by decide) (fun c_ => ?_) (fun c_ => ?_)
      · have hF := hF.1 c_
        exact J_58 p0 v_status _ _ ls  hP hD hS (lv_sub hl [1, 2] rfl) hF
      · have hF := hF.2 c_
        refine lv_iload_n hx hb dX12_as_33 rfl (lv_at hl 3 rfl) ?_
        refine lv_iload_n hx hb dX12_as_34 rfl (lv_at hl 0 rfl) ?_
        refine lv_icmp_eq (tgt := 58) hx hb dX12_as_35 (by decide) (fun c_ => ?_) (fun c_ => ?_)
        · have hF := hF.1 c_
          exact J_58 p0 v_status _ _ ls  hP hD hS (lv_sub hl [1, 2] rfl) hF
        · have hF := hF.2 c_
          refine lv_iload_n hx hb dX12_as_38 rfl (lv_at hl 3 rfl) ?_
          refine lv_iconst (v := 1) hx hb dX12_as_39 (by decide) ?_
          refine lv_icmp_ne (tgt := 48) hx hb dX12_as_40 (by decide) (fun c_ => ?_) (fun c_ => ?_)
          · have hF := hF.1 c_
            exact J_48 p0 p1 r3 v_status _ _ ls  hP hD hS (lv_sub hl [1, 2, 3, 0] rfl) hF
          · have hF := hF.2 c_
            refine lv_iload_n hx hb dX12_as_43 rfl (lv_at hl 0 rfl) ?_
            refine lv_iconst (v := 4) hx hb dX12_as_44 (by decide) ?_
            refine lv_icmp_lt (tgt := 58) hx hb dX12_as_45 (by decide) (fun c_ => ?_) (fun c_ => ?_)
            · have hF := hF.1 c_
              exact J_58 p0 v_status _ _ ls  hP hD hS (lv_sub hl [1, 2] rfl) hF
            · have hF := hF.2 c_
              exact J_48 p0 p1 r3 v_status _ _ ls  hP hD hS (lv_sub hl [1, 2, 3, 0] rfl) hF
    · have hF := hF.2 ((bz_0 _).mp c_)
      refine lv_ldc hx hb hown (hts _ t4_217) dX12_as_17 ?_
      exact rt_i C hQ rfl hP hD hS ⟨v_status, rfl, hF⟩ dX12_as_19

def wpX12_begins (p0 : Int32) (v_traced : Int32) (v_trace : Nat → Int32) (post : Unit → Int32 → (Nat → Int32) → Prop) : Prop := (16 ≤ v_traced → (post () v_traced v_trace)) ∧ (¬ 16 ≤ v_traced → (vp_in v_traced 16 ∧ (post () (v_traced + 1) (upd v_trace ((v_traced).toNatClampNeg) p0))))
abbrev miX12_begins : MI := (yX12_begins, cX12_begins, 2, none)
theorem mfX12_begins : MF miX12_begins 1 := ⟨t5_226, t1_8, by decide +kernel⟩
abbrev rmX12_begins : Room := { frames := 0, cells := 0, slots := 0, locals := 0 }
set_option maxHeartbeats 4000000 in
set_option maxRecDepth 100000 in
theorem ccX12_begins (l : Launch) (D : va_G) (cy : Nat → ClassId) (h_this : Nat) (h_trace : Nat) (x_lane : Value) (x_many : Value) (x_items : Value) (x_spare : Value) (x_tape : Value) (x_now : Value) (x_draft : Value) (x_tried : Value) (x_past : Value) (x_images : Value) (x_kept : Value) (x_comes : Value) (x_standing : Value) (x_brought : Value) (x_habit : Value) (v_status : Int32) (v_taped : Int32) (v_faultKind : Int32) (v_faultPlace : Int32) (v_at : Int32) (v_start : Int32) (v_token : Int32) (v_value : Int32) (v_acts : Int32) (v_traced : Int32) (v_livedMany : Int32) (v_trace : Nat → Int32) (p0 : Int32) (post : Unit → Int32 → (Nat → Int32) → Prop) (hF : wpX12_begins p0 v_traced v_trace post) : Ct l D cy miX12_begins rmX12_begins emV NP [.ref h_this, .int p0] [(h_this, .inr (11, [x_lane, x_many, x_items, x_spare, .int v_status, x_tape, .int v_taped, .int v_faultKind, .int v_faultPlace, .int v_at, .int v_start, .int v_token, .int v_value, x_now, x_draft, x_tried, x_past, .int v_acts, x_images, x_kept, .ref h_trace, .int v_traced, x_comes, x_standing, x_brought, x_habit, .int v_livedMany])), (h_trace, .inl (cy 0, 16, .inl v_trace))] (fun r w1 => ∃ (w_traced : Int32) (w_trace : Nat → Int32), w1 = [(h_this, .inr (11, [x_lane, x_many, x_items, x_spare, .int v_status, x_tape, .int v_taped, .int v_faultKind, .int v_faultPlace, .int v_at, .int v_start, .int v_token, .int v_value, x_now, x_draft, x_tried, x_past, .int v_acts, x_images, x_kept, .ref h_trace, .int w_traced, x_comes, x_standing, x_brought, x_habit, .int v_livedMany])), (h_trace, .inl (cy 0, 16, .inl w_trace))] ∧ post r w_traced w_trace) := by
  refine Ct.of (by decide) (Nat.le_of_ble_eq_true rfl) ?_
  intro p e s m args below meth c A ls Q C hQ hA hI hP hD hS hl
  obtain ⟨hx, hb, hr, hml, hown, hts, hK, hlk, hnm⟩ := id C
  have hb : c.code = cX12_begins := hb
  have hml : c.maxLocals = 2 := hml
  have hown : s.vm.findClass RX12 = some m.cls := hown
  have hl : lv_has ls 2 [(0, .ref h_this), (1, .int p0)] := hl
  unfold wpX12_begins at hF
  refine lv_aload_n hx hb dX12_begins_0 rfl (lv_at hl 0 rfl) ?_
  refine va_get (D := D) (ci := 11) (v := .int v_traced) (C := RX12) (T := TX12) (N := 27) hx hb hts inTX12 hown hK.1 hP 0 rfl rfl 21 (by decide) (hts _ t4_145) (fun _ h9 => h9) rfl dX12_begins_1 ?_
  refine lv_bipush (v := 16) hx hb dX12_begins_4 (by decide) ?_
  refine lv_icmp_ge (tgt := 29) hx hb dX12_begins_6 (by decide) (fun c_ => ?_) (fun c_ => ?_)
  · have hF := hF.1 c_
    exact rt_v C hQ rfl hP hD hS ⟨v_traced, v_trace, rfl, hF⟩ dX12_begins_29
  · have hF := hF.2 c_
    refine lv_aload_n hx hb dX12_begins_9 rfl (lv_at hl 0 rfl) ?_
    refine va_get (D := D) (ci := 11) (v := .ref h_trace) (C := RX12) (T := TX12) (N := 27) hx hb hts inTX12 hown hK.1 hP 0 rfl rfl 20 (by decide) (hts _ t4_144) (fun _ h9 => h9) rfl dX12_begins_10 ?_
    refine lv_aload_n hx hb dX12_begins_13 rfl (lv_at hl 0 rfl) ?_
    refine va_get (D := D) (ci := 11) (v := .int v_traced) (C := RX12) (T := TX12) (N := 27) hx hb hts inTX12 hown hK.1 hP 0 rfl rfl 21 (by decide) (hts _ t4_145) (fun _ h9 => h9) rfl dX12_begins_14 ?_
    refine lv_iload_n hx hb dX12_begins_17 rfl (lv_at hl 1 rfl) ?_
    obtain ⟨hi1, hF⟩ := hF
    refine s_iast (j := (v_traced).toNatClampNeg) hx hb hK.1 hP hD hS 1 0 rfl rfl hi1 rfl dX12_begins_18 (fun H locs hP hD hS => ?_)
    have hP : va_P D CL [(h_this, .inr (11, [x_lane, x_many, x_items, x_spare, .int v_status, x_tape, .int v_taped, .int v_faultKind, .int v_faultPlace, .int v_at, .int v_start, .int v_token, .int v_value, x_now, x_draft, x_tried, x_past, .int v_acts, x_images, x_kept, .ref h_trace, .int v_traced, x_comes, x_standing, x_brought, x_habit, .int v_livedMany])), (h_trace, .inl (cy 0, 16, .inl (upd v_trace ((v_traced).toNatClampNeg) p0)))] H := hP
    have hD : va_D A [(h_this, .inr (11, [x_lane, x_many, x_items, x_spare, .int v_status, x_tape, .int v_taped, .int v_faultKind, .int v_faultPlace, .int v_at, .int v_start, .int v_token, .int v_value, x_now, x_draft, x_tried, x_past, .int v_acts, x_images, x_kept, .ref h_trace, .int v_traced, x_comes, x_standing, x_brought, x_habit, .int v_livedMany])), (h_trace, .inl (cy 0, 16, .inl (upd v_trace ((v_traced).toNatClampNeg) p0)))] := hD
    refine lv_aload_n hx hb dX12_begins_19 rfl (lv_at hl 0 rfl) ?_
    refine lv_dup hx hb dX12_begins_20 rfl ?_
    refine va_get (D := D) (ci := 11) (v := .int v_traced) (C := RX12) (T := TX12) (N := 27) hx hb hts inTX12 hown hK.1 hP 0 rfl rfl 21 (by decide) (hts _ t4_145) (fun _ h9 => h9) rfl dX12_begins_21 ?_
    refine lv_iconst (v := 1) hx hb dX12_begins_24 (by decide) ?_
    refine lv_iadd hx hb dX12_begins_25 ?_
    refine va_put (D := D) (ci := 11) (v := .int (v_traced + 1)) (ty := .int) (C := RX12) (T := TX12) (N := 27) hx hb hts inTX12 tyX12 tyX12_ok nmX12 hown hK.1 hP hD hS 0 rfl rfl 21 (by decide) (hts _ t4_145) (fun _ h9 => h9) rfl (tyX12_ok 21 (by decide)) rfl rfl (Nat.le_of_ble_eq_true rfl) dX12_begins_26 (fun H locs hP hD hS => ?_)
    have hP : va_P D CL [(h_this, .inr (11, [x_lane, x_many, x_items, x_spare, .int v_status, x_tape, .int v_taped, .int v_faultKind, .int v_faultPlace, .int v_at, .int v_start, .int v_token, .int v_value, x_now, x_draft, x_tried, x_past, .int v_acts, x_images, x_kept, .ref h_trace, .int (v_traced + 1), x_comes, x_standing, x_brought, x_habit, .int v_livedMany])), (h_trace, .inl (cy 0, 16, .inl (upd v_trace ((v_traced).toNatClampNeg) p0)))] H := hP
    have hD : va_D A [(h_this, .inr (11, [x_lane, x_many, x_items, x_spare, .int v_status, x_tape, .int v_taped, .int v_faultKind, .int v_faultPlace, .int v_at, .int v_start, .int v_token, .int v_value, x_now, x_draft, x_tried, x_past, .int v_acts, x_images, x_kept, .ref h_trace, .int (v_traced + 1), x_comes, x_standing, x_brought, x_habit, .int v_livedMany])), (h_trace, .inl (cy 0, 16, .inl (upd v_trace ((v_traced).toNatClampNeg) p0)))] := hD
    exact rt_v C hQ rfl hP hD hS ⟨(v_traced + 1), (upd v_trace ((v_traced).toNatClampNeg) p0), rfl, hF⟩ dX12_begins_29

def wjX12_farmersMark_30 (v_now : Nat → Int32) (post : Int32 → Int32 → (Nat → Int32) → Prop) (l1 : Int32) (l2 : Int32) (w_traced : Int32) (w_trace : Nat → Int32) : Prop := wpX12_begins 21 w_traced w_trace (fun _ u2_traced u3_trace => wpX12_begins 20 u2_traced u3_trace (fun _ u5_traced u6_trace => vp_in ((6 + (6 * l1)) + 5) 124 ∧ ((¬ l2 = 2 → ((¬ l2 = 3 → (post (l1 + (v_now ((((6 + (6 * l1)) + 5)).toNatClampNeg))) u5_traced u6_trace)) ∧ (l2 = 3 → (post ((l1 + (v_now ((((6 + (6 * l1)) + 5)).toNatClampNeg))) - 1000) u5_traced u6_trace)))) ∧ (l2 = 2 → (post (2 * (l1 + (v_now ((((6 + (6 * l1)) + 5)).toNatClampNeg)))) u5_traced u6_trace)))))
def wjX12_farmersMark_27 (v_now : Nat → Int32) (post : Int32 → Int32 → (Nat → Int32) → Prop) (l1 : Int32) (l2 : Int32) (k0 : Int32) (w_traced : Int32) (w_trace : Nat → Int32) : Prop := wpX12_begins k0 w_traced w_trace (fun _ u2_traced u3_trace => wjX12_farmersMark_30 v_now post l1 l2 u2_traced u3_trace)
def wpX12_farmersMark (p0 : Int32) (v_traced : Int32) (v_now : Nat → Int32) (v_trace : Nat → Int32) (post : Int32 → Int32 → (Nat → Int32) → Prop) : Prop := wpX12_kindIn p0 v_now (fun r1 => (r1 = 1 → (wjX12_farmersMark_30 v_now post p0 r1 v_traced v_trace)) ∧ (¬ r1 = 1 → ((¬ r1 = 2 → (wjX12_farmersMark_27 v_now post p0 r1 22 v_traced v_trace)) ∧ (r1 = 2 → (wjX12_farmersMark_27 v_now post p0 r1 24 v_traced v_trace)))))
abbrev miX12_farmersMark : MI := (yX12_farmersMark, cX12_farmersMark, 4, (some .int))
theorem mfX12_farmersMark : MF miX12_farmersMark 1 := ⟨t5_234, t1_8, by decide +kernel⟩
abbrev rmX12_farmersMark : Room := { frames := 1, cells := 0, slots := 0, locals := 21 }
set_option maxHeartbeats 4000000 in
set_option maxRecDepth 100000 in
theorem ccX12_farmersMark (l : Launch) (D : va_G) (cy : Nat → ClassId) (h_this : Nat) (h_now : Nat) (h_trace : Nat) (x_lane : Value) (x_many : Value) (x_items : Value) (x_spare : Value) (x_tape : Value) (x_draft : Value) (x_tried : Value) (x_past : Value) (x_images : Value) (x_kept : Value) (x_comes : Value) (x_standing : Value) (x_brought : Value) (x_habit : Value) (v_status : Int32) (v_taped : Int32) (v_faultKind : Int32) (v_faultPlace : Int32) (v_at : Int32) (v_start : Int32) (v_token : Int32) (v_value : Int32) (v_acts : Int32) (v_traced : Int32) (v_livedMany : Int32) (v_now : Nat → Int32) (v_trace : Nat → Int32) (p0 : Int32) (post : Int32 → Int32 → (Nat → Int32) → Prop) (hF : wpX12_farmersMark p0 v_traced v_now v_trace post) : Ct l D cy miX12_farmersMark rmX12_farmersMark emI NP [.ref h_this, .int p0] [(h_this, .inr (11, [x_lane, x_many, x_items, x_spare, .int v_status, x_tape, .int v_taped, .int v_faultKind, .int v_faultPlace, .int v_at, .int v_start, .int v_token, .int v_value, .ref h_now, x_draft, x_tried, x_past, .int v_acts, x_images, x_kept, .ref h_trace, .int v_traced, x_comes, x_standing, x_brought, x_habit, .int v_livedMany])), (h_now, .inl (cy 0, 124, .inl v_now)), (h_trace, .inl (cy 0, 16, .inl v_trace))] (fun r w1 => ∃ (w_traced : Int32) (w_trace : Nat → Int32), w1 = [(h_this, .inr (11, [x_lane, x_many, x_items, x_spare, .int v_status, x_tape, .int v_taped, .int v_faultKind, .int v_faultPlace, .int v_at, .int v_start, .int v_token, .int v_value, .ref h_now, x_draft, x_tried, x_past, .int v_acts, x_images, x_kept, .ref h_trace, .int w_traced, x_comes, x_standing, x_brought, x_habit, .int v_livedMany])), (h_now, .inl (cy 0, 124, .inl v_now)), (h_trace, .inl (cy 0, 16, .inl w_trace))] ∧ post r w_traced w_trace) := by
  refine Ct.of (by decide) (Nat.le_of_ble_eq_true rfl) ?_
  intro p e s m args below meth c A ls Q C hQ hA hI hP hD hS hl
  obtain ⟨hx, hb, hr, hml, hown, hts, hK, hlk, hnm⟩ := id C
  have hb : c.code = cX12_farmersMark := hb
  have hml : c.maxLocals = 4 := hml
  have hown : s.vm.findClass RX12 = some m.cls := hown
  have hl : lv_has ls 4 [(0, .ref h_this), (1, .int p0)] := hl
  have J_30 : ∀ (l1 : Int32) (l2 : Int32) (w_traced : Int32) (w_trace : Nat → Int32) (H : Heap) (locs : List Loc) (ls : Array Slot), va_P D CL [(h_this, .inr (11, [x_lane, x_many, x_items, x_spare, .int v_status, x_tape, .int v_taped, .int v_faultKind, .int v_faultPlace, .int v_at, .int v_start, .int v_token, .int v_value, .ref h_now, x_draft, x_tried, x_past, .int v_acts, x_images, x_kept, .ref h_trace, .int w_traced, x_comes, x_standing, x_brought, x_habit, .int v_livedMany])), (h_now, .inl (cy 0, 124, .inl v_now)), (h_trace, .inl (cy 0, 16, .inl w_trace))] H → va_D A [(h_this, .inr (11, [x_lane, x_many, x_items, x_spare, .int v_status, x_tape, .int v_taped, .int v_faultKind, .int v_faultPlace, .int v_at, .int v_start, .int v_token, .int v_value, .ref h_now, x_draft, x_tried, x_past, .int v_acts, x_images, x_kept, .ref h_trace, .int w_traced, x_comes, x_standing, x_brought, x_habit, .int v_livedMany])), (h_now, .inl (cy 0, 124, .inl v_now)), (h_trace, .inl (cy 0, 16, .inl w_trace))] → va_S A s.heap H locs → lv_has ls 4 [(0, .ref h_this), (1, .int l1), (2, .int l2)] → wjX12_farmersMark_30 v_now post l1 l2 w_traced w_trace → W p l e rmX12_farmersMark s m args below meth c H locs 0 0 Q (F0 m 30 ls []) := by
    intro l1 l2 w_traced w_trace H locs ls  hP hD hS hl hF
    unfold wjX12_farmersMark_30 at hF
    refine lv_aload_n hx hb dX12_farmersMark_30 rfl (lv_at hl 0 rfl) ?_
    refine lv_bipush (v := 21) hx hb dX12_farmersMark_31 (by decide) ?_
    refine cV_t (As := [.int 21]) (wr := [(h_now, .inl (cy 0, 124, .inl v_now))]) C hA hP hD hS mfX12_begins t5_225 ts_36 t5_223 (ccX12_begins l D cy h_this h_trace x_lane x_many x_items x_spare x_tape (.ref h_now) x_draft x_tried x_past x_images x_kept x_comes x_standing x_brought x_habit v_status v_taped v_faultKind v_faultPlace v_at v_start v_token v_value v_acts w_traced v_livedMany w_trace 21 _ hF) [0, 2] [1] rfl rfl (by decide) (by decide) (by decide) PO.np 0 11 rfl rfl rfl rfl hl.1 rfl (Nat.le_of_ble_eq_true rfl) dX12_farmersMark_33 ⟨Nat.le_of_ble_eq_true rfl, Nat.le_of_ble_eq_true rfl⟩ ⟨Nat.le_of_ble_eq_true rfl, Nat.le_of_ble_eq_true rfl⟩ ?_
    rintro ⟨⟩ w1 H locs ⟨u2_traced, u3_trace, rfl, hF⟩ hP hD hS
    have hP : va_P D CL [(h_now, .inl (cy 0, 124, .inl v_now)), (h_this, .inr (11, [x_lane, x_many, x_items, x_spare, .int v_status, x_tape, .int v_taped, .int v_faultKind, .int v_faultPlace, .int v_at, .int v_start, .int v_token, .int v_value, .ref h_now, x_draft, x_tried, x_past, .int v_acts, x_images, x_kept, .ref h_trace, .int u2_traced, x_comes, x_standing, x_brought, x_habit, .int v_livedMany])), (h_trace, .inl (cy 0, 16, .inl u3_trace))] H := hP
    have hD : va_D A [(h_now, .inl (cy 0, 124, .inl v_now)), (h_this, .inr (11, [x_lane, x_many, x_items, x_spare, .int v_status, x_tape, .int v_taped, .int v_faultKind, .int v_faultPlace, .int v_at, .int v_start, .int v_token, .int v_value, .ref h_now, x_draft, x_tried, x_past, .int v_acts, x_images, x_kept, .ref h_trace, .int u2_traced, x_comes, x_standing, x_brought, x_habit, .int v_livedMany])), (h_trace, .inl (cy 0, 16, .inl u3_trace))] := hD
    refine W.eq (g2 := F0 m 36 ls []) rfl ?_
    refine lv_aload_n hx hb dX12_farmersMark_36 rfl (lv_at hl 0 rfl) ?_
    refine lv_bipush (v := 20) hx hb dX12_farmersMark_37 (by decide) ?_
    refine cV_t (As := [.int 20]) (wr := [(h_now, .inl (cy 0, 124, .inl v_now))]) C hA hP hD hS mfX12_begins t5_225 ts_36 t5_223 (ccX12_begins l D cy h_this h_trace x_lane x_many x_items x_spare x_tape (.ref h_now) x_draft x_tried x_past x_images x_kept x_comes x_standing x_brought x_habit v_status v_taped v_faultKind v_faultPlace v_at v_start v_token v_value v_acts u2_traced v_livedMany u3_trace 20 _ hF) [1, 2] [0] rfl rfl (by decide) (by decide) (by decide) PO.np 1 11 rfl rfl rfl rfl hl.1 rfl (Nat.le_of_ble_eq_true rfl) dX12_farmersMark_39 ⟨Nat.le_of_ble_eq_true rfl, Nat.le_of_ble_eq_true rfl⟩ ⟨Nat.le_of_ble_eq_true rfl, Nat.le_of_ble_eq_true rfl⟩ ?_
    rintro ⟨⟩ w1 H locs ⟨u5_traced, u6_trace, rfl, hF⟩ hP hD hS
    have hP : va_P D CL [(h_now, .inl (cy 0, 124, .inl v_now)), (h_this, .inr (11, [x_lane, x_many, x_items, x_spare, .int v_status, x_tape, .int v_taped, .int v_faultKind, .int v_faultPlace, .int v_at, .int v_start, .int v_token, .int v_value, .ref h_now, x_draft, x_tried, x_past, .int v_acts, x_images, x_kept, .ref h_trace, .int u5_traced, x_comes, x_standing, x_brought, x_habit, .int v_livedMany])), (h_trace, .inl (cy 0, 16, .inl u6_trace))] H := hP
    have hD : va_D A [(h_now, .inl (cy 0, 124, .inl v_now)), (h_this, .inr (11, [x_lane, x_many, x_items, x_spare, .int v_status, x_tape, .int v_taped, .int v_faultKind, .int v_faultPlace, .int v_at, .int v_start, .int v_token, .int v_value, .ref h_now, x_draft, x_tried, x_past, .int v_acts, x_images, x_kept, .ref h_trace, .int u5_traced, x_comes, x_standing, x_brought, x_habit, .int v_livedMany])), (h_trace, .inl (cy 0, 16, .inl u6_trace))] := hD
    refine W.eq (g2 := F0 m 42 ls []) rfl ?_
    refine lv_iload_n hx hb dX12_farmersMark_42 rfl (lv_at hl 1 rfl) ?_
    refine lv_aload_n hx hb dX12_farmersMark_43 rfl (lv_at hl 0 rfl) ?_
    refine va_get (D := D) (ci := 11) (v := .ref h_now) (C := RX12) (T := TX12) (N := 27) hx hb hts inTX12 hown hK.1 hP 1 rfl rfl 13 (by decide) (hts _ t4_137) (fun _ h9 => h9) rfl dX12_farmersMark_44 ?_
    refine lv_bipush (v := 6) hx hb dX12_farmersMark_47 (by decide) ?_
    refine lv_bipush (v := 6) hx hb dX12_farmersMark_49 (by decide) ?_
    refine lv_iload_n hx hb dX12_farmersMark_51 rfl (lv_at hl 1 rfl) ?_
    refine lv_imul hx hb dX12_farmersMark_52 ?_
    refine lv_iadd hx hb dX12_farmersMark_53 ?_
    refine lv_iconst (v := 5) hx hb dX12_farmersMark_54 (by decide) ?_
    refine lv_iadd hx hb dX12_farmersMark_55 ?_
    obtain ⟨hi7, hF⟩ := hF
    refine s_iald (j := (((6 + (6 * l1)) + 5)).toNatClampNeg) hx hb hK.1 hP 0 0 rfl rfl hi7 rfl dX12_farmersMark_56 ?_
    refine lv_iadd hx hb dX12_farmersMark_57 ?_
    refine lv_istore_n (lv' := [(3, .int (l1 + (v_now ((((6 + (6 * l1)) + 5)).toNatClampNeg)))), (0, .ref h_this), (1, .int l1), (2, .int l2)]) hx hb dX12_farmersMark_58 rfl hl (by decide) rfl (fun ls hl => ?_)
    refine lv_iload_n hx hb dX12_farmersMark_59 rfl (lv_at hl 3 rfl) ?_
    refine lv_iconst (v := 2) hx hb dX12_farmersMark_60 (by decide) ?_
    refine lv_icmp_ne (tgt := 70) hx hb dX12_farmersMark_61 (by decide) (fun c_ => ?_) (fun c_ => ?_)
    · have hF := hF.1 c_
      refine lv_iload_n hx hb dX12_farmersMark_70 rfl (lv_at hl 3 rfl) ?_
      refine lv_iconst (v := 3) hx hb dX12_farmersMark_71 (by decide) ?_
      refine lv_icmp_ne (tgt := 83) hx hb dX12_farmersMark_72 (by decide) (fun c_ => ?_) (fun c_ => ?_)
      · have hF := hF.1 c_
        refine lv_iload_n hx hb dX12_farmersMark_83 rfl (lv_at hl 0 rfl) ?_
        have hP : va_P D CL [(h_this, .inr (11, [x_lane, x_many, x_items, x_spare, .int v_status, x_tape, .int v_taped, .int v_faultKind, .int v_faultPlace, .int v_at, .int v_start, .int v_token, .int v_value, .ref h_now, x_draft, x_tried, x_past, .int v_acts, x_images, x_kept, .ref h_trace, .int u5_traced, x_comes, x_standing, x_brought, x_habit, .int v_livedMany])), (h_now, .inl (cy 0, 124, .inl v_now)), (h_trace, .inl (cy 0, 16, .inl u6_trace))] H := (hP.sub [1, 0, 2] rfl)
        have hD : va_D A [(h_this, .inr (11, [x_lane, x_many, x_items, x_spare, .int v_status, x_tape, .int v_taped, .int v_faultKind, .int v_faultPlace, .int v_at, .int v_start, .int v_token, .int v_value, .ref h_now, x_draft, x_tried, x_past, .int v_acts, x_images, x_kept, .ref h_trace, .int u5_traced, x_comes, x_standing, x_brought, x_habit, .int v_livedMany])), (h_now, .inl (cy 0, 124, .inl v_now)), (h_trace, .inl (cy 0, 16, .inl u6_trace))] := (hD.sub [1, 0, 2] (by decide) rfl)
        exact rt_i C hQ rfl hP hD hS ⟨u5_traced, u6_trace, rfl, hF⟩ dX12_farmersMark_84
      · have hF := hF.2 c_
        refine lv_iload_n hx hb dX12_farmersMark_75 rfl (lv_at hl 0 rfl) ?_
        refine lv_sipush (v := 1000) hx hb dX12_farmersMark_76 (by decide) ?_
        refine lv_isub hx hb dX12_farmersMark_79 ?_
        refine lv_goto (tgt := 84) hx hb dX12_farmersMark_80 (by decide) ?_
        have hP : va_P D CL [(h_this, .inr (11, [x_lane, x_many, x_items, x_spare, .int v_status, x_tape, .int v_taped, .int v_faultKind, .int v_faultPlace, .int v_at, .int v_start, .int v_token, .int v_value, .ref h_now, x_draft, x_tried, x_past, .int v_acts, x_images, x_kept, .ref h_trace, .int u5_traced, x_comes, x_standing, x_brought, x_habit, .int v_livedMany])), (h_now, .inl (cy 0, 124, .inl v_now)), (h_trace, .inl (cy 0, 16, .inl u6_trace))] H := (hP.sub [1, 0, 2] rfl)
        have hD : va_D A [(h_this, .inr (11, [x_lane, x_many, x_items, x_spare, .int v_status, x_tape, .int v_taped, .int v_faultKind, .int v_faultPlace, .int v_at, .int v_start, .int v_token, .int v_value, .ref h_now, x_draft, x_tried, x_past, .int v_acts, x_images, x_kept, .ref h_trace, .int u5_traced, x_comes, x_standing, x_brought, x_habit, .int v_livedMany])), (h_now, .inl (cy 0, 124, .inl v_now)), (h_trace, .inl (cy 0, 16, .inl u6_trace))] := (hD.sub [1, 0, 2] (by decide) rfl)
        exact rt_i C hQ rfl hP hD hS ⟨u5_traced, u6_trace, rfl, hF⟩ dX12_farmersMark_84
    · have hF := hF.2 c_
      refine lv_iconst (v := 2) hx hb dX12_farmersMark_64 (by decide) ?_
      refine lv_iload_n hx hb dX12_farmersMark_65 rfl (lv_at hl 0 rfl) ?_
      refine lv_imul hx hb dX12_farmersMark_66 ?_
      refine lv_goto (tgt := 84) hx hb dX12_farmersMark_67 (by decide) ?_
      have hP : va_P D CL [(h_this, .inr (11, [x_lane, x_many, x_items, x_spare, .int v_status, x_tape, .int v_taped, .int v_faultKind, .int v_faultPlace, .int v_at, .int v_start, .int v_token, .int v_value, .ref h_now, x_draft, x_tried, x_past, .int v_acts, x_images, x_kept, .ref h_trace, .int u5_traced, x_comes, x_standing, x_brought, x_habit, .int v_livedMany])), (h_now, .inl (cy 0, 124, .inl v_now)), (h_trace, .inl (cy 0, 16, .inl u6_trace))] H := (hP.sub [1, 0, 2] rfl)
      have hD : va_D A [(h_this, .inr (11, [x_lane, x_many, x_items, x_spare, .int v_status, x_tape, .int v_taped, .int v_faultKind, .int v_faultPlace, .int v_at, .int v_start, .int v_token, .int v_value, .ref h_now, x_draft, x_tried, x_past, .int v_acts, x_images, x_kept, .ref h_trace, .int u5_traced, x_comes, x_standing, x_brought, x_habit, .int v_livedMany])), (h_now, .inl (cy 0, 124, .inl v_now)), (h_trace, .inl (cy 0, 16, .inl u6_trace))] := (hD.sub [1, 0, 2] (by decide) rfl)
      exact rt_i C hQ rfl hP hD hS ⟨u5_traced, u6_trace, rfl, hF⟩ dX12_farmersMark_84
  have J_27 : ∀ (l1 : Int32) (l2 : Int32) (k0 : Int32) (w_traced : Int32) (w_trace : Nat → Int32) (H : Heap) (locs : List Loc) (ls : Array Slot), va_P D CL [(h_this, .inr (11, [x_lane, x_many, x_items, x_spare, .int v_status, x_tape, .int v_taped, .int v_faultKind, .int v_faultPlace, .int v_at, .int v_start, .int v_token, .int v_value, .ref h_now, x_draft, x_tried, x_past, .int v_acts, x_images, x_kept, .ref h_trace, .int w_traced, x_comes, x_standing, x_brought, x_habit, .int v_livedMany])), (h_now, .inl (cy 0, 124, .inl v_now)), (h_trace, .inl (cy 0, 16, .inl w_trace))] H → va_D A [(h_this, .inr (11, [x_lane, x_many, x_items, x_spare, .int v_status, x_tape, .int v_taped, .int v_faultKind, .int v_faultPlace, .int v_at, .int v_start, .int v_token, .int v_value, .ref h_now, x_draft, x_tried, x_past, .int v_acts, x_images, x_kept, .ref h_trace, .int w_traced, x_comes, x_standing, x_brought, x_habit, .int v_livedMany])), (h_now, .inl (cy 0, 124, .inl v_now)), (h_trace, .inl (cy 0, 16, .inl w_trace))] → va_S A s.heap H locs → lv_has ls 4 [(0, .ref h_this), (1, .int l1), (2, .int l2)] → wjX12_farmersMark_27 v_now post l1 l2 k0 w_traced w_trace → W p l e rmX12_farmersMark s m args below meth c H locs 0 0 Q (F0 m 27 ls [.int k0, .ref h_this]) := by
    intro l1 l2 k0 w_traced w_trace H locs ls  hP hD hS hl hF
    unfold wjX12_farmersMark_27 at hF
    refine cV_t (As := [.int k0]) (wr := [(h_now, .inl (cy 0, 124, .inl v_now))]) C hA hP hD hS mfX12_begins t5_225 ts_36 t5_223 (ccX12_begins l D cy h_this h_trace x_lane x_many x_items x_spare x_tape (.ref h_now) x_draft x_tried x_past x_images x_kept x_comes x_standing x_brought x_habit v_status v_taped v_faultKind v_faultPlace v_at v_start v_token v_value v_acts w_traced v_livedMany w_trace k0 _ hF) [0, 2] [1] rfl rfl (by decide) (by decide) (by decide) PO.np 0 11 rfl rfl rfl rfl hl.1 rfl (Nat.le_of_ble_eq_true rfl) dX12_farmersMark_27 ⟨Nat.le_of_ble_eq_true rfl, Nat.le_of_ble_eq_true rfl⟩ ⟨Nat.le_of_ble_eq_true rfl, Nat.le_of_ble_eq_true rfl⟩ ?_
    rintro ⟨⟩ w1 H locs ⟨u2_traced, u3_trace, rfl, hF⟩ hP hD hS
    have hP : va_P D CL [(h_now, .inl (cy 0, 124, .inl v_now)), (h_this, .inr (11, [x_lane, x_many, x_items, x_spare, .int v_status, x_tape, .int v_taped, .int v_faultKind, .int v_faultPlace, .int v_at, .int v_start, .int v_token, .int v_value, .ref h_now, x_draft, x_tried, x_past, .int v_acts, x_images, x_kept, .ref h_trace, .int u2_traced, x_comes, x_standing, x_brought, x_habit, .int v_livedMany])), (h_trace, .inl (cy 0, 16, .inl u3_trace))] H := hP
    have hD : va_D A [(h_now, .inl (cy 0, 124, .inl v_now)), (h_this, .inr (11, [x_lane, x_many, x_items, x_spare, .int v_status, x_tape, .int v_taped, .int v_faultKind, .int v_faultPlace, .int v_at, .int v_start, .int v_token, .int v_value, .ref h_now, x_draft, x_tried, x_past, .int v_acts, x_images, x_kept, .ref h_trace, .int u2_traced, x_comes, x_standing, x_brought, x_habit, .int v_livedMany])), (h_trace, .inl (cy 0, 16, .inl u3_trace))] := hD
    refine W.eq (g2 := F0 m 30 ls []) rfl ?_
    exact J_30 l1 l2 u2_traced u3_trace _ _ ls  (hP.sub [1, 0, 2] rfl) (hD.sub [1, 0, 2] (by decide) rfl) hS (lv_sub hl [0, 1, 2] rfl) hF
  unfold wpX12_farmersMark at hF
  refine lv_aload_n hx hb dX12_farmersMark_0 rfl (lv_at hl 0 rfl) ?_
  refine va_get (D := D) (ci := 11) (v := .ref h_now) (C := RX12) (T := TX12) (N := 27) hx hb hts inTX12 hown hK.1 hP 0 rfl rfl 13 (by decide) (hts _ t4_137) (fun _ h9 => h9) rfl dX12_farmersMark_1 ?_
  refine lv_iload_n hx hb dX12_farmersMark_4 rfl (lv_at hl 1 rfl) ?_
  refine cS_r (As := [.ref h_now, .int p0]) C mfX12_kindIn t5_82 t5_81 (ccX12_kindIn l D cy h_now v_now p0 _ hF) rfl rfl (hP.sub [1] rfl) PR.np rfl hl.1 rfl (Nat.le_of_ble_eq_true rfl) dX12_farmersMark_5 ⟨Nat.le_of_ble_eq_true rfl, Nat.le_of_ble_eq_true rfl⟩ ⟨Nat.le_of_ble_eq_true rfl, Nat.le_of_ble_eq_true rfl⟩ ?_
  intro r1 hF
  refine W.eq (g2 := F0 m 8 ls [.int r1]) rfl ?_
  refine lv_istore_n (lv' := [(2, .int r1), (0, .ref h_this), (1, .int p0)]) hx hb dX12_farmersMark_8 rfl hl (by decide) rfl (fun ls hl => ?_)
  refine lv_iload_n hx hb dX12_farmersMark_9 rfl (lv_at hl 0 rfl) ?_
  refine lv_iconst (v := 1) hx hb dX12_farmersMark_10 (by decide) ?_
  refine lv_icmp_eq (tgt := 30) hx hb dX12_farmersMark_11 (by decide) (fun c_ => ?_) (fun c_ => ?_)
  · have hF := hF.1 c_
    exact J_30 p0 r1 v_traced v_trace _ _ ls  hP hD hS (lv_sub hl [1, 2, 0] rfl) hF
  · have hF := hF.2 c_
    refine lv_aload_n hx hb dX12_farmersMark_14 rfl (lv_at hl 1 rfl) ?_
    refine lv_iload_n hx hb dX12_farmersMark_15 rfl (lv_at hl 0 rfl) ?_
    refine lv_iconst (v := 2) hx hb dX12_farmersMark_16 (by decide) ?_
    refine lv_icmp_ne (tgt := 25) hx hb dX12_farmersMark_17 (by decide) (fun c_ => ?_) (fun c_ => ?_)
    · have hF := hF.1 c_
      refine lv_bipush (v := 22) hx hb dX12_farmersMark_25 (by decide) ?_
      exact J_27 p0 r1 22 v_traced v_trace _ _ ls  hP hD hS (lv_sub hl [1, 2, 0] rfl) hF
    · have hF := hF.2 c_
      refine lv_bipush (v := 24) hx hb dX12_farmersMark_20 (by decide) ?_
      refine lv_goto (tgt := 27) hx hb dX12_farmersMark_22 (by decide) ?_
      exact J_27 p0 r1 24 v_traced v_trace _ _ ls  hP hD hS (lv_sub hl [1, 2, 0] rfl) hF

def wjX12_widowsSize_28 (v_now : Nat → Int32) (post : Int32 → Int32 → (Nat → Int32) → Prop) (l1 : Int32) (l2 : Bool) (w_traced : Int32) (w_trace : Nat → Int32) : Prop := wpX12_begins 13 w_traced w_trace (fun _ u2_traced u3_trace => wpX12_begins 10 u2_traced u3_trace (fun _ u5_traced u6_trace => vp_in ((6 + (6 * l1)) + 4) 124 ∧ ((l2 = false → (post ((v_now ((((6 + (6 * l1)) + 4)).toNatClampNeg)) - 100) u5_traced u6_trace)) ∧ (l2 = true → (post (2 * ((v_now ((((6 + (6 * l1)) + 4)).toNatClampNeg)) - 100)) u5_traced u6_trace)))))
def wjX12_widowsSize_17 (v_now : Nat → Int32) (post : Int32 → Int32 → (Nat → Int32) → Prop) (l1 : Int32) (k0 : Bool) (w_traced : Int32) (w_trace : Nat → Int32) : Prop := (k0 = false → (wjX12_widowsSize_28 v_now post l1 k0 w_traced w_trace)) ∧ (k0 = true → (wpX12_begins 14 w_traced w_trace (fun _ u2_traced u3_trace => wjX12_widowsSize_28 v_now post l1 k0 u2_traced u3_trace)))
def wpX12_widowsSize (p0 : Int32) (v_traced : Int32) (v_now : Nat → Int32) (v_trace : Nat → Int32) (post : Int32 → Int32 → (Nat → Int32) → Prop) : Prop := wpX12_kindIn p0 v_now (fun r1 => (¬ r1 = 5 → (wjX12_widowsSize_17 v_now post p0 false v_traced v_trace)) ∧ (r1 = 5 → (wjX12_widowsSize_17 v_now post p0 true v_traced v_trace)))
abbrev miX12_widowsSize : MI := (yX12_widowsSize, cX12_widowsSize, 4, (some .int))
theorem mfX12_widowsSize : MF miX12_widowsSize 1 := ⟨t5_222, t1_8, by decide +kernel⟩
abbrev rmX12_widowsSize : Room := { frames := 1, cells := 0, slots := 0, locals := 21 }
set_option maxHeartbeats 4000000 in
set_option maxRecDepth 100000 in
theorem ccX12_widowsSize (l : Launch) (D : va_G) (cy : Nat → ClassId) (h_this : Nat) (h_now : Nat) (h_trace : Nat) (x_lane : Value) (x_many : Value) (x_items : Value) (x_spare : Value) (x_tape : Value) (x_draft : Value) (x_tried : Value) (x_past : Value) (x_images : Value) (x_kept : Value) (x_comes : Value) (x_standing : Value) (x_brought : Value) (x_habit : Value) (v_status : Int32) (v_taped : Int32) (v_faultKind : Int32) (v_faultPlace : Int32) (v_at : Int32) (v_start : Int32) (v_token : Int32) (v_value : Int32) (v_acts : Int32) (v_traced : Int32) (v_livedMany : Int32) (v_now : Nat → Int32) (v_trace : Nat → Int32) (p0 : Int32) (post : Int32 → Int32 → (Nat → Int32) → Prop) (hF : wpX12_widowsSize p0 v_traced v_now v_trace post) : Ct l D cy miX12_widowsSize rmX12_widowsSize emI NP [.ref h_this, .int p0] [(h_this, .inr (11, [x_lane, x_many, x_items, x_spare, .int v_status, x_tape, .int v_taped, .int v_faultKind, .int v_faultPlace, .int v_at, .int v_start, .int v_token, .int v_value, .ref h_now, x_draft, x_tried, x_past, .int v_acts, x_images, x_kept, .ref h_trace, .int v_traced, x_comes, x_standing, x_brought, x_habit, .int v_livedMany])), (h_now, .inl (cy 0, 124, .inl v_now)), (h_trace, .inl (cy 0, 16, .inl v_trace))] (fun r w1 => ∃ (w_traced : Int32) (w_trace : Nat → Int32), w1 = [(h_this, .inr (11, [x_lane, x_many, x_items, x_spare, .int v_status, x_tape, .int v_taped, .int v_faultKind, .int v_faultPlace, .int v_at, .int v_start, .int v_token, .int v_value, .ref h_now, x_draft, x_tried, x_past, .int v_acts, x_images, x_kept, .ref h_trace, .int w_traced, x_comes, x_standing, x_brought, x_habit, .int v_livedMany])), (h_now, .inl (cy 0, 124, .inl v_now)), (h_trace, .inl (cy 0, 16, .inl w_trace))] ∧ post r w_traced w_trace) := by
  refine Ct.of (by decide) (Nat.le_of_ble_eq_true rfl) ?_
  intro p e s m args below meth c A ls Q C hQ hA hI hP hD hS hl
  obtain ⟨hx, hb, hr, hml, hown, hts, hK, hlk, hnm⟩ := id C
  have hb : c.code = cX12_widowsSize := hb
  have hml : c.maxLocals = 4 := hml
  have hown : s.vm.findClass RX12 = some m.cls := hown
  have hl : lv_has ls 4 [(0, .ref h_this), (1, .int p0)] := hl
  have J_28 : ∀ (l1 : Int32) (l2 : Bool) (w_traced : Int32) (w_trace : Nat → Int32) (H : Heap) (locs : List Loc) (ls : Array Slot), va_P D CL [(h_this, .inr (11, [x_lane, x_many, x_items, x_spare, .int v_status, x_tape, .int v_taped, .int v_faultKind, .int v_faultPlace, .int v_at, .int v_start, .int v_token, .int v_value, .ref h_now, x_draft, x_tried, x_past, .int v_acts, x_images, x_kept, .ref h_trace, .int w_traced, x_comes, x_standing, x_brought, x_habit, .int v_livedMany])), (h_now, .inl (cy 0, 124, .inl v_now)), (h_trace, .inl (cy 0, 16, .inl w_trace))] H → va_D A [(h_this, .inr (11, [x_lane, x_many, x_items, x_spare, .int v_status, x_tape, .int v_taped, .int v_faultKind, .int v_faultPlace, .int v_at, .int v_start, .int v_token, .int v_value, .ref h_now, x_draft, x_tried, x_past, .int v_acts, x_images, x_kept, .ref h_trace, .int w_traced, x_comes, x_standing, x_brought, x_habit, .int v_livedMany])), (h_now, .inl (cy 0, 124, .inl v_now)), (h_trace, .inl (cy 0, 16, .inl w_trace))] → va_S A s.heap H locs → lv_has ls 4 [(0, .ref h_this), (1, .int l1), (2, .int (bz l2))] → wjX12_widowsSize_28 v_now post l1 l2 w_traced w_trace → W p l e rmX12_widowsSize s m args below meth c H locs 0 0 Q (F0 m 28 ls []) := by
    intro l1 l2 w_traced w_trace H locs ls  hP hD hS hl hF
    unfold wjX12_widowsSize_28 at hF
    refine lv_aload_n hx hb dX12_widowsSize_28 rfl (lv_at hl 0 rfl) ?_
    refine lv_bipush (v := 13) hx hb dX12_widowsSize_29 (by decide) ?_
    refine cV_t (As := [.int 13]) (wr := [(h_now, .inl (cy 0, 124, .inl v_now))]) C hA hP hD hS mfX12_begins t5_225 ts_36 t5_223 (ccX12_begins l D cy h_this h_trace x_lane x_many x_items x_spare x_tape (.ref h_now) x_draft x_tried x_past x_images x_kept x_comes x_standing x_brought x_habit v_status v_taped v_faultKind v_faultPlace v_at v_start v_token v_value v_acts w_traced v_livedMany w_trace 13 _ hF) [0, 2] [1] rfl rfl (by decide) (by decide) (by decide) PO.np 0 11 rfl rfl rfl rfl hl.1 rfl (Nat.le_of_ble_eq_true rfl) dX12_widowsSize_31 ⟨Nat.le_of_ble_eq_true rfl, Nat.le_of_ble_eq_true rfl⟩ ⟨Nat.le_of_ble_eq_true rfl, Nat.le_of_ble_eq_true rfl⟩ ?_
    rintro ⟨⟩ w1 H locs ⟨u2_traced, u3_trace, rfl, hF⟩ hP hD hS
    have hP : va_P D CL [(h_now, .inl (cy 0, 124, .inl v_now)), (h_this, .inr (11, [x_lane, x_many, x_items, x_spare, .int v_status, x_tape, .int v_taped, .int v_faultKind, .int v_faultPlace, .int v_at, .int v_start, .int v_token, .int v_value, .ref h_now, x_draft, x_tried, x_past, .int v_acts, x_images, x_kept, .ref h_trace, .int u2_traced, x_comes, x_standing, x_brought, x_habit, .int v_livedMany])), (h_trace, .inl (cy 0, 16, .inl u3_trace))] H := hP
    have hD : va_D A [(h_now, .inl (cy 0, 124, .inl v_now)), (h_this, .inr (11, [x_lane, x_many, x_items, x_spare, .int v_status, x_tape, .int v_taped, .int v_faultKind, .int v_faultPlace, .int v_at, .int v_start, .int v_token, .int v_value, .ref h_now, x_draft, x_tried, x_past, .int v_acts, x_images, x_kept, .ref h_trace, .int u2_traced, x_comes, x_standing, x_brought, x_habit, .int v_livedMany])), (h_trace, .inl (cy 0, 16, .inl u3_trace))] := hD
    refine W.eq (g2 := F0 m 34 ls []) rfl ?_
    refine lv_aload_n hx hb dX12_widowsSize_34 rfl (lv_at hl 0 rfl) ?_
    refine lv_bipush (v := 10) hx hb dX12_widowsSize_35 (by decide) ?_
    refine cV_t (As := [.int 10]) (wr := [(h_now, .inl (cy 0, 124, .inl v_now))]) C hA hP hD hS mfX12_begins t5_225 ts_36 t5_223 (ccX12_begins l D cy h_this h_trace x_lane x_many x_items x_spare x_tape (.ref h_now) x_draft x_tried x_past x_images x_kept x_comes x_standing x_brought x_habit v_status v_taped v_faultKind v_faultPlace v_at v_start v_token v_value v_acts u2_traced v_livedMany u3_trace 10 _ hF) [1, 2] [0] rfl rfl (by decide) (by decide) (by decide) PO.np 1 11 rfl rfl rfl rfl hl.1 rfl (Nat.le_of_ble_eq_true rfl) dX12_widowsSize_37 ⟨Nat.le_of_ble_eq_true rfl, Nat.le_of_ble_eq_true rfl⟩ ⟨Nat.le_of_ble_eq_true rfl, Nat.le_of_ble_eq_true rfl⟩ ?_
    rintro ⟨⟩ w1 H locs ⟨u5_traced, u6_trace, rfl, hF⟩ hP hD hS
    have hP : va_P D CL [(h_now, .inl (cy 0, 124, .inl v_now)), (h_this, .inr (11, [x_lane, x_many, x_items, x_spare, .int v_status, x_tape, .int v_taped, .int v_faultKind, .int v_faultPlace, .int v_at, .int v_start, .int v_token, .int v_value, .ref h_now, x_draft, x_tried, x_past, .int v_acts, x_images, x_kept, .ref h_trace, .int u5_traced, x_comes, x_standing, x_brought, x_habit, .int v_livedMany])), (h_trace, .inl (cy 0, 16, .inl u6_trace))] H := hP
    have hD : va_D A [(h_now, .inl (cy 0, 124, .inl v_now)), (h_this, .inr (11, [x_lane, x_many, x_items, x_spare, .int v_status, x_tape, .int v_taped, .int v_faultKind, .int v_faultPlace, .int v_at, .int v_start, .int v_token, .int v_value, .ref h_now, x_draft, x_tried, x_past, .int v_acts, x_images, x_kept, .ref h_trace, .int u5_traced, x_comes, x_standing, x_brought, x_habit, .int v_livedMany])), (h_trace, .inl (cy 0, 16, .inl u6_trace))] := hD
    refine W.eq (g2 := F0 m 40 ls []) rfl ?_
    refine lv_aload_n hx hb dX12_widowsSize_40 rfl (lv_at hl 0 rfl) ?_
    refine va_get (D := D) (ci := 11) (v := .ref h_now) (C := RX12) (T := TX12) (N := 27) hx hb hts inTX12 hown hK.1 hP 1 rfl rfl 13 (by decide) (hts _ t4_137) (fun _ h9 => h9) rfl dX12_widowsSize_41 ?_
    refine lv_bipush (v := 6) hx hb dX12_widowsSize_44 (by decide) ?_
    refine lv_bipush (v := 6) hx hb dX12_widowsSize_46 (by decide) ?_
    refine lv_iload_n hx hb dX12_widowsSize_48 rfl (lv_at hl 1 rfl) ?_
    refine lv_imul hx hb dX12_widowsSize_49 ?_
    refine lv_iadd hx hb dX12_widowsSize_50 ?_
    refine lv_iconst (v := 4) hx hb dX12_widowsSize_51 (by decide) ?_
    refine lv_iadd hx hb dX12_widowsSize_52 ?_
    obtain ⟨hi7, hF⟩ := hF
    refine s_iald (j := (((6 + (6 * l1)) + 4)).toNatClampNeg) hx hb hK.1 hP 0 0 rfl rfl hi7 rfl dX12_widowsSize_53 ?_
    refine lv_bipush (v := 100) hx hb dX12_widowsSize_54 (by decide) ?_
    refine lv_isub hx hb dX12_widowsSize_56 ?_
    refine lv_istore_n (lv' := [(3, .int ((v_now ((((6 + (6 * l1)) + 4)).toNatClampNeg)) - 100)), (0, .ref h_this), (1, .int l1), (2, .int (bz l2))]) hx hb dX12_widowsSize_57 rfl hl (by decide) rfl (fun ls hl => ?_)
    refine lv_iload_n hx hb dX12_widowsSize_58 rfl (lv_at hl 3 rfl) ?_
    refine lv_if_eq (tgt := 68) hx hb dX12_widowsSize_59 (by decide) (fun c_ => ?_) (fun c_ => ?_)
    · have hF := hF.1 ((bz_0 _).mp c_)
      refine lv_iload_n hx hb dX12_widowsSize_68 rfl (lv_at hl 0 rfl) ?_
      have hP : va_P D CL [(h_this, .inr (11, [x_lane, x_many, x_items, x_spare, .int v_status, x_tape, .int v_taped, .int v_faultKind, .int v_faultPlace, .int v_at, .int v_start, .int v_token, .int v_value, .ref h_now, x_draft, x_tried, x_past, .int v_acts, x_images, x_kept, .ref h_trace, .int u5_traced, x_comes, x_standing, x_brought, x_habit, .int v_livedMany])), (h_now, .inl (cy 0, 124, .inl v_now)), (h_trace, .inl (cy 0, 16, .inl u6_trace))] H := (hP.sub [1, 0, 2] rfl)
      have hD : va_D A [(h_this, .inr (11, [x_lane, x_many, x_items, x_spare, .int v_status, x_tape, .int v_taped, .int v_faultKind, .int v_faultPlace, .int v_at, .int v_start, .int v_token, .int v_value, .ref h_now, x_draft, x_tried, x_past, .int v_acts, x_images, x_kept, .ref h_trace, .int u5_traced, x_comes, x_standing, x_brought, x_habit, .int v_livedMany])), (h_now, .inl (cy 0, 124, .inl v_now)), (h_trace, .inl (cy 0, 16, .inl u6_trace))] := (hD.sub [1, 0, 2] (by decide) rfl)
      exact rt_i C hQ rfl hP hD hS ⟨u5_traced, u6_trace, rfl, hF⟩ dX12_widowsSize_69
    · have hF := hF.2 ((bz_1 _).mp c_)
      refine lv_iconst (v := 2) hx hb dX12_widowsSize_62 (by decide) ?_
      refine lv_iload_n hx hb dX12_widowsSize_63 rfl (lv_at hl 0 rfl) ?_
      refine lv_imul hx hb dX12_widowsSize_64 ?_
      refine lv_goto (tgt := 69) hx hb dX12_widowsSize_65 (by decide) ?_
      have hP : va_P D CL [(h_this, .inr (11, [x_lane, x_many, x_items, x_spare, .int v_status, x_tape, .int v_taped, .int v_faultKind, .int v_faultPlace, .int v_at, .int v_start, .int v_token, .int v_value, .ref h_now, x_draft, x_tried, x_past, .int v_acts, x_images, x_kept, .ref h_trace, .int u5_traced, x_comes, x_standing, x_brought, x_habit, .int v_livedMany])), (h_now, .inl (cy 0, 124, .inl v_now)), (h_trace, .inl (cy 0, 16, .inl u6_trace))] H := (hP.sub [1, 0, 2] rfl)
      have hD : va_D A [(h_this, .inr (11, [x_lane, x_many, x_items, x_spare, .int v_status, x_tape, .int v_taped, .int v_faultKind, .int v_faultPlace, .int v_at, .int v_start, .int v_token, .int v_value, .ref h_now, x_draft, x_tried, x_past, .int v_acts, x_images, x_kept, .ref h_trace, .int u5_traced, x_comes, x_standing, x_brought, x_habit, .int v_livedMany])), (h_now, .inl (cy 0, 124, .inl v_now)), (h_trace, .inl (cy 0, 16, .inl u6_trace))] := (hD.sub [1, 0, 2] (by decide) rfl)
      exact rt_i C hQ rfl hP hD hS ⟨u5_traced, u6_trace, rfl, hF⟩ dX12_widowsSize_69
  have J_17 : ∀ (l1 : Int32) (k0 : Bool) (w_traced : Int32) (w_trace : Nat → Int32) (H : Heap) (locs : List Loc) (ls : Array Slot), va_P D CL [(h_this, .inr (11, [x_lane, x_many, x_items, x_spare, .int v_status, x_tape, .int v_taped, .int v_faultKind, .int v_faultPlace, .int v_at, .int v_start, .int v_token, .int v_value, .ref h_now, x_draft, x_tried, x_past, .int v_acts, x_images, x_kept, .ref h_trace, .int w_traced, x_comes, x_standing, x_brought, x_habit, .int v_livedMany])), (h_now, .inl (cy 0, 124, .inl v_now)), (h_trace, .inl (cy 0, 16, .inl w_trace))] H → va_D A [(h_this, .inr (11, [x_lane, x_many, x_items, x_spare, .int v_status, x_tape, .int v_taped, .int v_faultKind, .int v_faultPlace, .int v_at, .int v_start, .int v_token, .int v_value, .ref h_now, x_draft, x_tried, x_past, .int v_acts, x_images, x_kept, .ref h_trace, .int w_traced, x_comes, x_standing, x_brought, x_habit, .int v_livedMany])), (h_now, .inl (cy 0, 124, .inl v_now)), (h_trace, .inl (cy 0, 16, .inl w_trace))] → va_S A s.heap H locs → lv_has ls 4 [(0, .ref h_this), (1, .int l1)] → wjX12_widowsSize_17 v_now post l1 k0 w_traced w_trace → W p l e rmX12_widowsSize s m args below meth c H locs 0 0 Q (F0 m 17 ls [.int (bz k0)]) := by
    intro l1 k0 w_traced w_trace H locs ls  hP hD hS hl hF
    unfold wjX12_widowsSize_17 at hF
    refine lv_istore_n (lv' := [(2, .int (bz k0)), (0, .ref h_this), (1, .int l1)]) hx hb dX12_widowsSize_17 rfl hl (by decide) rfl (fun ls hl => ?_)
    refine lv_iload_n hx hb dX12_widowsSize_18 rfl (lv_at hl 0 rfl) ?_
    refine lv_if_eq (tgt := 28) hx hb dX12_widowsSize_19 (by decide) (fun c_ => ?_) (fun c_ => ?_)
    · have hF := hF.1 ((bz_0 _).mp c_)
      exact J_28 l1 k0 w_traced w_trace _ _ ls  hP hD hS (lv_sub hl [1, 2, 0] rfl) hF
    · have hF := hF.2 ((bz_1 _).mp c_)
      refine lv_aload_n hx hb dX12_widowsSize_22 rfl (lv_at hl 1 rfl) ?_
      refine lv_bipush (v := 14) hx hb dX12_widowsSize_23 (by decide) ?_
      refine cV_t (As := [.int 14]) (wr := [(h_now, .inl (cy 0, 124, .inl v_now))]) C hA hP hD hS mfX12_begins t5_225 ts_36 t5_223 (ccX12_begins l D cy h_this h_trace x_lane x_many x_items x_spare x_tape (.ref h_now) x_draft x_tried x_past x_images x_kept x_comes x_standing x_brought x_habit v_status v_taped v_faultKind v_faultPlace v_at v_start v_token v_value v_acts w_traced v_livedMany w_trace 14 _ hF) [0, 2] [1] rfl rfl (by decide) (by decide) (by decide) PO.np 0 11 rfl rfl rfl rfl hl.1 rfl (Nat.le_of_ble_eq_true rfl) dX12_widowsSize_25 ⟨Nat.le_of_ble_eq_true rfl, Nat.le_of_ble_eq_true rfl⟩ ⟨Nat.le_of_ble_eq_true rfl, Nat.le_of_ble_eq_true rfl⟩ ?_
      rintro ⟨⟩ w1 H locs ⟨u2_traced, u3_trace, rfl, hF⟩ hP hD hS
      have hP : va_P D CL [(h_now, .inl (cy 0, 124, .inl v_now)), (h_this, .inr (11, [x_lane, x_many, x_items, x_spare, .int v_status, x_tape, .int v_taped, .int v_faultKind, .int v_faultPlace, .int v_at, .int v_start, .int v_token, .int v_value, .ref h_now, x_draft, x_tried, x_past, .int v_acts, x_images, x_kept, .ref h_trace, .int u2_traced, x_comes, x_standing, x_brought, x_habit, .int v_livedMany])), (h_trace, .inl (cy 0, 16, .inl u3_trace))] H := hP
      have hD : va_D A [(h_now, .inl (cy 0, 124, .inl v_now)), (h_this, .inr (11, [x_lane, x_many, x_items, x_spare, .int v_status, x_tape, .int v_taped, .int v_faultKind, .int v_faultPlace, .int v_at, .int v_start, .int v_token, .int v_value, .ref h_now, x_draft, x_tried, x_past, .int v_acts, x_images, x_kept, .ref h_trace, .int u2_traced, x_comes, x_standing, x_brought, x_habit, .int v_livedMany])), (h_trace, .inl (cy 0, 16, .inl u3_trace))] := hD
      refine W.eq (g2 := F0 m 28 ls []) rfl ?_
      exact J_28 l1 k0 u2_traced u3_trace _ _ ls  (hP.sub [1, 0, 2] rfl) (hD.sub [1, 0, 2] (by decide) rfl) hS (lv_sub hl [1, 2, 0] rfl) hF
  unfold wpX12_widowsSize at hF
  refine lv_aload_n hx hb dX12_widowsSize_0 rfl (lv_at hl 0 rfl) ?_
  refine va_get (D := D) (ci := 11) (v := .ref h_now) (C := RX12) (T := TX12) (N := 27) hx hb hts inTX12 hown hK.1 hP 0 rfl rfl 13 (by decide) (hts _ t4_137) (fun _ h9 => h9) rfl dX12_widowsSize_1 ?_
  refine lv_iload_n hx hb dX12_widowsSize_4 rfl (lv_at hl 1 rfl) ?_
  refine cS_r (As := [.ref h_now, .int p0]) C mfX12_kindIn t5_82 t5_81 (ccX12_kindIn l D cy h_now v_now p0 _ hF) rfl rfl (hP.sub [1] rfl) PR.np rfl hl.1 rfl (Nat.le_of_ble_eq_true rfl) dX12_widowsSize_5 ⟨Nat.le_of_ble_eq_true rfl, Nat.le_of_ble_eq_true rfl⟩ ⟨Nat.le_of_ble_eq_true rfl, Nat.le_of_ble_eq_true rfl⟩ ?_
  intro r1 hF
  refine W.eq (g2 := F0 m 8 ls [.int r1]) rfl ?_
  refine lv_iconst (v := 5) hx hb dX12_widowsSize_8 (by decide) ?_
  refine lv_icmp_ne (tgt := 16) hx hb dX12_widowsSize_9 (by decide) (fun c_ => ?_) (fun c_ => ?_)
  · have hF := hF.1 c_
    refine lv_iconst (v := 0) hx hb dX12_widowsSize_16 (by decide) ?_
    exact J_17 p0 false v_traced v_trace _ _ ls  hP hD hS (lv_sub hl [0, 1] rfl) hF
  · have hF := hF.2 c_
    refine lv_iconst (v := 1) hx hb dX12_widowsSize_12 (by decide) ?_
    refine lv_goto (tgt := 17) hx hb dX12_widowsSize_13 (by decide) ?_
    exact J_17 p0 true v_traced v_trace _ _ ls  hP hD hS (lv_sub hl [0, 1] rfl) hF

def wjX12_farmersSize_28 (v_now : Nat → Int32) (post : Int32 → Int32 → (Nat → Int32) → Prop) (l1 : Int32) (l2 : Bool) (w_traced : Int32) (w_trace : Nat → Int32) : Prop := wpX12_begins 11 w_traced w_trace (fun _ u2_traced u3_trace => wpX12_begins 10 u2_traced u3_trace (fun _ u5_traced u6_trace => vp_in ((6 + (6 * l1)) + 4) 124 ∧ (wpX12_farmersMark l1 u5_traced v_now u6_trace (fun r8 u9_traced u10_trace => (l2 = false → (post ((v_now ((((6 + (6 * l1)) + 4)).toNatClampNeg)) + r8) u9_traced u10_trace)) ∧ (l2 = true → (post (-((v_now ((((6 + (6 * l1)) + 4)).toNatClampNeg)) + r8)) u9_traced u10_trace))))))
def wjX12_farmersSize_17 (v_now : Nat → Int32) (post : Int32 → Int32 → (Nat → Int32) → Prop) (l1 : Int32) (k0 : Bool) (w_traced : Int32) (w_trace : Nat → Int32) : Prop := (k0 = false → (wjX12_farmersSize_28 v_now post l1 k0 w_traced w_trace)) ∧ (k0 = true → (wpX12_begins 12 w_traced w_trace (fun _ u2_traced u3_trace => wjX12_farmersSize_28 v_now post l1 k0 u2_traced u3_trace)))
def wpX12_farmersSize (p0 : Int32) (v_traced : Int32) (v_now : Nat → Int32) (v_trace : Nat → Int32) (post : Int32 → Int32 → (Nat → Int32) → Prop) : Prop := wpX12_kindIn p0 v_now (fun r1 => (¬ r1 = 2 → (wjX12_farmersSize_17 v_now post p0 false v_traced v_trace)) ∧ (r1 = 2 → (wjX12_farmersSize_17 v_now post p0 true v_traced v_trace)))
abbrev miX12_farmersSize : MI := (yX12_farmersSize, cX12_farmersSize, 4, (some .int))
theorem mfX12_farmersSize : MF miX12_farmersSize 1 := ⟨t5_230, t1_8, by decide +kernel⟩
abbrev rmX12_farmersSize : Room := { frames := 2, cells := 0, slots := 0, locals := 44 }
set_option maxHeartbeats 4000000 in
set_option maxRecDepth 100000 in
theorem ccX12_farmersSize (l : Launch) (D : va_G) (cy : Nat → ClassId) (h_this : Nat) (h_now : Nat) (h_trace : Nat) (x_lane : Value) (x_many : Value) (x_items : Value) (x_spare : Value) (x_tape : Value) (x_draft : Value) (x_tried : Value) (x_past : Value) (x_images : Value) (x_kept : Value) (x_comes : Value) (x_standing : Value) (x_brought : Value) (x_habit : Value) (v_status : Int32) (v_taped : Int32) (v_faultKind : Int32) (v_faultPlace : Int32) (v_at : Int32) (v_start : Int32) (v_token : Int32) (v_value : Int32) (v_acts : Int32) (v_traced : Int32) (v_livedMany : Int32) (v_now : Nat → Int32) (v_trace : Nat → Int32) (p0 : Int32) (post : Int32 → Int32 → (Nat → Int32) → Prop) (hF : wpX12_farmersSize p0 v_traced v_now v_trace post) : Ct l D cy miX12_farmersSize rmX12_farmersSize emI NP [.ref h_this, .int p0] [(h_this, .inr (11, [x_lane, x_many, x_items, x_spare, .int v_status, x_tape, .int v_taped, .int v_faultKind, .int v_faultPlace, .int v_at, .int v_start, .int v_token, .int v_value, .ref h_now, x_draft, x_tried, x_past, .int v_acts, x_images, x_kept, .ref h_trace, .int v_traced, x_comes, x_standing, x_brought, x_habit, .int v_livedMany])), (h_now, .inl (cy 0, 124, .inl v_now)), (h_trace, .inl (cy 0, 16, .inl v_trace))] (fun r w1 => ∃ (w_traced : Int32) (w_trace : Nat → Int32), w1 = [(h_this, .inr (11, [x_lane, x_many, x_items, x_spare, .int v_status, x_tape, .int v_taped, .int v_faultKind, .int v_faultPlace, .int v_at, .int v_start, .int v_token, .int v_value, .ref h_now, x_draft, x_tried, x_past, .int v_acts, x_images, x_kept, .ref h_trace, .int w_traced, x_comes, x_standing, x_brought, x_habit, .int v_livedMany])), (h_now, .inl (cy 0, 124, .inl v_now)), (h_trace, .inl (cy 0, 16, .inl w_trace))] ∧ post r w_traced w_trace) := by
  refine Ct.of (by decide) (Nat.le_of_ble_eq_true rfl) ?_
  intro p e s m args below meth c A ls Q C hQ hA hI hP hD hS hl
  obtain ⟨hx, hb, hr, hml, hown, hts, hK, hlk, hnm⟩ := id C
  have hb : c.code = cX12_farmersSize := hb
  have hml : c.maxLocals = 4 := hml
  have hown : s.vm.findClass RX12 = some m.cls := hown
  have hl : lv_has ls 4 [(0, .ref h_this), (1, .int p0)] := hl
  have J_28 : ∀ (l1 : Int32) (l2 : Bool) (w_traced : Int32) (w_trace : Nat → Int32) (H : Heap) (locs : List Loc) (ls : Array Slot), va_P D CL [(h_this, .inr (11, [x_lane, x_many, x_items, x_spare, .int v_status, x_tape, .int v_taped, .int v_faultKind, .int v_faultPlace, .int v_at, .int v_start, .int v_token, .int v_value, .ref h_now, x_draft, x_tried, x_past, .int v_acts, x_images, x_kept, .ref h_trace, .int w_traced, x_comes, x_standing, x_brought, x_habit, .int v_livedMany])), (h_now, .inl (cy 0, 124, .inl v_now)), (h_trace, .inl (cy 0, 16, .inl w_trace))] H → va_D A [(h_this, .inr (11, [x_lane, x_many, x_items, x_spare, .int v_status, x_tape, .int v_taped, .int v_faultKind, .int v_faultPlace, .int v_at, .int v_start, .int v_token, .int v_value, .ref h_now, x_draft, x_tried, x_past, .int v_acts, x_images, x_kept, .ref h_trace, .int w_traced, x_comes, x_standing, x_brought, x_habit, .int v_livedMany])), (h_now, .inl (cy 0, 124, .inl v_now)), (h_trace, .inl (cy 0, 16, .inl w_trace))] → va_S A s.heap H locs → lv_has ls 4 [(0, .ref h_this), (1, .int l1), (2, .int (bz l2))] → wjX12_farmersSize_28 v_now post l1 l2 w_traced w_trace → W p l e rmX12_farmersSize s m args below meth c H locs 0 0 Q (F0 m 28 ls []) := by
    intro l1 l2 w_traced w_trace H locs ls  hP hD hS hl hF
    unfold wjX12_farmersSize_28 at hF
    refine lv_aload_n hx hb dX12_farmersSize_28 rfl (lv_at hl 0 rfl) ?_
    refine lv_bipush (v := 11) hx hb dX12_farmersSize_29 (by decide) ?_
    refine cV_t (As := [.int 11]) (wr := [(h_now, .inl (cy 0, 124, .inl v_now))]) C hA hP hD hS mfX12_begins t5_225 ts_36 t5_223 (ccX12_begins l D cy h_this h_trace x_lane x_many x_items x_spare x_tape (.ref h_now) x_draft x_tried x_past x_images x_kept x_comes x_standing x_brought x_habit v_status v_taped v_faultKind v_faultPlace v_at v_start v_token v_value v_acts w_traced v_livedMany w_trace 11 _ hF) [0, 2] [1] rfl rfl (by decide) (by decide) (by decide) PO.np 0 11 rfl rfl rfl rfl hl.1 rfl (Nat.le_of_ble_eq_true rfl) dX12_farmersSize_31 ⟨Nat.le_of_ble_eq_true rfl, Nat.le_of_ble_eq_true rfl⟩ ⟨Nat.le_of_ble_eq_true rfl, Nat.le_of_ble_eq_true rfl⟩ ?_
    rintro ⟨⟩ w1 H locs ⟨u2_traced, u3_trace, rfl, hF⟩ hP hD hS
    have hP : va_P D CL [(h_now, .inl (cy 0, 124, .inl v_now)), (h_this, .inr (11, [x_lane, x_many, x_items, x_spare, .int v_status, x_tape, .int v_taped, .int v_faultKind, .int v_faultPlace, .int v_at, .int v_start, .int v_token, .int v_value, .ref h_now, x_draft, x_tried, x_past, .int v_acts, x_images, x_kept, .ref h_trace, .int u2_traced, x_comes, x_standing, x_brought, x_habit, .int v_livedMany])), (h_trace, .inl (cy 0, 16, .inl u3_trace))] H := hP
    have hD : va_D A [(h_now, .inl (cy 0, 124, .inl v_now)), (h_this, .inr (11, [x_lane, x_many, x_items, x_spare, .int v_status, x_tape, .int v_taped, .int v_faultKind, .int v_faultPlace, .int v_at, .int v_start, .int v_token, .int v_value, .ref h_now, x_draft, x_tried, x_past, .int v_acts, x_images, x_kept, .ref h_trace, .int u2_traced, x_comes, x_standing, x_brought, x_habit, .int v_livedMany])), (h_trace, .inl (cy 0, 16, .inl u3_trace))] := hD
    refine W.eq (g2 := F0 m 34 ls []) rfl ?_
    refine lv_aload_n hx hb dX12_farmersSize_34 rfl (lv_at hl 0 rfl) ?_
    refine lv_bipush (v := 10) hx hb dX12_farmersSize_35 (by decide) ?_
    refine cV_t (As := [.int 10]) (wr := [(h_now, .inl (cy 0, 124, .inl v_now))]) C hA hP hD hS mfX12_begins t5_225 ts_36 t5_223 (ccX12_begins l D cy h_this h_trace x_lane x_many x_items x_spare x_tape (.ref h_now) x_draft x_tried x_past x_images x_kept x_comes x_standing x_brought x_habit v_status v_taped v_faultKind v_faultPlace v_at v_start v_token v_value v_acts u2_traced v_livedMany u3_trace 10 _ hF) [1, 2] [0] rfl rfl (by decide) (by decide) (by decide) PO.np 1 11 rfl rfl rfl rfl hl.1 rfl (Nat.le_of_ble_eq_true rfl) dX12_farmersSize_37 ⟨Nat.le_of_ble_eq_true rfl, Nat.le_of_ble_eq_true rfl⟩ ⟨Nat.le_of_ble_eq_true rfl, Nat.le_of_ble_eq_true rfl⟩ ?_
    rintro ⟨⟩ w1 H locs ⟨u5_traced, u6_trace, rfl, hF⟩ hP hD hS
    have hP : va_P D CL [(h_now, .inl (cy 0, 124, .inl v_now)), (h_this, .inr (11, [x_lane, x_many, x_items, x_spare, .int v_status, x_tape, .int v_taped, .int v_faultKind, .int v_faultPlace, .int v_at, .int v_start, .int v_token, .int v_value, .ref h_now, x_draft, x_tried, x_past, .int v_acts, x_images, x_kept, .ref h_trace, .int u5_traced, x_comes, x_standing, x_brought, x_habit, .int v_livedMany])), (h_trace, .inl (cy 0, 16, .inl u6_trace))] H := hP
    have hD : va_D A [(h_now, .inl (cy 0, 124, .inl v_now)), (h_this, .inr (11, [x_lane, x_many, x_items, x_spare, .int v_status, x_tape, .int v_taped, .int v_faultKind, .int v_faultPlace, .int v_at, .int v_start, .int v_token, .int v_value, .ref h_now, x_draft, x_tried, x_past, .int v_acts, x_images, x_kept, .ref h_trace, .int u5_traced, x_comes, x_standing, x_brought, x_habit, .int v_livedMany])), (h_trace, .inl (cy 0, 16, .inl u6_trace))] := hD
    refine W.eq (g2 := F0 m 40 ls []) rfl ?_
    refine lv_aload_n hx hb dX12_farmersSize_40 rfl (lv_at hl 0 rfl) ?_
    refine va_get (D := D) (ci := 11) (v := .ref h_now) (C := RX12) (T := TX12) (N := 27) hx hb hts inTX12 hown hK.1 hP 1 rfl rfl 13 (by decide) (hts _ t4_137) (fun _ h9 => h9) rfl dX12_farmersSize_41 ?_
    refine lv_bipush (v := 6) hx hb dX12_farmersSize_44 (by decide) ?_
    refine lv_bipush (v := 6) hx hb dX12_farmersSize_46 (by decide) ?_
    refine lv_iload_n hx hb dX12_farmersSize_48 rfl (lv_at hl 1 rfl) ?_
    refine lv_imul hx hb dX12_farmersSize_49 ?_
    refine lv_iadd hx hb dX12_farmersSize_50 ?_
    refine lv_iconst (v := 4) hx hb dX12_farmersSize_51 (by decide) ?_
    refine lv_iadd hx hb dX12_farmersSize_52 ?_
    obtain ⟨hi7, hF⟩ := hF
    refine s_iald (j := (((6 + (6 * l1)) + 4)).toNatClampNeg) hx hb hK.1 hP 0 0 rfl rfl hi7 rfl dX12_farmersSize_53 ?_
    refine lv_aload_n hx hb dX12_farmersSize_54 rfl (lv_at hl 0 rfl) ?_
    refine lv_iload_n hx hb dX12_farmersSize_55 rfl (lv_at hl 1 rfl) ?_
    refine cV_t (As := [.int l1]) (wr := []) C hA hP hD hS mfX12_farmersMark t5_233 ts_38 t5_231 (ccX12_farmersMark l D cy h_this h_now h_trace x_lane x_many x_items x_spare x_tape x_draft x_tried x_past x_images x_kept x_comes x_standing x_brought x_habit v_status v_taped v_faultKind v_faultPlace v_at v_start v_token v_value v_acts u5_traced v_livedMany v_now u6_trace l1 _ hF) [1, 0, 2] [] rfl rfl (by decide) (by decide) (by decide) PO.np 1 11 rfl rfl rfl rfl hl.1 rfl (Nat.le_of_ble_eq_true rfl) dX12_farmersSize_56 ⟨Nat.le_of_ble_eq_true rfl, Nat.le_of_ble_eq_true rfl⟩ ⟨Nat.le_of_ble_eq_true rfl, Nat.le_of_ble_eq_true rfl⟩ ?_
    rintro r8 w1 H locs ⟨u9_traced, u10_trace, rfl, hF⟩ hP hD hS
    have hP : va_P D CL [(h_this, .inr (11, [x_lane, x_many, x_items, x_spare, .int v_status, x_tape, .int v_taped, .int v_faultKind, .int v_faultPlace, .int v_at, .int v_start, .int v_token, .int v_value, .ref h_now, x_draft, x_tried, x_past, .int v_acts, x_images, x_kept, .ref h_trace, .int u9_traced, x_comes, x_standing, x_brought, x_habit, .int v_livedMany])), (h_now, .inl (cy 0, 124, .inl v_now)), (h_trace, .inl (cy 0, 16, .inl u10_trace))] H := hP
    have hD : va_D A [(h_this, .inr (11, [x_lane, x_many, x_items, x_spare, .int v_status, x_tape, .int v_taped, .int v_faultKind, .int v_faultPlace, .int v_at, .int v_start, .int v_token, .int v_value, .ref h_now, x_draft, x_tried, x_past, .int v_acts, x_images, x_kept, .ref h_trace, .int u9_traced, x_comes, x_standing, x_brought, x_habit, .int v_livedMany])), (h_now, .inl (cy 0, 124, .inl v_now)), (h_trace, .inl (cy 0, 16, .inl u10_trace))] := hD
    refine W.eq (g2 := F0 m 59 ls [.int r8, .int (v_now ((((6 + (6 * l1)) + 4)).toNatClampNeg))]) rfl ?_
    refine lv_iadd hx hb dX12_farmersSize_59 ?_
    refine lv_istore_n (lv' := [(3, .int ((v_now ((((6 + (6 * l1)) + 4)).toNatClampNeg)) + r8)), (0, .ref h_this), (1, .int l1), (2, .int (bz l2))]) hx hb dX12_farmersSize_60 rfl hl (by decide) rfl (fun ls hl => ?_)
    refine lv_iload_n hx hb dX12_farmersSize_61 rfl (lv_at hl 3 rfl) ?_
    refine lv_if_eq (tgt := 70) hx hb dX12_farmersSize_62 (by decide) (fun c_ => ?_) (fun c_ => ?_)
    · have hF := hF.1 ((bz_0 _).mp c_)
      refine lv_iload_n hx hb dX12_farmersSize_70 rfl (lv_at hl 0 rfl) ?_
      exact rt_i C hQ rfl hP hD hS ⟨u9_traced, u10_trace, rfl, hF⟩ dX12_farmersSize_71
    · have hF := hF.2 ((bz_1 _).mp c_)
      refine lv_iload_n hx hb dX12_farmersSize_65 rfl (lv_at hl 0 rfl) ?_
      refine lv_ineg hx hb dX12_farmersSize_66 ?_
      refine lv_goto (tgt := 71) hx hb dX12_farmersSize_67 (by decide) ?_
      exact rt_i C hQ rfl hP hD hS ⟨u9_traced, u10_trace, rfl, hF⟩ dX12_farmersSize_71
  have J_17 : ∀ (l1 : Int32) (k0 : Bool) (w_traced : Int32) (w_trace : Nat → Int32) (H : Heap) (locs : List Loc) (ls : Array Slot), va_P D CL [(h_this, .inr (11, [x_lane, x_many, x_items, x_spare, .int v_status, x_tape, .int v_taped, .int v_faultKind, .int v_faultPlace, .int v_at, .int v_start, .int v_token, .int v_value, .ref h_now, x_draft, x_tried, x_past, .int v_acts, x_images, x_kept, .ref h_trace, .int w_traced, x_comes, x_standing, x_brought, x_habit, .int v_livedMany])), (h_now, .inl (cy 0, 124, .inl v_now)), (h_trace, .inl (cy 0, 16, .inl w_trace))] H → va_D A [(h_this, .inr (11, [x_lane, x_many, x_items, x_spare, .int v_status, x_tape, .int v_taped, .int v_faultKind, .int v_faultPlace, .int v_at, .int v_start, .int v_token, .int v_value, .ref h_now, x_draft, x_tried, x_past, .int v_acts, x_images, x_kept, .ref h_trace, .int w_traced, x_comes, x_standing, x_brought, x_habit, .int v_livedMany])), (h_now, .inl (cy 0, 124, .inl v_now)), (h_trace, .inl (cy 0, 16, .inl w_trace))] → va_S A s.heap H locs → lv_has ls 4 [(0, .ref h_this), (1, .int l1)] → wjX12_farmersSize_17 v_now post l1 k0 w_traced w_trace → W p l e rmX12_farmersSize s m args below meth c H locs 0 0 Q (F0 m 17 ls [.int (bz k0)]) := by
    intro l1 k0 w_traced w_trace H locs ls  hP hD hS hl hF
    unfold wjX12_farmersSize_17 at hF
    refine lv_istore_n (lv' := [(2, .int (bz k0)), (0, .ref h_this), (1, .int l1)]) hx hb dX12_farmersSize_17 rfl hl (by decide) rfl (fun ls hl => ?_)
    refine lv_iload_n hx hb dX12_farmersSize_18 rfl (lv_at hl 0 rfl) ?_
    refine lv_if_eq (tgt := 28) hx hb dX12_farmersSize_19 (by decide) (fun c_ => ?_) (fun c_ => ?_)
    · have hF := hF.1 ((bz_0 _).mp c_)
      exact J_28 l1 k0 w_traced w_trace _ _ ls  hP hD hS (lv_sub hl [1, 2, 0] rfl) hF
    · have hF := hF.2 ((bz_1 _).mp c_)
      refine lv_aload_n hx hb dX12_farmersSize_22 rfl (lv_at hl 1 rfl) ?_
      refine lv_bipush (v := 12) hx hb dX12_farmersSize_23 (by decide) ?_
      refine cV_t (As := [.int 12]) (wr := [(h_now, .inl (cy 0, 124, .inl v_now))]) C hA hP hD hS mfX12_begins t5_225 ts_36 t5_223 (ccX12_begins l D cy h_this h_trace x_lane x_many x_items x_spare x_tape (.ref h_now) x_draft x_tried x_past x_images x_kept x_comes x_standing x_brought x_habit v_status v_taped v_faultKind v_faultPlace v_at v_start v_token v_value v_acts w_traced v_livedMany w_trace 12 _ hF) [0, 2] [1] rfl rfl (by decide) (by decide) (by decide) PO.np 0 11 rfl rfl rfl rfl hl.1 rfl (Nat.le_of_ble_eq_true rfl) dX12_farmersSize_25 ⟨Nat.le_of_ble_eq_true rfl, Nat.le_of_ble_eq_true rfl⟩ ⟨Nat.le_of_ble_eq_true rfl, Nat.le_of_ble_eq_true rfl⟩ ?_
      rintro ⟨⟩ w1 H locs ⟨u2_traced, u3_trace, rfl, hF⟩ hP hD hS
      have hP : va_P D CL [(h_now, .inl (cy 0, 124, .inl v_now)), (h_this, .inr (11, [x_lane, x_many, x_items, x_spare, .int v_status, x_tape, .int v_taped, .int v_faultKind, .int v_faultPlace, .int v_at, .int v_start, .int v_token, .int v_value, .ref h_now, x_draft, x_tried, x_past, .int v_acts, x_images, x_kept, .ref h_trace, .int u2_traced, x_comes, x_standing, x_brought, x_habit, .int v_livedMany])), (h_trace, .inl (cy 0, 16, .inl u3_trace))] H := hP
      have hD : va_D A [(h_now, .inl (cy 0, 124, .inl v_now)), (h_this, .inr (11, [x_lane, x_many, x_items, x_spare, .int v_status, x_tape, .int v_taped, .int v_faultKind, .int v_faultPlace, .int v_at, .int v_start, .int v_token, .int v_value, .ref h_now, x_draft, x_tried, x_past, .int v_acts, x_images, x_kept, .ref h_trace, .int u2_traced, x_comes, x_standing, x_brought, x_habit, .int v_livedMany])), (h_trace, .inl (cy 0, 16, .inl u3_trace))] := hD
      refine W.eq (g2 := F0 m 28 ls []) rfl ?_
      exact J_28 l1 k0 u2_traced u3_trace _ _ ls  (hP.sub [1, 0, 2] rfl) (hD.sub [1, 0, 2] (by decide) rfl) hS (lv_sub hl [1, 2, 0] rfl) hF
  unfold wpX12_farmersSize at hF
  refine lv_aload_n hx hb dX12_farmersSize_0 rfl (lv_at hl 0 rfl) ?_
  refine va_get (D := D) (ci := 11) (v := .ref h_now) (C := RX12) (T := TX12) (N := 27) hx hb hts inTX12 hown hK.1 hP 0 rfl rfl 13 (by decide) (hts _ t4_137) (fun _ h9 => h9) rfl dX12_farmersSize_1 ?_
  refine lv_iload_n hx hb dX12_farmersSize_4 rfl (lv_at hl 1 rfl) ?_
  refine cS_r (As := [.ref h_now, .int p0]) C mfX12_kindIn t5_82 t5_81 (ccX12_kindIn l D cy h_now v_now p0 _ hF) rfl rfl (hP.sub [1] rfl) PR.np rfl hl.1 rfl (Nat.le_of_ble_eq_true rfl) dX12_farmersSize_5 ⟨Nat.le_of_ble_eq_true rfl, Nat.le_of_ble_eq_true rfl⟩ ⟨Nat.le_of_ble_eq_true rfl, Nat.le_of_ble_eq_true rfl⟩ ?_
  intro r1 hF
  refine W.eq (g2 := F0 m 8 ls [.int r1]) rfl ?_
  refine lv_iconst (v := 2) hx hb dX12_farmersSize_8 (by decide) ?_
  refine lv_icmp_ne (tgt := 16) hx hb dX12_farmersSize_9 (by decide) (fun c_ => ?_) (fun c_ => ?_)
  · have hF := hF.1 c_
    refine lv_iconst (v := 0) hx hb dX12_farmersSize_16 (by decide) ?_
    exact J_17 p0 false v_traced v_trace _ _ ls  hP hD hS (lv_sub hl [0, 1] rfl) hF
  · have hF := hF.2 c_
    refine lv_iconst (v := 1) hx hb dX12_farmersSize_12 (by decide) ?_
    refine lv_goto (tgt := 17) hx hb dX12_farmersSize_13 (by decide) ?_
    exact J_17 p0 true v_traced v_trace _ _ ls  hP hD hS (lv_sub hl [0, 1] rfl) hF

def wpX12_widowsMark (p0 : Int32) (v_traced : Int32) (v_trace : Nat → Int32) (v_now : Nat → Int32) (post : Int32 → Int32 → (Nat → Int32) → Prop) : Prop := wpX12_begins 23 v_traced v_trace (fun _ u2_traced u3_trace => wpX12_begins 20 u2_traced u3_trace (fun _ u5_traced u6_trace => wpX12_widowsSize p0 u5_traced v_now u6_trace (fun r7 u8_traced u9_trace => post (p0 - r7) u8_traced u9_trace)))
abbrev miX12_widowsMark : MI := (yX12_widowsMark, cX12_widowsMark, 2, (some .int))
theorem mfX12_widowsMark : MF miX12_widowsMark 1 := ⟨t5_238, t1_8, by decide +kernel⟩
abbrev rmX12_widowsMark : Room := { frames := 2, cells := 0, slots := 0, locals := 44 }
set_option maxHeartbeats 4000000 in
set_option maxRecDepth 100000 in
theorem ccX12_widowsMark (l : Launch) (D : va_G) (cy : Nat → ClassId) (h_this : Nat) (h_trace : Nat) (h_now : Nat) (x_lane : Value) (x_many : Value) (x_items : Value) (x_spare : Value) (x_tape : Value) (x_draft : Value) (x_tried : Value) (x_past : Value) (x_images : Value) (x_kept : Value) (x_comes : Value) (x_standing : Value) (x_brought : Value) (x_habit : Value) (v_status : Int32) (v_taped : Int32) (v_faultKind : Int32) (v_faultPlace : Int32) (v_at : Int32) (v_start : Int32) (v_token : Int32) (v_value : Int32) (v_acts : Int32) (v_traced : Int32) (v_livedMany : Int32) (v_trace : Nat → Int32) (v_now : Nat → Int32) (p0 : Int32) (post : Int32 → Int32 → (Nat → Int32) → Prop) (hF : wpX12_widowsMark p0 v_traced v_trace v_now post) : Ct l D cy miX12_widowsMark rmX12_widowsMark emI NP [.ref h_this, .int p0] [(h_this, .inr (11, [x_lane, x_many, x_items, x_spare, .int v_status, x_tape, .int v_taped, .int v_faultKind, .int v_faultPlace, .int v_at, .int v_start, .int v_token, .int v_value, .ref h_now, x_draft, x_tried, x_past, .int v_acts, x_images, x_kept, .ref h_trace, .int v_traced, x_comes, x_standing, x_brought, x_habit, .int v_livedMany])), (h_trace, .inl (cy 0, 16, .inl v_trace)), (h_now, .inl (cy 0, 124, .inl v_now))] (fun r w1 => ∃ (w_traced : Int32) (w_trace : Nat → Int32), w1 = [(h_this, .inr (11, [x_lane, x_many, x_items, x_spare, .int v_status, x_tape, .int v_taped, .int v_faultKind, .int v_faultPlace, .int v_at, .int v_start, .int v_token, .int v_value, .ref h_now, x_draft, x_tried, x_past, .int v_acts, x_images, x_kept, .ref h_trace, .int w_traced, x_comes, x_standing, x_brought, x_habit, .int v_livedMany])), (h_trace, .inl (cy 0, 16, .inl w_trace)), (h_now, .inl (cy 0, 124, .inl v_now))] ∧ post r w_traced w_trace) := by
  refine Ct.of (by decide) (Nat.le_of_ble_eq_true rfl) ?_
  intro p e s m args below meth c A ls Q C hQ hA hI hP hD hS hl
  obtain ⟨hx, hb, hr, hml, hown, hts, hK, hlk, hnm⟩ := id C
  have hb : c.code = cX12_widowsMark := hb
  have hml : c.maxLocals = 2 := hml
  have hown : s.vm.findClass RX12 = some m.cls := hown
  have hl : lv_has ls 2 [(0, .ref h_this), (1, .int p0)] := hl
  unfold wpX12_widowsMark at hF
  refine lv_aload_n hx hb dX12_widowsMark_0 rfl (lv_at hl 0 rfl) ?_
  refine lv_bipush (v := 23) hx hb dX12_widowsMark_1 (by decide) ?_
  refine cV_t (As := [.int 23]) (wr := [(h_now, .inl (cy 0, 124, .inl v_now))]) C hA hP hD hS mfX12_begins t5_225 ts_36 t5_223 (ccX12_begins l D cy h_this h_trace x_lane x_many x_items x_spare x_tape (.ref h_now) x_draft x_tried x_past x_images x_kept x_comes x_standing x_brought x_habit v_status v_taped v_faultKind v_faultPlace v_at v_start v_token v_value v_acts v_traced v_livedMany v_trace 23 _ hF) [0, 1] [2] rfl rfl (by decide) (by decide) (by decide) PO.np 0 11 rfl rfl rfl rfl hl.1 rfl (Nat.le_of_ble_eq_true rfl) dX12_widowsMark_3 ⟨Nat.le_of_ble_eq_true rfl, Nat.le_of_ble_eq_true rfl⟩ ⟨Nat.le_of_ble_eq_true rfl, Nat.le_of_ble_eq_true rfl⟩ ?_
  rintro ⟨⟩ w1 H locs ⟨u2_traced, u3_trace, rfl, hF⟩ hP hD hS
  have hP : va_P D CL [(h_now, .inl (cy 0, 124, .inl v_now)), (h_this, .inr (11, [x_lane, x_many, x_items, x_spare, .int v_status, x_tape, .int v_taped, .int v_faultKind, .int v_faultPlace, .int v_at, .int v_start, .int v_token, .int v_value, .ref h_now, x_draft, x_tried, x_past, .int v_acts, x_images, x_kept, .ref h_trace, .int u2_traced, x_comes, x_standing, x_brought, x_habit, .int v_livedMany])), (h_trace, .inl (cy 0, 16, .inl u3_trace))] H := hP
  have hD : va_D A [(h_now, .inl (cy 0, 124, .inl v_now)), (h_this, .inr (11, [x_lane, x_many, x_items, x_spare, .int v_status, x_tape, .int v_taped, .int v_faultKind, .int v_faultPlace, .int v_at, .int v_start, .int v_token, .int v_value, .ref h_now, x_draft, x_tried, x_past, .int v_acts, x_images, x_kept, .ref h_trace, .int u2_traced, x_comes, x_standing, x_brought, x_habit, .int v_livedMany])), (h_trace, .inl (cy 0, 16, .inl u3_trace))] := hD
  refine W.eq (g2 := F0 m 6 ls []) rfl ?_
  refine lv_aload_n hx hb dX12_widowsMark_6 rfl (lv_at hl 0 rfl) ?_
  refine lv_bipush (v := 20) hx hb dX12_widowsMark_7 (by decide) ?_
  refine cV_t (As := [.int 20]) (wr := [(h_now, .inl (cy 0, 124, .inl v_now))]) C hA hP hD hS mfX12_begins t5_225 ts_36 t5_223 (ccX12_begins l D cy h_this h_trace x_lane x_many x_items x_spare x_tape (.ref h_now) x_draft x_tried x_past x_images x_kept x_comes x_standing x_brought x_habit v_status v_taped v_faultKind v_faultPlace v_at v_start v_token v_value v_acts u2_traced v_livedMany u3_trace 20 _ hF) [1, 2] [0] rfl rfl (by decide) (by decide) (by decide) PO.np 1 11 rfl rfl rfl rfl hl.1 rfl (Nat.le_of_ble_eq_true rfl) dX12_widowsMark_9 ⟨Nat.le_of_ble_eq_true rfl, Nat.le_of_ble_eq_true rfl⟩ ⟨Nat.le_of_ble_eq_true rfl, Nat.le_of_ble_eq_true rfl⟩ ?_
  rintro ⟨⟩ w1 H locs ⟨u5_traced, u6_trace, rfl, hF⟩ hP hD hS
  have hP : va_P D CL [(h_now, .inl (cy 0, 124, .inl v_now)), (h_this, .inr (11, [x_lane, x_many, x_items, x_spare, .int v_status, x_tape, .int v_taped, .int v_faultKind, .int v_faultPlace, .int v_at, .int v_start, .int v_token, .int v_value, .ref h_now, x_draft, x_tried, x_past, .int v_acts, x_images, x_kept, .ref h_trace, .int u5_traced, x_comes, x_standing, x_brought, x_habit, .int v_livedMany])), (h_trace, .inl (cy 0, 16, .inl u6_trace))] H := hP
  have hD : va_D A [(h_now, .inl (cy 0, 124, .inl v_now)), (h_this, .inr (11, [x_lane, x_many, x_items, x_spare, .int v_status, x_tape, .int v_taped, .int v_faultKind, .int v_faultPlace, .int v_at, .int v_start, .int v_token, .int v_value, .ref h_now, x_draft, x_tried, x_past, .int v_acts, x_images, x_kept, .ref h_trace, .int u5_traced, x_comes, x_standing, x_brought, x_habit, .int v_livedMany])), (h_trace, .inl (cy 0, 16, .inl u6_trace))] := hD
  refine W.eq (g2 := F0 m 12 ls []) rfl ?_
  refine lv_iload_n hx hb dX12_widowsMark_12 rfl (lv_at hl 1 rfl) ?_
  refine lv_aload_n hx hb dX12_widowsMark_13 rfl (lv_at hl 0 rfl) ?_
  refine lv_iload_n hx hb dX12_widowsMark_14 rfl (lv_at hl 1 rfl) ?_
  refine cV_t (As := [.int p0]) (wr := []) C hA hP hD hS mfX12_widowsSize t5_221 ts_35 t5_219 (ccX12_widowsSize l D cy h_this h_now h_trace x_lane x_many x_items x_spare x_tape x_draft x_tried x_past x_images x_kept x_comes x_standing x_brought x_habit v_status v_taped v_faultKind v_faultPlace v_at v_start v_token v_value v_acts u5_traced v_livedMany v_now u6_trace p0 _ hF) [1, 0, 2] [] rfl rfl (by decide) (by decide) (by decide) PO.np 1 11 rfl rfl rfl rfl hl.1 rfl (Nat.le_of_ble_eq_true rfl) dX12_widowsMark_15 ⟨Nat.le_of_ble_eq_true rfl, Nat.le_of_ble_eq_true rfl⟩ ⟨Nat.le_of_ble_eq_true rfl, Nat.le_of_ble_eq_true rfl⟩ ?_
  rintro r7 w1 H locs ⟨u8_traced, u9_trace, rfl, hF⟩ hP hD hS
  have hP : va_P D CL [(h_this, .inr (11, [x_lane, x_many, x_items, x_spare, .int v_status, x_tape, .int v_taped, .int v_faultKind, .int v_faultPlace, .int v_at, .int v_start, .int v_token, .int v_value, .ref h_now, x_draft, x_tried, x_past, .int v_acts, x_images, x_kept, .ref h_trace, .int u8_traced, x_comes, x_standing, x_brought, x_habit, .int v_livedMany])), (h_now, .inl (cy 0, 124, .inl v_now)), (h_trace, .inl (cy 0, 16, .inl u9_trace))] H := hP
  have hD : va_D A [(h_this, .inr (11, [x_lane, x_many, x_items, x_spare, .int v_status, x_tape, .int v_taped, .int v_faultKind, .int v_faultPlace, .int v_at, .int v_start, .int v_token, .int v_value, .ref h_now, x_draft, x_tried, x_past, .int v_acts, x_images, x_kept, .ref h_trace, .int u8_traced, x_comes, x_standing, x_brought, x_habit, .int v_livedMany])), (h_now, .inl (cy 0, 124, .inl v_now)), (h_trace, .inl (cy 0, 16, .inl u9_trace))] := hD
  refine W.eq (g2 := F0 m 18 ls [.int r7, .int p0]) rfl ?_
  refine lv_isub hx hb dX12_widowsMark_18 ?_
  have hP : va_P D CL [(h_this, .inr (11, [x_lane, x_many, x_items, x_spare, .int v_status, x_tape, .int v_taped, .int v_faultKind, .int v_faultPlace, .int v_at, .int v_start, .int v_token, .int v_value, .ref h_now, x_draft, x_tried, x_past, .int v_acts, x_images, x_kept, .ref h_trace, .int u8_traced, x_comes, x_standing, x_brought, x_habit, .int v_livedMany])), (h_trace, .inl (cy 0, 16, .inl u9_trace)), (h_now, .inl (cy 0, 124, .inl v_now))] H := (hP.sub [0, 2, 1] rfl)
  have hD : va_D A [(h_this, .inr (11, [x_lane, x_many, x_items, x_spare, .int v_status, x_tape, .int v_taped, .int v_faultKind, .int v_faultPlace, .int v_at, .int v_start, .int v_token, .int v_value, .ref h_now, x_draft, x_tried, x_past, .int v_acts, x_images, x_kept, .ref h_trace, .int u8_traced, x_comes, x_standing, x_brought, x_habit, .int v_livedMany])), (h_trace, .inl (cy 0, 16, .inl u9_trace)), (h_now, .inl (cy 0, 124, .inl v_now))] := (hD.sub [0, 2, 1] (by decide) rfl)
  exact rt_i C hQ rfl hP hD hS ⟨u8_traced, u9_trace, rfl, hF⟩ dX12_widowsMark_19

def wjX12_ask_42 (v_now : Nat → Int32) (post : Int32 → Int32 → (Nat → Int32) → Prop) (l1 : Int32) (l2 : Int32) (k0 : Bool) (w_traced : Int32) (w_trace : Nat → Int32) : Prop := (¬ l2 = 0 → ((k0 = false → (wpX12_farmersMark l1 w_traced v_now w_trace (fun r1 u2_traced u3_trace => post r1 u2_traced u3_trace))) ∧ (k0 = true → (wpX12_widowsMark l1 w_traced w_trace v_now (fun r4 u5_traced u6_trace => post r4 u5_traced u6_trace))))) ∧ (l2 = 0 → ((k0 = false → (wpX12_farmersSize l1 w_traced v_now w_trace (fun r7 u8_traced u9_trace => post r7 u8_traced u9_trace))) ∧ (k0 = true → (wpX12_widowsSize l1 w_traced v_now w_trace (fun r10 u11_traced u12_trace => post r10 u11_traced u12_trace)))))
def wpX12_ask (p0 : Int32) (p1 : Int32) (v_traced : Int32) (v_now : Nat → Int32) (v_trace : Nat → Int32) (post : Int32 → Int32 → (Nat → Int32) → Prop) : Prop := wpX12_isPerson p0 v_now (fun r1 => (r1 = false → (post (-1000001) v_traced v_trace)) ∧ (r1 = true → (wpX12_in p1 0 1 (fun r2 => (r2 = true → (wpX12_kindIn p0 v_now (fun r3 => (r3 < 4 → (wjX12_ask_42 v_now post p0 p1 false 0 v_trace)) ∧ (¬ r3 < 4 → (wjX12_ask_42 v_now post p0 p1 true 0 v_trace))))) ∧ (r2 = false → (post (-1000001) v_traced v_trace))))))
abbrev miX12_ask : MI := (yX12_ask, cX12_ask, 4, (some .int))
theorem mfX12_ask : MF miX12_ask 2 := ⟨t5_218, t1_8, by decide +kernel⟩
abbrev rmX12_ask : Room := { frames := 3, cells := 0, slots := 0, locals := 67 }
set_option maxHeartbeats 4000000 in
set_option maxRecDepth 100000 in
theorem ccX12_ask (l : Launch) (D : va_G) (cy : Nat → ClassId) (h_this : Nat) (h_now : Nat) (h_trace : Nat) (x_lane : Value) (x_many : Value) (x_items : Value) (x_spare : Value) (x_tape : Value) (x_draft : Value) (x_tried : Value) (x_past : Value) (x_images : Value) (x_kept : Value) (x_comes : Value) (x_standing : Value) (x_brought : Value) (x_habit : Value) (v_status : Int32) (v_taped : Int32) (v_faultKind : Int32) (v_faultPlace : Int32) (v_at : Int32) (v_start : Int32) (v_token : Int32) (v_value : Int32) (v_acts : Int32) (v_traced : Int32) (v_livedMany : Int32) (v_now : Nat → Int32) (v_trace : Nat → Int32) (p0 : Int32) (p1 : Int32) (post : Int32 → Int32 → (Nat → Int32) → Prop) (hF : wpX12_ask p0 p1 v_traced v_now v_trace post) : Ct l D cy miX12_ask rmX12_ask emI NP [.ref h_this, .int p0, .int p1] [(h_this, .inr (11, [x_lane, x_many, x_items, x_spare, .int v_status, x_tape, .int v_taped, .int v_faultKind, .int v_faultPlace, .int v_at, .int v_start, .int v_token, .int v_value, .ref h_now, x_draft, x_tried, x_past, .int v_acts, x_images, x_kept, .ref h_trace, .int v_traced, x_comes, x_standing, x_brought, x_habit, .int v_livedMany])), (h_now, .inl (cy 0, 124, .inl v_now)), (h_trace, .inl (cy 0, 16, .inl v_trace))] (fun r w1 => ∃ (w_traced : Int32) (w_trace : Nat → Int32), w1 = [(h_this, .inr (11, [x_lane, x_many, x_items, x_spare, .int v_status, x_tape, .int v_taped, .int v_faultKind, .int v_faultPlace, .int v_at, .int v_start, .int v_token, .int v_value, .ref h_now, x_draft, x_tried, x_past, .int v_acts, x_images, x_kept, .ref h_trace, .int w_traced, x_comes, x_standing, x_brought, x_habit, .int v_livedMany])), (h_now, .inl (cy 0, 124, .inl v_now)), (h_trace, .inl (cy 0, 16, .inl w_trace))] ∧ post r w_traced w_trace) := by
  refine Ct.of (by decide) (Nat.le_of_ble_eq_true rfl) ?_
  intro p e s m args below meth c A ls Q C hQ hA hI hP hD hS hl
  obtain ⟨hx, hb, hr, hml, hown, hts, hK, hlk, hnm⟩ := id C
  have hb : c.code = cX12_ask := hb
  have hml : c.maxLocals = 4 := hml
  have hown : s.vm.findClass RX12 = some m.cls := hown
  have hl : lv_has ls 4 [(0, .ref h_this), (1, .int p0), (2, .int p1)] := hl
  have J_42 : ∀ (l1 : Int32) (l2 : Int32) (k0 : Bool) (w_traced : Int32) (w_trace : Nat → Int32) (H : Heap) (locs : List Loc) (ls : Array Slot), va_P D CL [(h_this, .inr (11, [x_lane, x_many, x_items, x_spare, .int v_status, x_tape, .int v_taped, .int v_faultKind, .int v_faultPlace, .int v_at, .int v_start, .int v_token, .int v_value, .ref h_now, x_draft, x_tried, x_past, .int v_acts, x_images, x_kept, .ref h_trace, .int w_traced, x_comes, x_standing, x_brought, x_habit, .int v_livedMany])), (h_now, .inl (cy 0, 124, .inl v_now)), (h_trace, .inl (cy 0, 16, .inl w_trace))] H → va_D A [(h_this, .inr (11, [x_lane, x_many, x_items, x_spare, .int v_status, x_tape, .int v_taped, .int v_faultKind, .int v_faultPlace, .int v_at, .int v_start, .int v_token, .int v_value, .ref h_now, x_draft, x_tried, x_past, .int v_acts, x_images, x_kept, .ref h_trace, .int w_traced, x_comes, x_standing, x_brought, x_habit, .int v_livedMany])), (h_now, .inl (cy 0, 124, .inl v_now)), (h_trace, .inl (cy 0, 16, .inl w_trace))] → va_S A s.heap H locs → lv_has ls 4 [(0, .ref h_this), (1, .int l1), (2, .int l2)] → wjX12_ask_42 v_now post l1 l2 k0 w_traced w_trace → W p l e rmX12_ask s m args below meth c H locs 0 0 Q (F0 m 42 ls [.int (bz k0)]) := by
    intro l1 l2 k0 w_traced w_trace H locs ls  hP hD hS hl hF
    unfold wjX12_ask_42 at hF
    refine lv_istore_n (lv' := [(3, .int (bz k0)), (0, .ref h_this), (1, .int l1), (2, .int l2)]) hx hb dX12_ask_42 rfl hl (by decide) rfl (fun ls hl => ?_)
    refine lv_iload_n hx hb dX12_ask_43 rfl (lv_at hl 3 rfl) ?_
    refine lv_if_ne (tgt := 65) hx hb dX12_ask_44 (by decide) (fun c_ => ?_) (fun c_ => ?_)
    · have hF := hF.1 c_
      refine lv_iload_n hx hb dX12_ask_65 rfl (lv_at hl 0 rfl) ?_
      refine lv_if_eq (tgt := 77) hx hb dX12_ask_66 (by decide) (fun c_ => ?_) (fun c_ => ?_)
      · have hF := hF.1 ((bz_0 _).mp c_)
        refine lv_aload_n hx hb dX12_ask_77 rfl (lv_at hl 1 rfl) ?_
        refine lv_iload_n hx hb dX12_ask_78 rfl (lv_at hl 2 rfl) ?_
        refine cV_t (As := [.int l1]) (wr := []) C hA hP hD hS mfX12_farmersMark t5_233 ts_38 t5_231 (ccX12_farmersMark l D cy h_this h_now h_trace x_lane x_many x_items x_spare x_tape x_draft x_tried x_past x_images x_kept x_comes x_standing x_brought x_habit v_status v_taped v_faultKind v_faultPlace v_at v_start v_token v_value v_acts w_traced v_livedMany v_now w_trace l1 _ hF) [0, 1, 2] [] rfl rfl (by decide) (by decide) (by decide) PO.np 0 11 rfl rfl rfl rfl hl.1 rfl (Nat.le_of_ble_eq_true rfl) dX12_ask_79 ⟨Nat.le_of_ble_eq_true rfl, Nat.le_of_ble_eq_true rfl⟩ ⟨Nat.le_of_ble_eq_true rfl, Nat.le_of_ble_eq_true rfl⟩ ?_
        rintro r1 w1 H locs ⟨u2_traced, u3_trace, rfl, hF⟩ hP hD hS
        have hP : va_P D CL [(h_this, .inr (11, [x_lane, x_many, x_items, x_spare, .int v_status, x_tape, .int v_taped, .int v_faultKind, .int v_faultPlace, .int v_at, .int v_start, .int v_token, .int v_value, .ref h_now, x_draft, x_tried, x_past, .int v_acts, x_images, x_kept, .ref h_trace, .int u2_traced, x_comes, x_standing, x_brought, x_habit, .int v_livedMany])), (h_now, .inl (cy 0, 124, .inl v_now)), (h_trace, .inl (cy 0, 16, .inl u3_trace))] H := hP
        have hD : va_D A [(h_this, .inr (11, [x_lane, x_many, x_items, x_spare, .int v_status, x_tape, .int v_taped, .int v_faultKind, .int v_faultPlace, .int v_at, .int v_start, .int v_token, .int v_value, .ref h_now, x_draft, x_tried, x_past, .int v_acts, x_images, x_kept, .ref h_trace, .int u2_traced, x_comes, x_standing, x_brought, x_habit, .int v_livedMany])), (h_now, .inl (cy 0, 124, .inl v_now)), (h_trace, .inl (cy 0, 16, .inl u3_trace))] := hD
        refine W.eq (g2 := F0 m 82 ls [.int r1]) rfl ?_
        exact rt_i C hQ rfl hP hD hS ⟨u2_traced, u3_trace, rfl, hF⟩ dX12_ask_82
      · have hF := hF.2 ((bz_1 _).mp c_)
        refine lv_aload_n hx hb dX12_ask_69 rfl (lv_at hl 1 rfl) ?_
        refine lv_iload_n hx hb dX12_ask_70 rfl (lv_at hl 2 rfl) ?_
        refine cV_t (As := [.int l1]) (wr := []) C hA hP hD hS mfX12_widowsMark t5_237 ts_39 t5_235 (ccX12_widowsMark l D cy h_this h_trace h_now x_lane x_many x_items x_spare x_tape x_draft x_tried x_past x_images x_kept x_comes x_standing x_brought x_habit v_status v_taped v_faultKind v_faultPlace v_at v_start v_token v_value v_acts w_traced v_livedMany w_trace v_now l1 _ hF) [0, 2, 1] [] rfl rfl (by decide) (by decide) (by decide) PO.np 0 11 rfl rfl rfl rfl hl.1 rfl (Nat.le_of_ble_eq_true rfl) dX12_ask_71 ⟨Nat.le_of_ble_eq_true rfl, Nat.le_of_ble_eq_true rfl⟩ ⟨Nat.le_of_ble_eq_true rfl, Nat.le_of_ble_eq_true rfl⟩ ?_
        rintro r4 w1 H locs ⟨u5_traced, u6_trace, rfl, hF⟩ hP hD hS
        have hP : va_P D CL [(h_this, .inr (11, [x_lane, x_many, x_items, x_spare, .int v_status, x_tape, .int v_taped, .int v_faultKind, .int v_faultPlace, .int v_at, .int v_start, .int v_token, .int v_value, .ref h_now, x_draft, x_tried, x_past, .int v_acts, x_images, x_kept, .ref h_trace, .int u5_traced, x_comes, x_standing, x_brought, x_habit, .int v_livedMany])), (h_trace, .inl (cy 0, 16, .inl u6_trace)), (h_now, .inl (cy 0, 124, .inl v_now))] H := hP
        have hD : va_D A [(h_this, .inr (11, [x_lane, x_many, x_items, x_spare, .int v_status, x_tape, .int v_taped, .int v_faultKind, .int v_faultPlace, .int v_at, .int v_start, .int v_token, .int v_value, .ref h_now, x_draft, x_tried, x_past, .int v_acts, x_images, x_kept, .ref h_trace, .int u5_traced, x_comes, x_standing, x_brought, x_habit, .int v_livedMany])), (h_trace, .inl (cy 0, 16, .inl u6_trace)), (h_now, .inl (cy 0, 124, .inl v_now))] := hD
        refine W.eq (g2 := F0 m 74 ls [.int r4]) rfl ?_
        refine lv_goto (tgt := 82) hx hb dX12_ask_74 (by decide) ?_
        have hP : va_P D CL [(h_this, .inr (11, [x_lane, x_many, x_items, x_spare, .int v_status, x_tape, .int v_taped, .int v_faultKind, .int v_faultPlace, .int v_at, .int v_start, .int v_token, .int v_value, .ref h_now, x_draft, x_tried, x_past, .int v_acts, x_images, x_kept, .ref h_trace, .int u5_traced, x_comes, x_standing, x_brought, x_habit, .int v_livedMany])), (h_now, .inl (cy 0, 124, .inl v_now)), (h_trace, .inl (cy 0, 16, .inl u6_trace))] H := (hP.sub [0, 2, 1] rfl)
        have hD : va_D A [(h_this, .inr (11, [x_lane, x_many, x_items, x_spare, .int v_status, x_tape, .int v_taped, .int v_faultKind, .int v_faultPlace, .int v_at, .int v_start, .int v_token, .int v_value, .ref h_now, x_draft, x_tried, x_past, .int v_acts, x_images, x_kept, .ref h_trace, .int u5_traced, x_comes, x_standing, x_brought, x_habit, .int v_livedMany])), (h_now, .inl (cy 0, 124, .inl v_now)), (h_trace, .inl (cy 0, 16, .inl u6_trace))] := (hD.sub [0, 2, 1] (by decide) rfl)
        exact rt_i C hQ rfl hP hD hS ⟨u5_traced, u6_trace, rfl, hF⟩ dX12_ask_82
    · have hF := hF.2 c_
      refine lv_iload_n hx hb dX12_ask_47 rfl (lv_at hl 0 rfl) ?_
      refine lv_if_eq (tgt := 59) hx hb dX12_ask_48 (by decide) (fun c_ => ?_) (fun c_ => ?_)
      · have hF := hF.1 ((bz_0 _).mp c_)
        refine lv_aload_n hx hb dX12_ask_59 rfl (lv_at hl 1 rfl) ?_
        refine lv_iload_n hx hb dX12_ask_60 rfl (lv_at hl 2 rfl) ?_
        refine cV_t (As := [.int l1]) (wr := []) C hA hP hD hS mfX12_farmersSize t5_229 ts_37 t5_227 (ccX12_farmersSize l D cy h_this h_now h_trace x_lane x_many x_items x_spare x_tape x_draft x_tried x_past x_images x_kept x_comes x_standing x_brought x_habit v_status v_taped v_faultKind v_faultPlace v_at v_start v_token v_value v_acts w_traced v_livedMany v_now w_trace l1 _ hF) [0, 1, 2] [] rfl rfl (by decide) (by decide) (by decide) PO.np 0 11 rfl rfl rfl rfl hl.1 rfl (Nat.le_of_ble_eq_true rfl) dX12_ask_61 ⟨Nat.le_of_ble_eq_true rfl, Nat.le_of_ble_eq_true rfl⟩ ⟨Nat.le_of_ble_eq_true rfl, Nat.le_of_ble_eq_true rfl⟩ ?_
        rintro r7 w1 H locs ⟨u8_traced, u9_trace, rfl, hF⟩ hP hD hS
        have hP : va_P D CL [(h_this, .inr (11, [x_lane, x_many, x_items, x_spare, .int v_status, x_tape, .int v_taped, .int v_faultKind, .int v_faultPlace, .int v_at, .int v_start, .int v_token, .int v_value, .ref h_now, x_draft, x_tried, x_past, .int v_acts, x_images, x_kept, .ref h_trace, .int u8_traced, x_comes, x_standing, x_brought, x_habit, .int v_livedMany])), (h_now, .inl (cy 0, 124, .inl v_now)), (h_trace, .inl (cy 0, 16, .inl u9_trace))] H := hP
        have hD : va_D A [(h_this, .inr (11, [x_lane, x_many, x_items, x_spare, .int v_status, x_tape, .int v_taped, .int v_faultKind, .int v_faultPlace, .int v_at, .int v_start, .int v_token, .int v_value, .ref h_now, x_draft, x_tried, x_past, .int v_acts, x_images, x_kept, .ref h_trace, .int u8_traced, x_comes, x_standing, x_brought, x_habit, .int v_livedMany])), (h_now, .inl (cy 0, 124, .inl v_now)), (h_trace, .inl (cy 0, 16, .inl u9_trace))] := hD
        refine W.eq (g2 := F0 m 64 ls [.int r7]) rfl ?_
        exact rt_i C hQ rfl hP hD hS ⟨u8_traced, u9_trace, rfl, hF⟩ dX12_ask_64
      · have hF := hF.2 ((bz_1 _).mp c_)
        refine lv_aload_n hx hb dX12_ask_51 rfl (lv_at hl 1 rfl) ?_
        refine lv_iload_n hx hb dX12_ask_52 rfl (lv_at hl 2 rfl) ?_
        refine cV_t (As := [.int l1]) (wr := []) C hA hP hD hS mfX12_widowsSize t5_221 ts_35 t5_219 (ccX12_widowsSize l D cy h_this h_now h_trace x_lane x_many x_items x_spare x_tape x_draft x_tried x_past x_images x_kept x_comes x_standing x_brought x_habit v_status v_taped v_faultKind v_faultPlace v_at v_start v_token v_value v_acts w_traced v_livedMany v_now w_trace l1 _ hF) [0, 1, 2] [] rfl rfl (by decide) (by decide) (by decide) PO.np 0 11 rfl rfl rfl rfl hl.1 rfl (Nat.le_of_ble_eq_true rfl) dX12_ask_53 ⟨Nat.le_of_ble_eq_true rfl, Nat.le_of_ble_eq_true rfl⟩ ⟨Nat.le_of_ble_eq_true rfl, Nat.le_of_ble_eq_true rfl⟩ ?_
        rintro r10 w1 H locs ⟨u11_traced, u12_trace, rfl, hF⟩ hP hD hS
        have hP : va_P D CL [(h_this, .inr (11, [x_lane, x_many, x_items, x_spare, .int v_status, x_tape, .int v_taped, .int v_faultKind, .int v_faultPlace, .int v_at, .int v_start, .int v_token, .int v_value, .ref h_now, x_draft, x_tried, x_past, .int v_acts, x_images, x_kept, .ref h_trace, .int u11_traced, x_comes, x_standing, x_brought, x_habit, .int v_livedMany])), (h_now, .inl (cy 0, 124, .inl v_now)), (h_trace, .inl (cy 0, 16, .inl u12_trace))] H := hP
        have hD : va_D A [(h_this, .inr (11, [x_lane, x_many, x_items, x_spare, .int v_status, x_tape, .int v_taped, .int v_faultKind, .int v_faultPlace, .int v_at, .int v_start, .int v_token, .int v_value, .ref h_now, x_draft, x_tried, x_past, .int v_acts, x_images, x_kept, .ref h_trace, .int u11_traced, x_comes, x_standing, x_brought, x_habit, .int v_livedMany])), (h_now, .inl (cy 0, 124, .inl v_now)), (h_trace, .inl (cy 0, 16, .inl u12_trace))] := hD
        refine W.eq (g2 := F0 m 56 ls [.int r10]) rfl ?_
        refine lv_goto (tgt := 64) hx hb dX12_ask_56 (by decide) ?_
        exact rt_i C hQ rfl hP hD hS ⟨u11_traced, u12_trace, rfl, hF⟩ dX12_ask_64
  unfold wpX12_ask at hF
  refine lv_aload_n hx hb dX12_ask_0 rfl (lv_at hl 0 rfl) ?_
  refine lv_iload_n hx hb dX12_ask_1 rfl (lv_at hl 1 rfl) ?_
  refine cV_r (As := [.int p0]) C mfX12_isPerson t5_90 ts_26 t5_88 (ccX12_isPerson l D cy h_this h_now x_lane x_many x_items x_spare x_tape x_draft x_tried x_past x_images x_kept (.ref h_trace) x_comes x_standing x_brought x_habit v_status v_taped v_faultKind v_faultPlace v_at v_start v_token v_value v_acts v_traced v_livedMany v_now p0 _ hF) rfl rfl (hP.sub [0, 1] rfl) PR.np hP 0 11 rfl rfl rfl rfl hl.1 rfl (Nat.le_of_ble_eq_true rfl) dX12_ask_2 ⟨Nat.le_of_ble_eq_true rfl, Nat.le_of_ble_eq_true rfl⟩ ⟨Nat.le_of_ble_eq_true rfl, Nat.le_of_ble_eq_true rfl⟩ ?_
  intro r1 hF
  refine W.eq (g2 := F0 m 5 ls [.int (bz r1)]) rfl ?_
  refine lv_if_eq (tgt := 17) hx hb dX12_ask_5 (by decide) (fun c_ => ?_) (fun c_ => ?_)
  · have hF := hF.1 ((bz_0 _).mp c_)
    refine lv_ldc hx hb hown (hts _ t4_217) dX12_ask_17 ?_
    exact rt_i C hQ rfl hP hD hS ⟨v_traced, v_trace, rfl, hF⟩ dX12_ask_19
  · have hF := hF.2 ((bz_1 _).mp c_)
    refine lv_iload_n hx hb dX12_ask_8 rfl (lv_at hl 2 rfl) ?_
    refine lv_iconst (v := 0) hx hb dX12_ask_9 (by decide) ?_
    refine lv_iconst (v := 1) hx hb dX12_ask_10 (by decide) ?_
    refine cS_r (As := [.int p1, .int 0, .int 1]) C mfX12_in t4_215 t4_214 (ccX12_in l D cy p1 0 1 _ hF) rfl rfl (hP.sub [] rfl) PR.np rfl hl.1 rfl (Nat.le_of_ble_eq_true rfl) dX12_ask_11 ⟨Nat.le_of_ble_eq_true rfl, Nat.le_of_ble_eq_true rfl⟩ ⟨Nat.le_of_ble_eq_true rfl, Nat.le_of_ble_eq_true rfl⟩ ?_
    intro r2 hF
    refine W.eq (g2 := F0 m 14 ls [.int (bz r2)]) rfl ?_
    refine lv_if_ne (tgt := 20) hx hb dX12_ask_14 (by decide) (fun c_ => ?_) (fun c_ => ?_)
    · have hF := hF.1 ((bz_1 _).mp c_)
      refine lv_aload_n hx hb dX12_ask_20 rfl (lv_at hl 0 rfl) ?_
      refine lv_iconst (v := 0) hx hb dX12_ask_21 (by decide) ?_
      refine va_put (D := D) (ci := 11) (v := .int 0) (ty := .int) (C := RX12) (T := TX12) (N := 27) hx hb hts inTX12 tyX12 tyX12_ok nmX12 hown hK.1 hP hD hS 0 rfl rfl 21 (by decide) (hts _ t4_145) (fun _ h9 => h9) rfl (tyX12_ok 21 (by decide)) rfl rfl (Nat.le_of_ble_eq_true rfl) dX12_ask_22 (fun H locs hP hD hS => ?_)
      have hP : va_P D CL [(h_this, .inr (11, [x_lane, x_many, x_items, x_spare, .int v_status, x_tape, .int v_taped, .int v_faultKind, .int v_faultPlace, .int v_at, .int v_start, .int v_token, .int v_value, .ref h_now, x_draft, x_tried, x_past, .int v_acts, x_images, x_kept, .ref h_trace, .int 0, x_comes, x_standing, x_brought, x_habit, .int v_livedMany])), (h_now, .inl (cy 0, 124, .inl v_now)), (h_trace, .inl (cy 0, 16, .inl v_trace))] H := hP
      have hD : va_D A [(h_this, .inr (11, [x_lane, x_many, x_items, x_spare, .int v_status, x_tape, .int v_taped, .int v_faultKind, .int v_faultPlace, .int v_at, .int v_start, .int v_token, .int v_value, .ref h_now, x_draft, x_tried, x_past, .int v_acts, x_images, x_kept, .ref h_trace, .int 0, x_comes, x_standing, x_brought, x_habit, .int v_livedMany])), (h_now, .inl (cy 0, 124, .inl v_now)), (h_trace, .inl (cy 0, 16, .inl v_trace))] := hD
      refine lv_aload_n hx hb dX12_ask_25 rfl (lv_at hl 0 rfl) ?_
      refine va_get (D := D) (ci := 11) (v := .ref h_now) (C := RX12) (T := TX12) (N := 27) hx hb hts inTX12 hown hK.1 hP 0 rfl rfl 13 (by decide) (hts _ t4_137) (fun _ h9 => h9) rfl dX12_ask_26 ?_
      refine lv_iload_n hx hb dX12_ask_29 rfl (lv_at hl 1 rfl) ?_
      refine cS_r (As := [.ref h_now, .int p0]) C mfX12_kindIn t5_82 t5_81 (ccX12_kindIn l D cy h_now v_now p0 _ hF) rfl rfl (hP.sub [1] rfl) PR.np rfl hl.1 rfl (Nat.le_of_ble_eq_true rfl) dX12_ask_30 ⟨Nat.le_of_ble_eq_true rfl, Nat.le_of_ble_eq_true rfl⟩ ⟨Nat.le_of_ble_eq_true rfl, Nat.le_of_ble_eq_true rfl⟩ ?_
      intro r3 hF
      refine W.eq (g2 := F0 m 33 ls [.int r3]) rfl ?_
      refine lv_iconst (v := 4) hx hb dX12_ask_33 (by decide) ?_
      refine lv_icmp_lt (tgt := 41) hx hb dX12_ask_34 (by decide) (fun c_ => ?_) (fun c_ => ?_)
      · have hF := hF.1 c_
        refine lv_iconst (v := 0) hx hb dX12_ask_41 (by decide) ?_
        exact J_42 p0 p1 false 0 v_trace _ _ ls  hP hD hS (lv_sub hl [0, 1, 2] rfl) hF
      · have hF := hF.2 c_
        refine lv_iconst (v := 1) hx hb dX12_ask_37 (by decide) ?_
        refine lv_goto (tgt := 42) hx hb dX12_ask_38 (by decide) ?_
        exact J_42 p0 p1 true 0 v_trace _ _ ls  hP hD hS (lv_sub hl [0, 1, 2] rfl) hF
    · have hF := hF.2 ((bz_0 _).mp c_)
      refine lv_ldc hx hb hown (hts _ t4_217) dX12_ask_17 ?_
      exact rt_i C hQ rfl hP hD hS ⟨v_traced, v_trace, rfl, hF⟩ dX12_ask_19

def wpX12_trace (p0 : Int32) (v_traced : Int32) (v_trace : Nat → Int32) (post : Int32 → Prop) : Prop := wpX12_in p0 0 (v_traced - 1) (fun r1 => (r1 = false → (post (-1000000))) ∧ (r1 = true → (vp_in p0 16 ∧ (post (v_trace ((p0).toNatClampNeg))))))
abbrev miX12_trace : MI := (yX12_trace, cX12_trace, 2, (some .int))
theorem mfX12_trace : MF miX12_trace 1 := ⟨t6_2, t1_8, by decide +kernel⟩
abbrev rmX12_trace : Room := { frames := 1, cells := 0, slots := 0, locals := 22 }
set_option maxHeartbeats 4000000 in
set_option maxRecDepth 100000 in
theorem ccX12_trace (l : Launch) (D : va_G) (cy : Nat → ClassId) (h_this : Nat) (h_trace : Nat) (x_lane : Value) (x_many : Value) (x_items : Value) (x_spare : Value) (x_tape : Value) (x_now : Value) (x_draft : Value) (x_tried : Value) (x_past : Value) (x_images : Value) (x_kept : Value) (x_comes : Value) (x_standing : Value) (x_brought : Value) (x_habit : Value) (v_status : Int32) (v_taped : Int32) (v_faultKind : Int32) (v_faultPlace : Int32) (v_at : Int32) (v_start : Int32) (v_token : Int32) (v_value : Int32) (v_acts : Int32) (v_traced : Int32) (v_livedMany : Int32) (v_trace : Nat → Int32) (p0 : Int32) (post : Int32 → Prop) (hF : wpX12_trace p0 v_traced v_trace post) : Cr l D cy miX12_trace rmX12_trace emI NP [.ref h_this, .int p0] [(h_this, .inr (11, [x_lane, x_many, x_items, x_spare, .int v_status, x_tape, .int v_taped, .int v_faultKind, .int v_faultPlace, .int v_at, .int v_start, .int v_token, .int v_value, x_now, x_draft, x_tried, x_past, .int v_acts, x_images, x_kept, .ref h_trace, .int v_traced, x_comes, x_standing, x_brought, x_habit, .int v_livedMany])), (h_trace, .inl (cy 0, 16, .inl v_trace))] post := by
  refine Cr.of (by decide) (Nat.le_of_ble_eq_true rfl) ?_
  intro p e s m args below meth c ls Q C hQ hO hP hl
  obtain ⟨hx, hb, hr, hml, hown, hts, hK, hlk, hnm⟩ := id C
  have hb : c.code = cX12_trace := hb
  have hml : c.maxLocals = 2 := hml
  have hown : s.vm.findClass RX12 = some m.cls := hown
  have hl : lv_has ls 2 [(0, .ref h_this), (1, .int p0)] := hl
  unfold wpX12_trace at hF
  refine lv_iload_n hx hb dX12_trace_0 rfl (lv_at hl 1 rfl) ?_
  refine lv_iconst (v := 0) hx hb dX12_trace_1 (by decide) ?_
  refine lv_aload_n hx hb dX12_trace_2 rfl (lv_at hl 0 rfl) ?_
  refine va_get (D := D) (ci := 11) (v := .int v_traced) (C := RX12) (T := TX12) (N := 27) hx hb hts inTX12 hown hK.1 hP 0 rfl rfl 21 (by decide) (hts _ t4_145) (fun _ h9 => h9) rfl dX12_trace_3 ?_
  refine lv_iconst (v := 1) hx hb dX12_trace_6 (by decide) ?_
  refine lv_isub hx hb dX12_trace_7 ?_
  refine cS_r (As := [.int p0, .int 0, .int (v_traced - 1)]) C mfX12_in t4_215 t4_214 (ccX12_in l D cy p0 0 (v_traced - 1) _ hF) rfl rfl (hP.sub [] rfl) PR.np rfl hl.1 rfl (Nat.le_of_ble_eq_true rfl) dX12_trace_8 ⟨Nat.le_of_ble_eq_true rfl, Nat.le_of_ble_eq_true rfl⟩ ⟨Nat.le_of_ble_eq_true rfl, Nat.le_of_ble_eq_true rfl⟩ ?_
  intro r1 hF
  refine W.eq (g2 := F0 m 11 ls [.int (bz r1)]) rfl ?_
  refine lv_if_eq (tgt := 23) hx hb dX12_trace_11 (by decide) (fun c_ => ?_) (fun c_ => ?_)
  · have hF := hF.1 ((bz_0 _).mp c_)
    refine lv_ldc hx hb hown (hts _ t4_123) dX12_trace_23 ?_
    exact rr_i C hQ rfl hF dX12_trace_25
  · have hF := hF.2 ((bz_1 _).mp c_)
    refine lv_aload_n hx hb dX12_trace_14 rfl (lv_at hl 0 rfl) ?_
    refine va_get (D := D) (ci := 11) (v := .ref h_trace) (C := RX12) (T := TX12) (N := 27) hx hb hts inTX12 hown hK.1 hP 0 rfl rfl 20 (by decide) (hts _ t4_144) (fun _ h9 => h9) rfl dX12_trace_15 ?_
    refine lv_iload_n hx hb dX12_trace_18 rfl (lv_at hl 1 rfl) ?_
    obtain ⟨hi2, hF⟩ := hF
    refine s_iald (j := (p0).toNatClampNeg) hx hb hK.1 hP 1 0 rfl rfl hi2 rfl dX12_trace_19 ?_
    refine lv_goto (tgt := 25) hx hb dX12_trace_20 (by decide) ?_
    exact rr_i C hQ rfl hF dX12_trace_25

def wjX12_count_28 (v_taped : Int32) (v_acts : Int32) (v_now : Nat → Int32) (v_lane : Nat → Int32) (post : Int32 → Prop) (K_8 : Int32 → Int32 → Prop) (l3 : Int32) (k0 : Bool) (k1 : Int32) : Prop := K_8 (k1 + bz k0) (l3 + 1)
def wlX12_count_8 (v_taped : Int32) (v_acts : Int32) (v_now : Nat → Int32) (v_lane : Nat → Int32) (post : Int32 → Prop) : Nat → Int32 → Int32 → Prop
  | 0, _, _ => False
  | n + 1, l2, l3 => (8 ≤ l3 → (post l2)) ∧ (¬ 8 ≤ l3 → (wpX12_isMissing l3 v_lane (fun r1 => (r1 = false → (wjX12_count_28 v_taped v_acts v_now v_lane post (wlX12_count_8 v_taped v_acts v_now v_lane post n) l3 true l2)) ∧ (r1 = true → (wjX12_count_28 v_taped v_acts v_now v_lane post (wlX12_count_8 v_taped v_acts v_now v_lane post n) l3 false l2)))))
def wpX12_count (p0 : Int32) (v_taped : Int32) (v_acts : Int32) (v_now : Nat → Int32) (v_lane : Nat → Int32) (post : Int32 → Prop) : Prop := (¬ p0 = 0 → (wpX12_in p0 1 7 (fun r1 => (r1 = true → ((¬ p0 = 1 → ((¬ p0 = 2 → ((¬ p0 = 3 → ((¬ p0 = 4 → ((¬ p0 = 5 → ((¬ p0 = 6 → (post v_taped)) ∧ (p0 = 6 → (post v_acts)))) ∧ (p0 = 5 → (post (v_now 4))))) ∧ (p0 = 4 → (post (v_now 2))))) ∧ (p0 = 3 → (vp_in (24 + (v_now 5)) 124 ∧ (post (v_now (((24 + (v_now 5))).toNatClampNeg))))))) ∧ (p0 = 2 → (post (v_now 5))))) ∧ (p0 = 1 → (post (v_now 1))))) ∧ (r1 = false → (post (-1000001)))))) ∧ (p0 = 0 → (wlX12_count_8 v_taped v_acts v_now v_lane post fu 0 0))
abbrev miX12_count : MI := (yX12_count, cX12_count, 4, (some .int))
theorem mfX12_count : MF miX12_count 1 := ⟨t6_6, t1_8, by decide +kernel⟩
abbrev rmX12_count : Room := { frames := 1, cells := 0, slots := 0, locals := 22 }
set_option maxHeartbeats 4000000 in
set_option maxRecDepth 100000 in
theorem ccX12_count (l : Launch) (D : va_G) (cy : Nat → ClassId) (h_this : Nat) (h_now : Nat) (h_lane : Nat) (x_many : Value) (x_items : Value) (x_spare : Value) (x_tape : Value) (x_draft : Value) (x_tried : Value) (x_past : Value) (x_images : Value) (x_kept : Value) (x_trace : Value) (x_comes : Value) (x_standing : Value) (x_brought : Value) (x_habit : Value) (v_status : Int32) (v_taped : Int32) (v_faultKind : Int32) (v_faultPlace : Int32) (v_at : Int32) (v_start : Int32) (v_token : Int32) (v_value : Int32) (v_acts : Int32) (v_traced : Int32) (v_livedMany : Int32) (v_now : Nat → Int32) (v_lane : Nat → Int32) (p0 : Int32) (post : Int32 → Prop) (hF : wpX12_count p0 v_taped v_acts v_now v_lane post) : Cr l D cy miX12_count rmX12_count emI NP [.ref h_this, .int p0] [(h_this, .inr (11, [.ref h_lane, x_many, x_items, x_spare, .int v_status, x_tape, .int v_taped, .int v_faultKind, .int v_faultPlace, .int v_at, .int v_start, .int v_token, .int v_value, .ref h_now, x_draft, x_tried, x_past, .int v_acts, x_images, x_kept, x_trace, .int v_traced, x_comes, x_standing, x_brought, x_habit, .int v_livedMany])), (h_now, .inl (cy 0, 124, .inl v_now)), (h_lane, .inl (cy 0, 8, .inl v_lane))] post := by
  refine Cr.of (by decide) (Nat.le_of_ble_eq_true rfl) ?_
  intro p e s m args below meth c ls Q C hQ hO hP hl
  obtain ⟨hx, hb, hr, hml, hown, hts, hK, hlk, hnm⟩ := id C
  have hb : c.code = cX12_count := hb
  have hml : c.maxLocals = 4 := hml
  have hown : s.vm.findClass RX12 = some m.cls := hown
  have hl : lv_has ls 4 [(0, .ref h_this), (1, .int p0)] := hl
  have L_8 : ∀ (n_8 : Nat) (l2 : Int32) (l3 : Int32) (ls : Array Slot), lv_has ls 4 [(0, .ref h_this), (2, .int l2), (3, .int l3)] → wlX12_count_8 v_taped v_acts v_now v_lane post n_8 l2 l3 → W p l e rmX12_count s m args below meth c s.heap [] 0 0 Q (F0 m 8 ls []) := by
    intro n_8
    induction n_8 with
    | zero =>
      intro l2 l3 ls  hl hF
      simp only [wlX12_count_8] at hF
    | succ n_8 ih_8 =>
      have J_28 : ∀ (l3 : Int32) (k0 : Bool) (k1 : Int32) (ls : Array Slot), lv_has ls 4 [(0, .ref h_this), (3, .int l3)] → wjX12_count_28 v_taped v_acts v_now v_lane post (wlX12_count_8 v_taped v_acts v_now v_lane post n_8) l3 k0 k1 → W p l e rmX12_count s m args below meth c s.heap [] 0 0 Q (F0 m 28 ls [.int (bz k0), .int k1]) := by
        intro l3 k0 k1 ls  hl hF
        unfold wjX12_count_28 at hF
        refine lv_iadd hx hb dX12_count_28 ?_
        refine lv_istore_n (lv' := [(2, .int (k1 + bz k0)), (0, .ref h_this), (3, .int l3)]) hx hb dX12_count_29 rfl hl (by decide) rfl (fun ls hl => ?_)
        refine lv_iinc (v := (l3 + 1)) (lv' := [(3, .int (l3 + 1)), (2, .int (k1 + bz k0)), (0, .ref h_this)]) hx hb dX12_count_30 hl (k := 2) rfl rfl (by decide) rfl (fun ls hl => ?_)
        refine lv_goto (tgt := 8) hx hb dX12_count_33 (by decide) ?_
        exact ih_8 (k1 + bz k0) (l3 + 1) ls  (lv_sub hl [2, 1, 0] rfl) hF
      intro l2 l3 ls  hl hF
      unfold wlX12_count_8 at hF
      refine lv_iload_n hx hb dX12_count_8 rfl (lv_at hl 2 rfl) ?_
      refine lv_bipush (v := 8) hx hb dX12_count_9 (by decide) ?_
      refine lv_icmp_ge (tgt := 36) hx hb dX12_count_11 (by decide) (fun c_ => ?_) (fun c_ => ?_)
      · have hF := hF.1 c_
        refine lv_iload_n hx hb dX12_count_36 rfl (lv_at hl 1 rfl) ?_
        exact rr_i C hQ rfl hF dX12_count_37
      · have hF := hF.2 c_
        refine lv_iload_n hx hb dX12_count_14 rfl (lv_at hl 1 rfl) ?_
        refine lv_aload_n hx hb dX12_count_15 rfl (lv_at hl 0 rfl) ?_
        refine lv_iload_n hx hb dX12_count_16 rfl (lv_at hl 2 rfl) ?_
        refine cV_r (As := [.int l3]) C mfX12_isMissing t4_233 ts_16 t4_231 (ccX12_isMissing l D cy h_this h_lane x_many x_items x_spare x_tape (.ref h_now) x_draft x_tried x_past x_images x_kept x_trace x_comes x_standing x_brought x_habit v_status v_taped v_faultKind v_faultPlace v_at v_start v_token v_value v_acts v_traced v_livedMany v_lane l3 _ hF) rfl rfl (hP.sub [0, 2] rfl) PR.np hP 0 11 rfl rfl rfl rfl hl.1 rfl (Nat.le_of_ble_eq_true rfl) dX12_count_17 ⟨Nat.le_of_ble_eq_true rfl, Nat.le_of_ble_eq_true rfl⟩ ⟨Nat.le_of_ble_eq_true rfl, Nat.le_of_ble_eq_true rfl⟩ ?_
        intro r1 hF
        refine W.eq (g2 := F0 m 20 ls [.int (bz r1), .int l2]) rfl ?_
        refine lv_if_eq (tgt := 27) hx hb dX12_count_20 (by decide) (fun c_ => ?_) (fun c_ => ?_)
        · have hF := hF.1 ((bz_0 _).mp c_)
          refine lv_iconst (v := 1) hx hb dX12_count_27 (by decide) ?_
          exact J_28 l3 true l2 ls  (lv_sub hl [0, 2] rfl) hF
        · have hF := hF.2 ((bz_1 _).mp c_)
          refine lv_iconst (v := 0) hx hb dX12_count_23 (by decide) ?_
          refine lv_goto (tgt := 28) hx hb dX12_count_24 (by decide) ?_
          exact J_28 l3 false l2 ls  (lv_sub hl [0, 2] rfl) hF
  unfold wpX12_count at hF
  refine lv_iload_n hx hb dX12_count_0 rfl (lv_at hl 1 rfl) ?_
  refine lv_if_ne (tgt := 38) hx hb dX12_count_1 (by decide) (fun c_ => ?_) (fun c_ => ?_)
  · have hF := hF.1 c_
    refine lv_iload_n hx hb dX12_count_38 rfl (lv_at hl 1 rfl) ?_
    refine lv_iconst (v := 1) hx hb dX12_count_39 (by decide) ?_
    refine lv_bipush (v := 7) hx hb dX12_count_40 (by decide) ?_
    refine cS_r (As := [.int p0, .int 1, .int 7]) C mfX12_in t4_215 t4_214 (ccX12_in l D cy p0 1 7 _ hF) rfl rfl (hP.sub [] rfl) PR.np rfl hl.1 rfl (Nat.le_of_ble_eq_true rfl) dX12_count_42 ⟨Nat.le_of_ble_eq_true rfl, Nat.le_of_ble_eq_true rfl⟩ ⟨Nat.le_of_ble_eq_true rfl, Nat.le_of_ble_eq_true rfl⟩ ?_
    intro r1 hF
    refine W.eq (g2 := F0 m 45 ls [.int (bz r1)]) rfl ?_
    refine lv_if_ne (tgt := 51) hx hb dX12_count_45 (by decide) (fun c_ => ?_) (fun c_ => ?_)
    · have hF := hF.1 ((bz_1 _).mp c_)
      refine lv_iload_n hx hb dX12_count_51 rfl (lv_at hl 1 rfl) ?_
      refine lv_iconst (v := 1) hx hb dX12_count_52 (by decide) ?_
      refine lv_icmp_ne (tgt := 65) hx hb dX12_count_53 (by decide) (fun c_ => ?_) (fun c_ => ?_)
      · have hF := hF.1 c_
        refine lv_iload_n hx hb dX12_count_65 rfl (lv_at hl 1 rfl) ?_
        refine lv_iconst (v := 2) hx hb dX12_count_66 (by decide) ?_
        refine lv_icmp_ne (tgt := 79) hx hb dX12_count_67 (by decide) (fun c_ => ?_) (fun c_ => ?_)
        · have hF := hF.1 c_
          refine lv_iload_n hx hb dX12_count_79 rfl (lv_at hl 1 rfl) ?_
          refine lv_iconst (v := 3) hx hb dX12_count_80 (by decide) ?_
          refine lv_icmp_ne (tgt := 101) hx hb dX12_count_81 (by decide) (fun c_ => ?_) (fun c_ => ?_)
          · have hF := hF.1 c_
            refine lv_iload_n hx hb dX12_count_101 rfl (lv_at hl 1 rfl) ?_
            refine lv_iconst (v := 4) hx hb dX12_count_102 (by decide) ?_
            refine lv_icmp_ne (tgt := 115) hx hb dX12_count_103 (by decide) (fun c_ => ?_) (fun c_ => ?_)
            · have hF := hF.1 c_
              refine lv_iload_n hx hb dX12_count_115 rfl (lv_at hl 1 rfl) ?_
              refine lv_iconst (v := 5) hx hb dX12_count_116 (by decide) ?_
              refine lv_icmp_ne (tgt := 129) hx hb dX12_count_117 (by decide) (fun c_ => ?_) (fun c_ => ?_)
              · have hF := hF.1 c_
                refine lv_iload_n hx hb dX12_count_129 rfl (lv_at hl 1 rfl) ?_
                refine lv_bipush (v := 6) hx hb dX12_count_130 (by decide) ?_
                refine lv_icmp_ne (tgt := 142) hx hb dX12_count_132 (by decide) (fun c_ => ?_) (fun c_ => ?_)
                · have hF := hF.1 c_
                  refine lv_aload_n hx hb dX12_count_142 rfl (lv_at hl 0 rfl) ?_
                  refine va_get (D := D) (ci := 11) (v := .int v_taped) (C := RX12) (T := TX12) (N := 27) hx hb hts inTX12 hown hK.1 hP 0 rfl rfl 6 (by decide) (hts _ t4_130) (fun _ h9 => h9) rfl dX12_count_143 ?_
                  exact rr_i C hQ rfl hF dX12_count_146
                · have hF := hF.2 c_
                  refine lv_aload_n hx hb dX12_count_135 rfl (lv_at hl 0 rfl) ?_
                  refine va_get (D := D) (ci := 11) (v := .int v_acts) (C := RX12) (T := TX12) (N := 27) hx hb hts inTX12 hown hK.1 hP 0 rfl rfl 17 (by decide) (hts _ t4_141) (fun _ h9 => h9) rfl dX12_count_136 ?_
                  refine lv_goto (tgt := 146) hx hb dX12_count_139 (by decide) ?_
                  exact rr_i C hQ rfl hF dX12_count_146
              · have hF := hF.2 c_
                refine lv_aload_n hx hb dX12_count_120 rfl (lv_at hl 0 rfl) ?_
                refine va_get (D := D) (ci := 11) (v := .ref h_now) (C := RX12) (T := TX12) (N := 27) hx hb hts inTX12 hown hK.1 hP 0 rfl rfl 13 (by decide) (hts _ t4_137) (fun _ h9 => h9) rfl dX12_count_121 ?_
                refine lv_iconst (v := 4) hx hb dX12_count_124 (by decide) ?_
                refine s_iald (j := 4) hx hb hK.1 hP 1 0 rfl rfl (vi (by decide)) (by decide) dX12_count_125 ?_
                refine lv_goto (tgt := 146) hx hb dX12_count_126 (by decide) ?_
                exact rr_i C hQ rfl hF dX12_count_146
            · have hF := hF.2 c_
              refine lv_aload_n hx hb dX12_count_106 rfl (lv_at hl 0 rfl) ?_
              refine va_get (D := D) (ci := 11) (v := .ref h_now) (C := RX12) (T := TX12) (N := 27) hx hb hts inTX12 hown hK.1 hP 0 rfl rfl 13 (by decide) (hts _ t4_137) (fun _ h9 => h9) rfl dX12_count_107 ?_
              refine lv_iconst (v := 2) hx hb dX12_count_110 (by decide) ?_
              refine s_iald (j := 2) hx hb hK.1 hP 1 0 rfl rfl (vi (by decide)) (by decide) dX12_count_111 ?_
              refine lv_goto (tgt := 146) hx hb dX12_count_112 (by decide) ?_
              exact rr_i C hQ rfl hF dX12_count_146
          · have hF := hF.2 c_
            refine lv_aload_n hx hb dX12_count_84 rfl (lv_at hl 0 rfl) ?_
            refine va_get (D := D) (ci := 11) (v := .ref h_now) (C := RX12) (T := TX12) (N := 27) hx hb hts inTX12 hown hK.1 hP 0 rfl rfl 13 (by decide) (hts _ t4_137) (fun _ h9 => h9) rfl dX12_count_85 ?_
            refine lv_bipush (v := 24) hx hb dX12_count_88 (by decide) ?_
            refine lv_aload_n hx hb dX12_count_90 rfl (lv_at hl 0 rfl) ?_
            refine va_get (D := D) (ci := 11) (v := .ref h_now) (C := RX12) (T := TX12) (N := 27) hx hb hts inTX12 hown hK.1 hP 0 rfl rfl 13 (by decide) (hts _ t4_137) (fun _ h9 => h9) rfl dX12_count_91 ?_
            refine lv_iconst (v := 5) hx hb dX12_count_94 (by decide) ?_
            refine s_iald (j := 5) hx hb hK.1 hP 1 0 rfl rfl (vi (by decide)) (by decide) dX12_count_95 ?_
            refine lv_iadd hx hb dX12_count_96 ?_
            obtain ⟨hi2, hF⟩ := hF
            refine s_iald (j := ((24 + (v_now 5))).toNatClampNeg) hx hb hK.1 hP 1 0 rfl rfl hi2 rfl dX12_count_97 ?_
            refine lv_goto (tgt := 146) hx hb dX12_count_98 (by decide) ?_
            exact rr_i C hQ rfl hF dX12_count_146
        · have hF := hF.2 c_
          refine lv_aload_n hx hb dX12_count_70 rfl (lv_at hl 0 rfl) ?_
          refine va_get (D := D) (ci := 11) (v := .ref h_now) (C := RX12) (T := TX12) (N := 27) hx hb hts inTX12 hown hK.1 hP 0 rfl rfl 13 (by decide) (hts _ t4_137) (fun _ h9 => h9) rfl dX12_count_71 ?_
          refine lv_iconst (v := 5) hx hb dX12_count_74 (by decide) ?_
          refine s_iald (j := 5) hx hb hK.1 hP 1 0 rfl rfl (vi (by decide)) (by decide) dX12_count_75 ?_
          refine lv_goto (tgt := 146) hx hb dX12_count_76 (by decide) ?_
          exact rr_i C hQ rfl hF dX12_count_146
      · have hF := hF.2 c_
        refine lv_aload_n hx hb dX12_count_56 rfl (lv_at hl 0 rfl) ?_
        refine va_get (D := D) (ci := 11) (v := .ref h_now) (C := RX12) (T := TX12) (N := 27) hx hb hts inTX12 hown hK.1 hP 0 rfl rfl 13 (by decide) (hts _ t4_137) (fun _ h9 => h9) rfl dX12_count_57 ?_
        refine lv_iconst (v := 1) hx hb dX12_count_60 (by decide) ?_
        refine s_iald (j := 1) hx hb hK.1 hP 1 0 rfl rfl (vi (by decide)) (by decide) dX12_count_61 ?_
        refine lv_goto (tgt := 146) hx hb dX12_count_62 (by decide) ?_
        exact rr_i C hQ rfl hF dX12_count_146
    · have hF := hF.2 ((bz_0 _).mp c_)
      refine lv_ldc hx hb hown (hts _ t4_217) dX12_count_48 ?_
      exact rr_i C hQ rfl hF dX12_count_50
  · have hF := hF.2 c_
    refine lv_iconst (v := 0) hx hb dX12_count_4 (by decide) ?_
    refine lv_istore_n (lv' := [(2, .int 0), (0, .ref h_this), (1, .int p0)]) hx hb dX12_count_5 rfl hl (by decide) rfl (fun ls hl => ?_)
    refine lv_iconst (v := 0) hx hb dX12_count_6 (by decide) ?_
    refine lv_istore_n (lv' := [(3, .int 0), (2, .int 0), (0, .ref h_this), (1, .int p0)]) hx hb dX12_count_7 rfl hl (by decide) rfl (fun ls hl => ?_)
    exact L_8 fu 0 0 ls  (lv_sub hl [2, 1, 0] rfl) hF

def wpX12_status (v_status : Int32) (post : Int32 → Prop) : Prop := post v_status
abbrev miX12_status : MI := (yX12_status, cX12_status, 1, (some .int))
theorem mfX12_status : MF miX12_status 0 := ⟨t6_10, t1_8, by decide +kernel⟩
abbrev rmX12_status : Room := { frames := 0, cells := 0, slots := 0, locals := 0 }
set_option maxHeartbeats 4000000 in
set_option maxRecDepth 100000 in
theorem ccX12_status (l : Launch) (D : va_G) (cy : Nat → ClassId) (h_this : Nat) (x_lane : Value) (x_many : Value) (x_items : Value) (x_spare : Value) (x_tape : Value) (x_now : Value) (x_draft : Value) (x_tried : Value) (x_past : Value) (x_images : Value) (x_kept : Value) (x_trace : Value) (x_comes : Value) (x_standing : Value) (x_brought : Value) (x_habit : Value) (v_status : Int32) (v_taped : Int32) (v_faultKind : Int32) (v_faultPlace : Int32) (v_at : Int32) (v_start : Int32) (v_token : Int32) (v_value : Int32) (v_acts : Int32) (v_traced : Int32) (v_livedMany : Int32) (post : Int32 → Prop) (hF : wpX12_status v_status post) : Cr l D cy miX12_status rmX12_status emI NP [.ref h_this] [(h_this, .inr (11, [x_lane, x_many, x_items, x_spare, .int v_status, x_tape, .int v_taped, .int v_faultKind, .int v_faultPlace, .int v_at, .int v_start, .int v_token, .int v_value, x_now, x_draft, x_tried, x_past, .int v_acts, x_images, x_kept, x_trace, .int v_traced, x_comes, x_standing, x_brought, x_habit, .int v_livedMany]))] post := by
  refine Cr.of (by decide) (Nat.le_of_ble_eq_true rfl) ?_
  intro p e s m args below meth c ls Q C hQ hO hP hl
  obtain ⟨hx, hb, hr, hml, hown, hts, hK, hlk, hnm⟩ := id C
  have hb : c.code = cX12_status := hb
  have hml : c.maxLocals = 1 := hml
  have hown : s.vm.findClass RX12 = some m.cls := hown
  have hl : lv_has ls 1 [(0, .ref h_this)] := hl
  unfold wpX12_status at hF
  refine lv_aload_n hx hb dX12_status_0 rfl (lv_at hl 0 rfl) ?_
  refine va_get (D := D) (ci := 11) (v := .int v_status) (C := RX12) (T := TX12) (N := 27) hx hb hts inTX12 hown hK.1 hP 0 rfl rfl 4 (by decide) (hts _ t4_128) (fun _ h9 => h9) rfl dX12_status_1 ?_
  exact rr_i C hQ rfl hF dX12_status_4
