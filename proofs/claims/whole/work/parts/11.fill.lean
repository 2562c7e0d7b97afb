-- java.util.Arrays.fill
def fl {α : Type} (n : Nat) (v : α) (f : Nat → α) : Nat → α := fun j => if j < n then v else f j
theorem fl_0 {α : Type} (v : α) (f : Nat → α) : fl 0 v f = f := funext fun j => by simp [fl]
theorem fl_s (i : Nat) (v : Int32) (f : Nat → Int32) : upd (fl i v f) i v = fl (i + 1) v f := funext fun j => by
  unfold upd fl
  by_cases h : j = i
  · simp [h]
  · by_cases h2 : j < i
    · simp [h, h2, Nat.lt_succ_of_lt h2]
    · simp [h, h2, show ¬ j < i + 1 by omega]
theorem fl_sL (i : Nat) (v : Int64) (f : Nat → Int64) : vp_updL (fl i v f) i v = fl (i + 1) v f := funext fun j => by
  unfold vp_updL fl
  by_cases h : j = i
  · simp [h]
  · by_cases h2 : j < i
    · simp [h, h2, Nat.lt_succ_of_lt h2]
    · simp [h, h2, show ¬ j < i + 1 by omega]
def wp_fillI (n : Nat) (v : Int32) (f : Nat → Int32) (post : Unit → (Nat → Int32) → Prop) : Prop := post () (fl n v f)
abbrev miJ7_fill_53178 : MI := (yJ7_fill_53178, cJ7_fill_53178, 4, none)
abbrev rmJ7_fill_53178 : Room := { frames := 0, cells := 0, slots := 0, locals := 0 }
theorem mfJ7_fill_53178 : MF miJ7_fill_53178 2 := ⟨t1_36, t1_3, by decide +kernel⟩
set_option maxHeartbeats 4000000 in
theorem c_fillI (l : Launch) (D : va_G) (cy : Nat → ClassId) (n : Nat) (hn : n < 2 ^ 31) (h : Nat) (f : Nat → Int32) (v : Int32) (post : Unit → (Nat → Int32) → Prop) (hF : wp_fillI n v f post) : Ct l D cy miJ7_fill_53178 rmJ7_fill_53178 emV NP [.ref h, .int v] [(h, .inl (cy 0, n, .inl f))] (fun r w1 => ∃ g : Nat → Int32, w1 = [(h, .inl (cy 0, n, .inl g))] ∧ post r g) := by
  refine Ct.of (by decide) (Nat.le_of_ble_eq_true rfl) ?_
  intro p e s m args below meth c A ls Q C hQ hA hI hP hD hS hl
  obtain ⟨hx, hb, hr, hml, hown, hts, hK, hlk, hnm⟩ := id C
  have hb : c.code = cJ7_fill_53178 := hb
  have hl : lv_has ls 4 [(0, .ref h), (1, .int v)] := hl
  have L : ∀ (k i : Nat) (H : Heap) (locs : List Loc) (ls : Array Slot), i + k = n → va_P D CL [(h, .inl (cy 0, n, .inl (fl i v f)))] H → va_D A [(h, .inl (cy 0, n, .inl (fl i v f)))] → va_S A s.heap H locs → lv_has ls 4 [(0, .ref h), (1, .int v), (2, .int (nI i)), (3, .int (nI n))] → W p l e rmJ7_fill_53178 s m args below meth c H locs 0 0 Q (F0 m 5 ls []) := by
    intro k
    induction k with
    | zero =>
      intro i H locs ls hi hP hD hS hl
      have hin : i = n := by omega
      subst hin
      refine lv_iload_n hx hb dJ7_fill_53178_5 rfl (lv_at hl 2 rfl) ?_
      refine lv_iload_n hx hb dJ7_fill_53178_6 rfl (lv_at hl 3 rfl) ?_
      refine lv_icmp_ge (tgt := 20) hx hb dJ7_fill_53178_7 (by decide) (fun c_ => ?_) (fun c_ => absurd (nI_le (Nat.le_refl i) hn) c_)
      exact rt_v C hQ rfl hP hD hS ⟨_, rfl, hF⟩ dJ7_fill_53178_20
    | succ k ih =>
      intro i H locs ls hi hP hD hS hl
      refine lv_iload_n hx hb dJ7_fill_53178_5 rfl (lv_at hl 2 rfl) ?_
      refine lv_iload_n hx hb dJ7_fill_53178_6 rfl (lv_at hl 3 rfl) ?_
      refine lv_icmp_ge (tgt := 20) hx hb dJ7_fill_53178_7 (by decide) (fun c_ => absurd c_ (nI_ge (by omega) hn)) (fun c_ => ?_)
      refine lv_aload_n hx hb dJ7_fill_53178_10 rfl (lv_at hl 0 rfl) ?_
      refine lv_iload_n hx hb dJ7_fill_53178_11 rfl (lv_at hl 2 rfl) ?_
      refine lv_iload_n hx hb dJ7_fill_53178_12 rfl (lv_at hl 1 rfl) ?_
      refine s_iast (j := i) hx hb hK.1 hP hD hS 0 0 rfl rfl (vp_in_nI (by omega) hn) (nI_clamp (by omega)) dJ7_fill_53178_13 (fun H locs hP hD hS => ?_)
      have hP : va_P D CL [(h, .inl (cy 0, n, .inl (fl (i + 1) v f)))] H := by rw [← fl_s]; exact hP
      have hD : va_D A [(h, .inl (cy 0, n, .inl (fl (i + 1) v f)))] := by rw [← fl_s]; exact hD
      refine lv_iinc (v := nI (i + 1)) (lv' := [(2, .int (nI (i + 1))), (0, .ref h), (1, .int v), (3, .int (nI n))]) hx hb dJ7_fill_53178_14 hl (k := 2) rfl (nI_succ i).symm (by decide) rfl (fun ls hl => ?_)
      refine lv_goto (tgt := 5) hx hb dJ7_fill_53178_17 (by decide) ?_
      exact ih (i + 1) _ _ ls (by omega) hP hD hS (lv_sub hl [1, 2, 0, 3] rfl)
  refine lv_iconst (v := 0) hx hb dJ7_fill_53178_0 (by decide) ?_
  refine lv_istore_n (lv' := [(2, .int 0), (0, .ref h), (1, .int v)]) hx hb dJ7_fill_53178_1 rfl hl (by decide) rfl (fun ls hl => ?_)
  refine lv_aload_n hx hb dJ7_fill_53178_2 rfl (lv_at hl 1 rfl) ?_
  refine va_alen (v := nI n) hx hb hK.1 hP 0 0 rfl rfl rfl dJ7_fill_53178_3 ?_
  refine lv_istore_n (lv' := [(3, .int (nI n)), (2, .int 0), (0, .ref h), (1, .int v)]) hx hb dJ7_fill_53178_4 rfl hl (by decide) rfl (fun ls hl => ?_)
  exact L n 0 _ _ ls (by omega) (by rw [fl_0]; exact hP) (by rw [fl_0]; exact hD) hS (lv_sub hl [2, 3, 1, 0] rfl)
def wp_fillL (n : Nat) (v : Int64) (f : Nat → Int64) (post : Unit → (Nat → Int64) → Prop) : Prop := post () (fl n v f)
abbrev miJ7_fill_d0a16 : MI := (yJ7_fill_d0a16, cJ7_fill_d0a16, 5, none)
abbrev rmJ7_fill_d0a16 : Room := { frames := 0, cells := 0, slots := 0, locals := 0 }
theorem mfJ7_fill_d0a16 : MF miJ7_fill_d0a16 2 := ⟨t3_88, t1_3, by decide +kernel⟩
set_option maxHeartbeats 4000000 in
theorem c_fillL (l : Launch) (D : va_G) (cy : Nat → ClassId) (n : Nat) (hn : n < 2 ^ 31) (h : Nat) (f : Nat → Int64) (v : Int64) (post : Unit → (Nat → Int64) → Prop) (hF : wp_fillL n v f post) : Ct l D cy miJ7_fill_d0a16 rmJ7_fill_d0a16 emV NP [.ref h, .long v] [(h, .inl (cy 1, n, .inr (.inl f)))] (fun r w1 => ∃ g : Nat → Int64, w1 = [(h, .inl (cy 1, n, .inr (.inl g)))] ∧ post r g) := by
  refine Ct.of (by decide) (Nat.le_of_ble_eq_true rfl) ?_
  intro p e s m args below meth c A ls Q C hQ hA hI hP hD hS hl
  obtain ⟨hx, hb, hr, hml, hown, hts, hK, hlk, hnm⟩ := id C
  have hb : c.code = cJ7_fill_d0a16 := hb
  have hl : lv_has ls 5 [(0, .ref h), (1, .long v)] := hl
  have L : ∀ (k i : Nat) (H : Heap) (locs : List Loc) (ls : Array Slot), i + k = n → va_P D CL [(h, .inl (cy 1, n, .inr (.inl (fl i v f))))] H → va_D A [(h, .inl (cy 1, n, .inr (.inl (fl i v f))))] → va_S A s.heap H locs → lv_has ls 5 [(0, .ref h), (1, .long v), (3, .int (nI i)), (4, .int (nI n))] → W p l e rmJ7_fill_d0a16 s m args below meth c H locs 0 0 Q (F0 m 6 ls []) := by
    intro k
    induction k with
    | zero =>
      intro i H locs ls hi hP hD hS hl
      have hin : i = n := by omega
      subst hin
      refine lv_iload_n hx hb dJ7_fill_d0a16_6 rfl (lv_at hl 2 rfl) ?_
      refine lv_iload hx hb dJ7_fill_d0a16_7 (lv_at hl 3 rfl) ?_
      refine lv_icmp_ge (tgt := 22) hx hb dJ7_fill_d0a16_9 (by decide) (fun c_ => ?_) (fun c_ => absurd (nI_le (Nat.le_refl i) hn) c_)
      exact rt_v C hQ rfl hP hD hS ⟨_, rfl, hF⟩ dJ7_fill_d0a16_22
    | succ k ih =>
      intro i H locs ls hi hP hD hS hl
      refine lv_iload_n hx hb dJ7_fill_d0a16_6 rfl (lv_at hl 2 rfl) ?_
      refine lv_iload hx hb dJ7_fill_d0a16_7 (lv_at hl 3 rfl) ?_
      refine lv_icmp_ge (tgt := 22) hx hb dJ7_fill_d0a16_9 (by decide) (fun c_ => absurd c_ (nI_ge (by omega) hn)) (fun c_ => ?_)
      refine lv_aload_n hx hb dJ7_fill_d0a16_12 rfl (lv_at hl 0 rfl) ?_
      refine lv_iload_n hx hb dJ7_fill_d0a16_13 rfl (lv_at hl 2 rfl) ?_
      refine lv_lload_n hx hb dJ7_fill_d0a16_14 rfl (lv_at hl 1 rfl) ?_
      refine s_last (j := i) hx hb hK.1 hP hD hS 0 1 rfl rfl (vp_in_nI (by omega) hn) (nI_clamp (by omega)) dJ7_fill_d0a16_15 (fun H locs hP hD hS => ?_)
      have hP : va_P D CL [(h, .inl (cy 1, n, .inr (.inl (fl (i + 1) v f))))] H := by rw [← fl_sL]; exact hP
      have hD : va_D A [(h, .inl (cy 1, n, .inr (.inl (fl (i + 1) v f))))] := by rw [← fl_sL]; exact hD
      refine lv_iinc (v := nI (i + 1)) (lv' := [(3, .int (nI (i + 1))), (0, .ref h), (1, .long v), (4, .int (nI n))]) hx hb dJ7_fill_d0a16_16 hl (k := 2) rfl (nI_succ i).symm (by decide) rfl (fun ls hl => ?_)
      refine lv_goto (tgt := 6) hx hb dJ7_fill_d0a16_19 (by decide) ?_
      exact ih (i + 1) _ _ ls (by omega) hP hD hS (lv_sub hl [1, 2, 0, 3] rfl)
  refine lv_iconst (v := 0) hx hb dJ7_fill_d0a16_0 (by decide) ?_
  refine lv_istore_n (lv' := [(3, .int 0), (0, .ref h), (1, .long v)]) hx hb dJ7_fill_d0a16_1 rfl hl (by decide) rfl (fun ls hl => ?_)
  refine lv_aload_n hx hb dJ7_fill_d0a16_2 rfl (lv_at hl 1 rfl) ?_
  refine va_alen (v := nI n) hx hb hK.1 hP 0 1 rfl rfl rfl dJ7_fill_d0a16_3 ?_
  refine lv_istore (lv' := [(4, .int (nI n)), (3, .int 0), (0, .ref h), (1, .long v)]) hx hb dJ7_fill_d0a16_4 hl (by decide) rfl (fun ls hl => ?_)
  exact L n 0 _ _ ls (by omega) (by rw [fl_0]; exact hP) (by rw [fl_0]; exact hD) hS (lv_sub hl [2, 3, 1, 0] rfl)
