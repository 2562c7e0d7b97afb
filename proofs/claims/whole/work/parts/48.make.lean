-- making: arrays whose class is the one that the tables name
section MAKE
variable {p : Program} {l : Launch} {e : Env} {R : Room} {s : State} {m : MethodId} {args : Array Value} {below : List Frame} {meth : Method} {c : Code} {H : Heap} {locs : List Loc} {cells slots : Nat} {Q : State → Prop}
variable {pc : Nat} {ls : Array Slot} {rest st0 : List Value} {A : Nat → Prop} {D : va_G} {cy : Nat → ClassId} {mi mj : MI} {rm : Room} {ws wc wr : va_W} {pe pf : Pe} {As : List Value} {b idx n : Nat}
theorem s_newI (C : Cx p s m args meth c mi D cy) (hA : ∀ q : Nat, s.heap.size ≤ q → A q) (hP : va_P D CL ws H) (hD : va_D A ws) (hS : va_S A s.heap H locs) {k : Int32} {N : Nat} (hn : ¬ k < 0) (hN : k.toNatClampNeg = N) (hb : N * 4 ≤ 536870912) (hc : cells + 1 ≤ R.cells) (hs : slots + N ≤ R.slots) (hw : Cond.arrayClass .int ∈ TB) (hdg : decode mi.2.1 pc = .ok (.newarray .int, 2))
    (kk : ∀ (q : Nat) (H1 : Heap), va_P D CL (ws ++ [(q, .inl (cy 0, N, .inl (fun _ => 0)))]) H1 → va_D A (ws ++ [(q, .inl (cy 0, N, .inl (fun _ => 0)))]) → va_S A s.heap H1 locs → W p l e R s m args below meth c H1 locs (cells + 1) (slots + N) Q (F0 m (pc + 2) ls (.ref q :: rest))) : W p l e R s m args below meth c H locs cells slots Q (F0 m pc ls (.int k :: rest)) := by
  have hK := C.2.2.2.2.2.2.1.1
  refine va_newa (atype := .int) (ty := .int) (a0 := (N, .inl (fun _ => 0))) C.1 C.2.1 (C.2.2.2.2.2.1 _ hw) rfl hK hP hD hS hA (fun _ => rfl) hn hN hb hc hs hdg (fun q cA H1 hK1 hP1 hD1 hS1 => ?_)
  have e : cA = cy 0 := Option.some.inj ((hK1.2 6 _ rfl).2.symm.trans (hK.2 0 _ rfl).2)
  subst e
  exact kk q H1 hP1 hD1 hS1
theorem s_newL (C : Cx p s m args meth c mi D cy) (hA : ∀ q : Nat, s.heap.size ≤ q → A q) (hP : va_P D CL ws H) (hD : va_D A ws) (hS : va_S A s.heap H locs) {k : Int32} {N : Nat} (hn : ¬ k < 0) (hN : k.toNatClampNeg = N) (hb : N * 8 ≤ 536870912) (hc : cells + 1 ≤ R.cells) (hs : slots + N ≤ R.slots) (hw : Cond.arrayClass .long ∈ TB) (hdg : decode mi.2.1 pc = .ok (.newarray .long, 2))
    (kk : ∀ (q : Nat) (H1 : Heap), va_P D CL (ws ++ [(q, .inl (cy 1, N, .inr (.inl (fun _ => 0))))]) H1 → va_D A (ws ++ [(q, .inl (cy 1, N, .inr (.inl (fun _ => 0))))]) → va_S A s.heap H1 locs → W p l e R s m args below meth c H1 locs (cells + 1) (slots + N) Q (F0 m (pc + 2) ls (.ref q :: rest))) : W p l e R s m args below meth c H locs cells slots Q (F0 m pc ls (.int k :: rest)) := by
  have hK := C.2.2.2.2.2.2.1.1
  refine va_newa (atype := .long) (ty := .long) (a0 := (N, .inr (.inl (fun _ => 0)))) C.1 C.2.1 (C.2.2.2.2.2.1 _ hw) rfl hK hP hD hS hA (fun _ => rfl) hn hN hb hc hs hdg (fun q cA H1 hK1 hP1 hD1 hS1 => ?_)
  have e : cA = cy 1 := Option.some.inj ((hK1.2 6 _ rfl).2.symm.trans (hK.2 1 _ rfl).2)
  subst e
  exact kk q H1 hP1 hD1 hS1
theorem s_newZ (C : Cx p s m args meth c mi D cy) (hA : ∀ q : Nat, s.heap.size ≤ q → A q) (hP : va_P D CL ws H) (hD : va_D A ws) (hS : va_S A s.heap H locs) {k : Int32} {N : Nat} (hn : ¬ k < 0) (hN : k.toNatClampNeg = N) (hb : N * 1 ≤ 536870912) (hc : cells + 1 ≤ R.cells) (hs : slots + N ≤ R.slots) (hw : Cond.arrayClass .boolean ∈ TB) (hdg : decode mi.2.1 pc = .ok (.newarray .boolean, 2))
    (kk : ∀ (q : Nat) (H1 : Heap), va_P D CL (ws ++ [(q, .inl (cy 2, N, .inl (fun _ => 0)))]) H1 → va_D A (ws ++ [(q, .inl (cy 2, N, .inl (fun _ => 0)))]) → va_S A s.heap H1 locs → W p l e R s m args below meth c H1 locs (cells + 1) (slots + N) Q (F0 m (pc + 2) ls (.ref q :: rest))) : W p l e R s m args below meth c H locs cells slots Q (F0 m pc ls (.int k :: rest)) := by
  have hK := C.2.2.2.2.2.2.1.1
  refine va_newa (atype := .boolean) (ty := .boolean) (a0 := (N, .inl (fun _ => 0))) C.1 C.2.1 (C.2.2.2.2.2.1 _ hw) rfl hK hP hD hS hA (fun _ => rfl) hn hN hb hc hs hdg (fun q cA H1 hK1 hP1 hD1 hS1 => ?_)
  have e : cA = cy 2 := Option.some.inj ((hK1.2 6 _ rfl).2.symm.trans (hK.2 2 _ rfl).2)
  subst e
  exact kk q H1 hP1 hD1 hS1
theorem s_newP (C : Cx p s m args meth c mi D cy) (hA : ∀ q : Nat, s.heap.size ≤ q → A q) (hP : va_P D CL ws H) (hD : va_D A ws) (hS : va_S A s.heap H locs) {k : Int32} {N : Nat} (hn : ¬ k < 0) (hN : k.toNatClampNeg = N) (hb : N * 4 ≤ 536870912) (hc : cells + 1 ≤ R.cells) (hs : slots + N ≤ R.slots) (hw : Cond.classLink mi.1.cls idx "LivedAgain$Person" ∈ TB) (hdg : decode mi.2.1 pc = .ok (.anewarray idx, 3))
    (kk : ∀ (q : Nat) (H1 : Heap), va_P D CL (ws ++ [(q, .inl (cy 3, N, .inr (.inr (.inr (.inr (fun _ => none))))))]) H1 → va_D A (ws ++ [(q, .inl (cy 3, N, .inr (.inr (.inr (.inr (fun _ => none))))))]) → va_S A s.heap H1 locs → W p l e R s m args below meth c H1 locs (cells + 1) (slots + N) Q (F0 m (pc + 3) ls (.ref q :: rest))) : W p l e R s m args below meth c H locs cells slots Q (F0 m pc ls (.int k :: rest)) := by
  have hK := C.2.2.2.2.2.2.1.1
  refine va_newq C.1 C.2.1 C.2.2.2.2.1 (C.2.2.2.2.2.1 _ hw) (C.2.2.2.2.2.2.1.2.2.2.2.2.1 _ (by decide)) hK hP hD hS hA hn hN hb hc hs hdg (fun q cA H1 hK1 hP1 hD1 hS1 => ?_)
  obtain ⟨_, _, _, _, _, h1⟩ := (hK1.2 6 _ rfl).2
  obtain ⟨_, _, _, _, _, h2⟩ := (hK.2 3 _ rfl).2
  have e : cA = cy 3 := Option.some.inj (h1.symm.trans h2)
  subst e
  exact kk q H1 hP1 hD1 hS1
theorem s_newV (C : Cx p s m args meth c mi D cy) (hA : ∀ q : Nat, s.heap.size ≤ q → A q) (hP : va_P D CL ws H) (hD : va_D A ws) (hS : va_S A s.heap H locs) {k : Int32} {N : Nat} (hn : ¬ k < 0) (hN : k.toNatClampNeg = N) (hb : N * 4 ≤ 536870912) (hc : cells + 1 ≤ R.cells) (hs : slots + N ≤ R.slots) (hw : Cond.classLink mi.1.cls idx "LivedAgain$Village" ∈ TB) (hdg : decode mi.2.1 pc = .ok (.anewarray idx, 3))
    (kk : ∀ (q : Nat) (H1 : Heap), va_P D CL (ws ++ [(q, .inl (cy 4, N, .inr (.inr (.inr (.inr (fun _ => none))))))]) H1 → va_D A (ws ++ [(q, .inl (cy 4, N, .inr (.inr (.inr (.inr (fun _ => none))))))]) → va_S A s.heap H1 locs → W p l e R s m args below meth c H1 locs (cells + 1) (slots + N) Q (F0 m (pc + 3) ls (.ref q :: rest))) : W p l e R s m args below meth c H locs cells slots Q (F0 m pc ls (.int k :: rest)) := by
  have hK := C.2.2.2.2.2.2.1.1
  refine va_newq C.1 C.2.1 C.2.2.2.2.1 (C.2.2.2.2.2.1 _ hw) (C.2.2.2.2.2.2.1.2.2.2.2.2.1 _ (by decide)) hK hP hD hS hA hn hN hb hc hs hdg (fun q cA H1 hK1 hP1 hD1 hS1 => ?_)
  obtain ⟨_, _, _, _, _, h1⟩ := (hK1.2 6 _ rfl).2
  obtain ⟨_, _, _, _, _, h2⟩ := (hK.2 4 _ rfl).2
  have e : cA = cy 4 := Option.some.inj (h1.symm.trans h2)
  subst e
  exact kk q H1 hP1 hD1 hS1
abbrev rowW (cy : Nat → ClassId) (r : Nat → Nat) (M : Nat → Nat → Int32) : va_W := [(r 0, .inl (cy 0, 40, .inl (M 0))), (r 1, .inl (cy 0, 40, .inl (M 1))), (r 2, .inl (cy 0, 40, .inl (M 2))), (r 3, .inl (cy 0, 40, .inl (M 3))), (r 4, .inl (cy 0, 40, .inl (M 4))), (r 5, .inl (cy 0, 40, .inl (M 5))), (r 6, .inl (cy 0, 40, .inl (M 6))), (r 7, .inl (cy 0, 40, .inl (M 7)))]
theorem row_pl (c0 : ClassId) (r : Nat → Nat) (f : Nat → va_E) : va_pl ([] ++ (List.range 8).map r) (vr_up f ((List.range 8).map r) (.inl (c0, 40, .inl (fun _ => 0)))) = [(r 0, .inl (c0, 40, .inl (fun _ => 0))), (r 1, .inl (c0, 40, .inl (fun _ => 0))), (r 2, .inl (c0, 40, .inl (fun _ => 0))), (r 3, .inl (c0, 40, .inl (fun _ => 0))), (r 4, .inl (c0, 40, .inl (fun _ => 0))), (r 5, .inl (c0, 40, .inl (fun _ => 0))), (r 6, .inl (c0, 40, .inl (fun _ => 0))), (r 7, .inl (c0, 40, .inl (fun _ => 0)))] := by
  have e : (List.range 8).map r = [r 0, r 1, r 2, r 3, r 4, r 5, r 6, r 7] := rfl
  rw [e]
  simp [va_pl, vr_up]
theorem s_newG (C : Cx p s m args meth c mi D cy) (hA : ∀ q : Nat, s.heap.size ≤ q → A q) (hP : va_P D CL ws H) (hD : va_D A ws) (hS : va_S A s.heap H locs) (hc : cells + 9 ≤ R.cells) (hs : slots + 328 ≤ R.slots) (hw : Cond.classLink mi.1.cls idx "[[I" ∈ TB) (hwi : Cond.arrayClass .int ∈ TB) (hdg : decode mi.2.1 pc = .ok (.multianewarray idx 2, 4))
    (kk : ∀ (q : Nat) (r : Nat → Nat) (H1 : Heap), va_P D CL ((ws ++ [(q, .inl (cy 5, 8, .inr (.inr (.inr (.inr (rO r))))))]) ++ rowW cy r (fun _ _ => 0)) H1 → va_D A ((ws ++ [(q, .inl (cy 5, 8, .inr (.inr (.inr (.inr (rO r))))))]) ++ rowW cy r (fun _ _ => 0)) → va_S A s.heap H1 locs → W p l e R s m args below meth c H1 locs (cells + 9) (slots + 328) Q (F0 m (pc + 4) ls (.ref q :: rest))) : W p l e R s m args below meth c H locs cells slots Q (F0 m pc ls (.int 40 :: .int 8 :: rest)) := by
  have hK := C.2.2.2.2.2.2.1.1
  have hP0 : va_P D CL (ws ++ va_pl [] (fun _ => .inr (0, []))) H := by rw [show va_pl [] (fun _ => (.inr (0, []) : va_E)) = [] from rfl, List.append_nil]; exact hP
  have hD0 : va_D A (ws ++ va_pl [] (fun _ => .inr (0, []))) := by rw [show va_pl [] (fun _ => (.inr (0, []) : va_E)) = [] from rfl, List.append_nil]; exact hD
  refine va_mna (ty := .int) (cy := cy 0) (N' := 8) (K' := 40) (z := (40, .inl (fun _ => 0))) C.1 C.2.1 C.2.2.2.2.1 (C.2.2.2.2.2.1 _ hw) C.2.2.2.2.2.2.1.2.2.2.2.2.2 (C.2.2.2.2.2.1 _ hwi) (hK.2 0 _ rfl).2 hK hP0 hD0 hS hA (by decide) (by decide) (by decide) (by decide) (by decide) (by decide) (by decide) rfl rfl hc hs (fun c9 => by show ({ cls := c9, slots := Array.replicate 40 (.int 0), vm := .none } : Cell) = _; exact arrV_new c9 40 (.int 0)) hdg (fun q r cA H1 h1 h2 hK1 hP1 hD1 hS1 => ?_)
  have e : cA = cy 5 := Option.some.inj ((hK1.2 6 _ rfl).2.symm.trans (hK.2 5 _ rfl).2)
  subst e
  rw [row_pl] at hP1 hD1
  exact kk q r H1 hP1 hD1 hS1
-- a private constructor of a nest mate
theorem cN_t {ρ : Type} {em : ρ → Option Value} {post : ρ → va_W → Prop} (C : Cx p s m args meth c mi D cy) (hA : ∀ q : Nat, s.heap.size ≤ q → A q) (hP : va_P D CL ws H) (hD : va_D A ws) (hS : va_S A s.heap H locs) (mf : MF mj n) (hin : Cond.instanceMethod mj.1 ∈ TB) (hl : va_Nw (.methodLinkNest mi.1.cls idx mj.1 "LivedAgain") s) (hM : Ct l D cy mj rm em pf (.ref b :: As) wc post) (hret : mj.2.2.2 = none) (hnm1 : mj.1.name = "<init>")
    (isC isR : List Nat) (hC : isC.map (fun i => ws[i]?) = wc.map some) (hR : isR.map (fun i => ws[i]?) = wr.map some) (hnC : va_nd isC = true) (hnR : va_nd isR = true) (hdis : ∀ i ∈ isR, i ∉ isC) (hO : PO D pf wc H)
    (hn : As.length = n) (hsz : ls.size = mi.2.2.1) (hst : st0 = As.reverse ++ .ref b :: rest) (hW : (rest.map fun v => v.category).sum ≤ 8) (hdg : decode mi.2.1 pc = .ok (.invokespecial idx, 3)) (hRm : Rm R rm mj.2.2.1) (hf : cells + rm.cells ≤ R.cells ∧ slots + rm.slots ≤ R.slots)
    (kk : ∀ (r : ρ) (w1 : va_W) (H1 : Heap) (locs1 : List Loc), post r w1 → va_P D CL (wr ++ w1) H1 → va_D A (wr ++ w1) → va_S A s.heap H1 locs1 → W p l e R s m args below meth c H1 locs1 (cells + rm.cells) (slots + rm.slots) Q (F0 m (pc + 3) ls ((em r).toList ++ rest))) : W p l e R s m args below meth c H locs cells slots Q (F0 m pc ls st0) := by
  obtain ⟨hx, hb, hr, hml, hown, hts, hK, hlk, hnm⟩ := id C
  have hcb := va_cnB (R := R) (own := mi.1.cls) (index := idx) (host := "LivedAgain") (y := mj.1) (bytes := mj.2.1) (maxL := mj.2.2.1) (ret := mj.2.2.2) (Ts := TB) (ws := wd mj) (rm := rm) n hts (wd_good mf.1) rfl rfl rfl hl (hts _ mf.2.1) mf.2.2 hRm
  rw [hret] at hcb
  exact go_ct (va_runIN (Ts := TB) (nL := mi.2.2.1) (As := As) (rest := rest) ⟨hx, hb, hml, hown, hts⟩ (hM H.size) ⟨hcb, hnm1, hts _ hin⟩ ⟨bl_ct, pre_ct C hP hD isC hC hnC hO⟩ rfl hn hsz hst (lv_room hW) hdg hf) hA hP hD hS isC isR hC hR hnR hdis kk
end MAKE
