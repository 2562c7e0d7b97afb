-- people: cells that nobody changes once they are made
def kc : Nat → String
  | 1 => "LivedAgain$Farmer"
  | 2 => "LivedAgain$Gambler"
  | 3 => "LivedAgain$Saint"
  | 4 => "LivedAgain$Widow"
  | _ => "LivedAgain$Stranger"
theorem kind5 {k : Nat} (h1 : 1 ≤ k) (h5 : k ≤ 5) : k = 1 ∨ k = 2 ∨ k = 3 ∨ k = 4 ∨ k = 5 := by omega
/-- a person's cell, by its kind -/
theorem pe_cl {D : va_G} {pe : Pe} {H : Heap} {a : Nat} (hO : PR D pe H) (ha : a ∈ pe.1) : ∃ (ci : Nat) (Cn : String), Cn = kc (pe.2 a).1 ∧ CL[ci]? = some (Cn, TX0, 4) ∧ va_P D CL [(a, .inr (ci, [.int (pe.2 a).2.1, .int (pe.2 a).2.2.1, .int (pe.2 a).2.2.2.1, .int (pe.2 a).2.2.2.2]))] H ∧ (∀ w ∈ u_ws Cn TX0 4, w ∈ TB) ∧ (Cn, "LivedAgain$Person") ∈ NWs := by
  obtain ⟨hat, h1, h5⟩ := hO a ha
  have hP : ∀ ci : Nat, pci (pe.2 a).1 = ci → va_P D CL [(a, .inr (ci, [.int (pe.2 a).2.1, .int (pe.2 a).2.2.1, .int (pe.2 a).2.2.2.1, .int (pe.2 a).2.2.2.2]))] H := by
    intro ci hci k q hk
    have hk0 : k = 0 := by
      have := (List.getElem?_eq_some_iff.mp hk).1
      simpa using this
    subst hk0
    cases hk
    subst hci
    exact hat
  rcases kind5 h1 h5 with h | h | h | h | h
  · exact ⟨0, "LivedAgain$Farmer", by rw [h]; rfl, rfl, hP 0 (by rw [h]; rfl), inTX0, by decide⟩
  · exact ⟨2, "LivedAgain$Gambler", by rw [h]; rfl, rfl, hP 2 (by rw [h]; rfl), inTX2, by decide⟩
  · exact ⟨4, "LivedAgain$Saint", by rw [h]; rfl, rfl, hP 4 (by rw [h]; rfl), inTX5, by decide⟩
  · exact ⟨9, "LivedAgain$Widow", by rw [h]; rfl, rfl, hP 9 (by rw [h]; rfl), inTX10, by decide⟩
  · exact ⟨5, "LivedAgain$Stranger", by rw [h]; rfl, rfl, hP 5 (by rw [h]; rfl), inTX6, by decide⟩
theorem pe_recv {D : va_G} {cy : Nat → ClassId} {s : State} {pe : Pe} {H : Heap} {a : Nat} (hK : KW D cy s) (hO : PR D pe H) (ha : a ∈ pe.1) : ∃ cell : Cell, H[a]? = some cell ∧ cell.vm.isStatics = false ∧ s.vm.findClass (kc (pe.2 a).1) = some cell.cls := by
  obtain ⟨ci, Cn, rfl, hc, hP, -, -⟩ := pe_cl hO ha
  exact va_recv hK.1 hP (q0 := 0) hc rfl
theorem pe_any {D : va_G} {cy : Nat → ClassId} {s : State} {pe : Pe} {H : Heap} {a : Nat} (hK : KW D cy s) (hO : PR D pe H) (ha : a ∈ pe.1) : va_Any "LivedAgain$Person" s H a := by
  obtain ⟨ci, Cn, -, hc, hP, -, hn⟩ := pe_cl hO ha
  refine va_rAny hK.1 hP (q0 := 0) rfl hc (fun comp c0 h1 h2 => ?_)
  obtain ⟨c, t, f1, f2, f3⟩ := Cond.castable_spec (va_Nw.use (A := #[]) rfl (hK.2.1 _ hn))
  cases h1.symm.trans f2
  cases h2.symm.trans f1
  exact f3
theorem pe_at {D : va_G} {cy : Nat → ClassId} {s : State} {pe : Pe} {H : Heap} {a : Nat} (hK : KW D cy s) (hO : PR D pe H) (ha : a ∈ pe.1) : ∃ cC : ClassId, ClassAt s (kc (pe.2 a).1) cC := by
  obtain ⟨ci, Cn, rfl, hc, -, -, -⟩ := pe_cl hO ha
  exact ⟨_, (hK.1.1 ci _ hc).2⟩
section PEOPLE
variable {p : Program} {l : Launch} {e : Env} {R : Room} {s : State} {m : MethodId} {args : Array Value} {below : List Frame} {meth : Method} {c : Code} {H : Heap} {locs : List Loc} {cells slots : Nat} {Q : State → Prop}
variable {pc : Nat} {ls : Array Slot} {rest st0 : List Value} {A : Nat → Prop} {D : va_G} {cy : Nat → ClassId} {mi mj : MI} {rm : Room} {ws wc wr : va_W} {pe pf : Pe} {As : List Value} {a idx n : Nat}
theorem pe_get {ref : String} (C : Cx p s m args meth c mi D cy) (hO : PR D pe H) (ha : a ∈ pe.1) (k : Nat) (hk : k < 4) (hlink : (Cond.fieldLink mi.1.cls idx ref (TX0 k).2.1 (TX0 k).2.2.1).before args s = true) (hsame : ∀ x, s.fieldFound? (TX0 k).1 (TX0 k).2.1 (TX0 k).2.2.1 = some x → s.fieldFound? ref (TX0 k).2.1 (TX0 k).2.2.1 = some x) {v : Value} (hv : ([.int (pe.2 a).2.1, .int (pe.2 a).2.2.1, .int (pe.2 a).2.2.2.1, .int (pe.2 a).2.2.2.2] : List Value)[k]? = some v) (hdg : decode mi.2.1 pc = .ok (.getfield idx, 3))
    (kk : W p l e R s m args below meth c H locs cells slots Q (F0 m (pc + 3) ls (v :: rest))) : W p l e R s m args below meth c H locs cells slots Q (F0 m pc ls (.ref a :: rest)) := by
  obtain ⟨ci, Cn, -, hc, hP, hin, -⟩ := pe_cl hO ha
  exact va_get (D := D) (ci := ci) (v := v) (C := Cn) (T := TX0) (N := 4) C.1 C.2.1 C.2.2.2.2.2.1 hin C.2.2.2.2.1 C.2.2.2.2.2.2.1.1 hP 0 rfl hc k hk hlink hsame hv hdg kk
theorem pe_get0 {ref : String} (C : Cx p s m args meth c mi D cy) (hO : PR D pe H) (ha : a ∈ pe.1) (hlink : (Cond.fieldLink mi.1.cls idx ref "number" "I").before args s = true) (hsame : ∀ x, s.fieldFound? "LivedAgain$Person" "number" "I" = some x → s.fieldFound? ref "number" "I" = some x) (hdg : decode mi.2.1 pc = .ok (.getfield idx, 3)) (kk : W p l e R s m args below meth c H locs cells slots Q (F0 m (pc + 3) ls (.int (pe.2 a).2.1 :: rest))) : W p l e R s m args below meth c H locs cells slots Q (F0 m pc ls (.ref a :: rest)) := pe_get C hO ha 0 (by decide) hlink hsame rfl hdg kk
theorem pe_get1 {ref : String} (C : Cx p s m args meth c mi D cy) (hO : PR D pe H) (ha : a ∈ pe.1) (hlink : (Cond.fieldLink mi.1.cls idx ref "chance" "I").before args s = true) (hsame : ∀ x, s.fieldFound? "LivedAgain$Person" "chance" "I" = some x → s.fieldFound? ref "chance" "I" = some x) (hdg : decode mi.2.1 pc = .ok (.getfield idx, 3)) (kk : W p l e R s m args below meth c H locs cells slots Q (F0 m (pc + 3) ls (.int (pe.2 a).2.2.1 :: rest))) : W p l e R s m args below meth c H locs cells slots Q (F0 m pc ls (.ref a :: rest)) := pe_get C hO ha 1 (by decide) hlink hsame rfl hdg kk
theorem pe_get2 {ref : String} (C : Cx p s m args meth c mi D cy) (hO : PR D pe H) (ha : a ∈ pe.1) (hlink : (Cond.fieldLink mi.1.cls idx ref "gain" "I").before args s = true) (hsame : ∀ x, s.fieldFound? "LivedAgain$Person" "gain" "I" = some x → s.fieldFound? ref "gain" "I" = some x) (hdg : decode mi.2.1 pc = .ok (.getfield idx, 3)) (kk : W p l e R s m args below meth c H locs cells slots Q (F0 m (pc + 3) ls (.int (pe.2 a).2.2.2.1 :: rest))) : W p l e R s m args below meth c H locs cells slots Q (F0 m pc ls (.ref a :: rest)) := pe_get C hO ha 2 (by decide) hlink hsame rfl hdg kk
theorem pe_get3 {ref : String} (C : Cx p s m args meth c mi D cy) (hO : PR D pe H) (ha : a ∈ pe.1) (hlink : (Cond.fieldLink mi.1.cls idx ref "loss" "I").before args s = true) (hsame : ∀ x, s.fieldFound? "LivedAgain$Person" "loss" "I" = some x → s.fieldFound? ref "loss" "I" = some x) (hdg : decode mi.2.1 pc = .ok (.getfield idx, 3)) (kk : W p l e R s m args below meth c H locs cells slots Q (F0 m (pc + 3) ls (.int (pe.2 a).2.2.2.2 :: rest))) : W p l e R s m args below meth c H locs cells slots Q (F0 m pc ls (.ref a :: rest)) := pe_get C hO ha 3 (by decide) hlink hsame rfl hdg kk
-- a virtual call on a person: x is named, mj is what its kind has
theorem run_U {Pc : Array Value → State → Prop} {Qc : Array Value → State → Outcome → State → Prop} {free : Addr → Prop} (C : Cx p s m args meth c mi D cy) (hO : PR D pe H) (ha : a ∈ pe.1) {k : Nat} (hk : (pe.2 a).1 = k) (x : MethodName) (ow : String) (mf : MF mj n) (hin : Cond.instanceMethod mj.1 ∈ TB) (hl : Cond.methodLink mi.1.cls idx x ∈ TB) (hsame : Cond.sameMethod x.cls ow x.name x.desc ∈ TB) (hdc : va_Decl s ⟨ow, x.name, x.desc⟩) (hsel : Cond.selects (kc k) x mj.1 ∈ TB) (hxd : ow ≠ "java/lang/invoke/MethodHandle" ∧ ow ≠ "java/lang/invoke/VarHandle" ∧ (parseMethodDescriptor x.desc).map (fun d => d.parameters.length) = some n)
    (hM : Met l mj.1 (wd mj) rm Pc Qc rm.cells rm.slots free) (hbl : FrameBlind Pc) (hp : ∀ U : State, U.heap = H → s.WarmedH U.vm → Pc (Value.ref a :: As).toArray U)
    (hn : As.length = n) (hsz : ls.size = mi.2.2.1) (hst : st0 = As.reverse ++ .ref a :: rest) (hW : (rest.map fun v => v.category).sum ≤ 8) (hdg : decode mi.2.1 pc = .ok (.invokevirtual idx, 3)) (hR : Rm R rm mj.2.2.1) (hf : cells + rm.cells ≤ R.cells ∧ slots + rm.slots ≤ R.slots) :
    va_Run p l e R s m args below meth c H locs cells slots rm.cells rm.slots (F0 m pc ls st0) rest (Qc (Value.ref a :: As).toArray) free := by
  obtain ⟨hx, hb, hr, hml, hown, hts, hK, hlk, hnm⟩ := C
  refine va_runU (Ts := TB) (nL := mi.2.2.1) (As := As) (rest := rest) (C := kc k) (owner := ow) (x := x) (n := n) (index := idx) ⟨hx, hb, hml, hown, hts⟩ hM ⟨⟨rfl, rfl, hR.1, hR.2, pay_in hts (wd_good mf.1), List.mem_cons_self⟩, hts _ mf.1, hts _ mf.2.1, ⟨hxd.1, hxd.2.1⟩, fun sig h => ?_, hts _ hl, hts _ hsame, hdc, hts _ hsel, hts _ hin⟩ ⟨hbl, by rw [← hk]; exact pe_recv hK hO ha, hp⟩ rfl hn hsz hst (lv_room hW) hdg hf
  have h2 := hxd.2.2
  rw [h] at h2
  exact (Option.some.inj h2).symm
theorem cU_r {ρ : Type} {em : ρ → Option Value} {post : ρ → Prop} (C : Cx p s m args meth c mi D cy) (hO : PR D pe H) (ha : a ∈ pe.1) {k : Nat} (hk : (pe.2 a).1 = k) (x : MethodName) (ow : String) (mf : MF mj n) (hin : Cond.instanceMethod mj.1 ∈ TB) (hl : Cond.methodLink mi.1.cls idx x ∈ TB) (hsame : Cond.sameMethod x.cls ow x.name x.desc ∈ TB) (hdc : va_Decl s ⟨ow, x.name, x.desc⟩) (hsel : Cond.selects (kc k) x mj.1 ∈ TB) (hxd : ow ≠ "java/lang/invoke/MethodHandle" ∧ ow ≠ "java/lang/invoke/VarHandle" ∧ (parseMethodDescriptor x.desc).map (fun d => d.parameters.length) = some n)
    (hM : Cr l D cy mj rm em pe (.ref a :: As) [] post) (hrc : rm.cells = 0) (hrs : rm.slots = 0)
    (hn : As.length = n) (hsz : ls.size = mi.2.2.1) (hst : st0 = As.reverse ++ .ref a :: rest) (hW : (rest.map fun v => v.category).sum ≤ 8) (hdg : decode mi.2.1 pc = .ok (.invokevirtual idx, 3)) (hR : Rm R rm mj.2.2.1) (hf : cells ≤ R.cells ∧ slots ≤ R.slots)
    (kk : ∀ r : ρ, post r → W p l e R s m args below meth c H locs cells slots Q (F0 m (pc + 3) ls ((em r).toList ++ rest))) : W p l e R s m args below meth c H locs cells slots Q (F0 m pc ls st0) := by
  have h := run_U (p := p) (e := e) (below := below) (locs := locs) (cells := cells) (slots := slots) (R := R) C hO ha hk x ow mf hin hl hsame hdc hsel hxd hM bl_cr (pre_cr C (fun k q h => by simp at h) hO) hn hsz hst hW hdg hR (by rw [hrc, hrs]; exact hf)
  rw [hrc, hrs] at h
  exact go_cr h kk
theorem cU_t {ρ : Type} {em : ρ → Option Value} {post : ρ → va_W → Prop} (C : Cx p s m args meth c mi D cy) (hA : ∀ q : Nat, s.heap.size ≤ q → A q) (hP : va_P D CL ws H) (hD : va_D A ws) (hS : va_S A s.heap H locs) (hO : PR D pe H) (ha : a ∈ pe.1) {k : Nat} (hk : (pe.2 a).1 = k) (x : MethodName) (ow : String) (mf : MF mj n) (hin : Cond.instanceMethod mj.1 ∈ TB) (hl : Cond.methodLink mi.1.cls idx x ∈ TB) (hsame : Cond.sameMethod x.cls ow x.name x.desc ∈ TB) (hdc : va_Decl s ⟨ow, x.name, x.desc⟩) (hsel : Cond.selects (kc k) x mj.1 ∈ TB) (hxd : ow ≠ "java/lang/invoke/MethodHandle" ∧ ow ≠ "java/lang/invoke/VarHandle" ∧ (parseMethodDescriptor x.desc).map (fun d => d.parameters.length) = some n)
    (hM : Ct l D cy mj rm em pe (.ref a :: As) wc post)
    (isC isR : List Nat) (hC : isC.map (fun i => ws[i]?) = wc.map some) (hRr : isR.map (fun i => ws[i]?) = wr.map some) (hnC : va_nd isC = true) (hnR : va_nd isR = true) (hdis : ∀ i ∈ isR, i ∉ isC) (hPO : PO D pe wc H)
    (hn : As.length = n) (hsz : ls.size = mi.2.2.1) (hst : st0 = As.reverse ++ .ref a :: rest) (hW : (rest.map fun v => v.category).sum ≤ 8) (hdg : decode mi.2.1 pc = .ok (.invokevirtual idx, 3)) (hR : Rm R rm mj.2.2.1) (hf : cells + rm.cells ≤ R.cells ∧ slots + rm.slots ≤ R.slots)
    (kk : ∀ (r : ρ) (w1 : va_W) (H1 : Heap) (locs1 : List Loc), post r w1 → va_P D CL (wr ++ w1) H1 → va_D A (wr ++ w1) → va_S A s.heap H1 locs1 → W p l e R s m args below meth c H1 locs1 (cells + rm.cells) (slots + rm.slots) Q (F0 m (pc + 3) ls ((em r).toList ++ rest))) : W p l e R s m args below meth c H locs cells slots Q (F0 m pc ls st0) :=
  go_ct (run_U C hO ha hk x ow mf hin hl hsame hdc hsel hxd (hM H.size) bl_ct (pre_ct C hP hD isC hC hnC hPO) hn hsz hst hW hdg hR hf) hA hP hD hS isC isR hC hRr hnR hdis kk
-- super.m(..) on a person
theorem cX_t {ρ : Type} {em : ρ → Option Value} {post : ρ → va_W → Prop} (C : Cx p s m args meth c mi D cy) (hA : ∀ q : Nat, s.heap.size ≤ q → A q) (hP : va_P D CL ws H) (hD : va_D A ws) (hS : va_S A s.heap H locs) (hO : PR D pe H) (ha : a ∈ pe.1) (mf : MF mj n) (hin : Cond.instanceMethod mj.1 ∈ TB) (hl : Cond.methodLink mi.1.cls idx mj.1 ∈ TB) (hsame : Cond.sameMethod mj.1.cls mj.1.cls mj.1.name mj.1.desc ∈ TB) (hsup : Cond.superclass mi.1.cls mj.1.cls ∈ TB) (hno : mj.1.name ≠ "<init>")
    (hM : Ct l D cy mj rm em pe (.ref a :: As) wc post)
    (isC isR : List Nat) (hC : isC.map (fun i => ws[i]?) = wc.map some) (hRr : isR.map (fun i => ws[i]?) = wr.map some) (hnC : va_nd isC = true) (hnR : va_nd isR = true) (hdis : ∀ i ∈ isR, i ∉ isC) (hPO : PO D pe wc H)
    (hn : As.length = n) (hsz : ls.size = mi.2.2.1) (hst : st0 = As.reverse ++ .ref a :: rest) (hW : (rest.map fun v => v.category).sum ≤ 8) (hdg : decode mi.2.1 pc = .ok (.invokespecial idx, 3)) (hR : Rm R rm mj.2.2.1) (hf : cells + rm.cells ≤ R.cells ∧ slots + rm.slots ≤ R.slots)
    (kk : ∀ (r : ρ) (w1 : va_W) (H1 : Heap) (locs1 : List Loc), post r w1 → va_P D CL (wr ++ w1) H1 → va_D A (wr ++ w1) → va_S A s.heap H1 locs1 → W p l e R s m args below meth c H1 locs1 (cells + rm.cells) (slots + rm.slots) Q (F0 m (pc + 3) ls ((em r).toList ++ rest))) : W p l e R s m args below meth c H locs cells slots Q (F0 m pc ls st0) := by
  obtain ⟨hx, hb, hr, hml, hown, hts, hK, hlk, hnm⟩ := id C
  obtain ⟨cC, hat⟩ := pe_at hK hO ha
  refine go_ct (va_runSU (Ts := TB) (nL := mi.2.2.1) (As := As) (rest := rest) (n := n) (index := idx) hat ⟨hx, hb, hml, hown, hts⟩ (hM H.size) ⟨⟨rfl, rfl, hR.1, hR.2, pay_in hts (wd_good mf.1), List.mem_cons_self⟩, hts _ hl, hts _ hsame, hts _ hsup, hts _ hin, hts _ mf.2.1, hts _ mf.1, hno, fun sig h => ?_⟩ ⟨bl_ct, pe_recv hK hO ha, pre_ct C hP hD isC hC hnC hPO⟩ rfl hn hsz hst (lv_room hW) hdg hf) hA hP hD hS isC isR hC hRr hnR hdis kk
  have h2 := mf.2.2.2.2
  rw [h] at h2
  exact (Option.some.inj h2).symm
/-- super.m(..) where the superclass inherits m itself -/
theorem cY_r {ρ : Type} {em : ρ → Option Value} {post : ρ → Prop} (C : Cx p s m args meth c mi D cy) (hO : PR D pe H) (ha : a ∈ pe.1) (x : MethodName) (mf : MF mj n) (hin : Cond.instanceMethod mj.1 ∈ TB) (hl : Cond.methodLink mi.1.cls idx x ∈ TB) (hsame : Cond.sameMethod x.cls mj.1.cls x.name x.desc ∈ TB) (hxy : mj.1 = ⟨mj.1.cls, x.name, x.desc⟩) (hsup : Cond.superclass mi.1.cls x.cls ∈ TB) (hsup2 : Cond.superclass x.cls mj.1.cls ∈ TB) (hno : x.name ≠ "<init>")
    (hM : Cr l D cy mj rm em pe (.ref a :: As) [] post) (hrc : rm.cells = 0) (hrs : rm.slots = 0)
    (hn : As.length = n) (hsz : ls.size = mi.2.2.1) (hst : st0 = As.reverse ++ .ref a :: rest) (hW : (rest.map fun v => v.category).sum ≤ 8) (hdg : decode mi.2.1 pc = .ok (.invokespecial idx, 3)) (hR : Rm R rm mj.2.2.1) (hf : cells ≤ R.cells ∧ slots ≤ R.slots)
    (kk : ∀ r : ρ, post r → W p l e R s m args below meth c H locs cells slots Q (F0 m (pc + 3) ls ((em r).toList ++ rest))) : W p l e R s m args below meth c H locs cells slots Q (F0 m pc ls st0) := by
  obtain ⟨hx, hb, hr, hml, hown, hts, hK, hlk, hnm⟩ := id C
  obtain ⟨cC, hat⟩ := pe_at hK hO ha
  obtain ⟨cellB, hcB, hoB, hclB⟩ := pe_recv hK hO ha
  obtain ⟨hfc, kB, hkB, -⟩ := hat
  cases hfc.symm.trans hclB
  have hKb : Back l R p e below s args mj.1 3 8 (PreOf R rm.cells rm.slots (va_Pc (.ref a :: As) (PRd D cy pe []))) (PostOf (QR em post) rm.cells rm.slots (fun _ => False)) := back_of (bytes := mj.2.1) (maxL := mj.2.2.1) (ret := mj.2.2.2) hM bl_cr rfl rfl hR.1 hR.2 (pay_in hts (wd_good mf.1)) List.mem_cons_self (fun a' U hW => word_at hW (TB_good _ mf.2.1) (hts _ mf.2.1))
  obtain ⟨mk, methM, hnamed, hmethM, hstM, habM⟩ := Cond.instanceMethod_spec (hts _ hin)
  obtain ⟨methM', cM, hmethM', -, -, -, -, -, -, hsigM⟩ := Cond.code_spec hnamed (hts _ mf.1)
  cases hmethM.symm.trans hmethM'
  obtain ⟨ps, dk, kp, hps, hdk, hkp, hsuper, -, -, hnid⟩ := Cond.superclass_spec hown (hts _ hsup)
  obtain ⟨pp, dk2, kp2, hps2, hdk2, hkp2, hsuper2, -, -, -⟩ := Cond.superclass_spec hps (hts _ hsup2)
  have hpm : pp = mk.cls := Option.some.inj (hps2.symm.trans (findClass_of_methodNamed hnamed))
  have hsub : s.vm.isSubclass ps mk.cls = true := by
    rw [← hpm]
    have hlt := (Array.getElem?_eq_some_iff.mp hdk2).1
    obtain ⟨z, hz⟩ : ∃ z, s.vm.classes.size = z + 1 := ⟨s.vm.classes.size - 1, by omega⟩
    unfold Vm.isSubclass
    rw [hz]
    simp [Vm.isSubclassAux, hdk2, hsuper2]
  have hn2 : s.methodNamed? ⟨mj.1.cls, x.name, x.desc⟩ = some mk := by rw [← hxy]; exact hnamed
  refine go_cr (a := (Value.ref a :: As).toArray) (rest := rest) (em := em) (post := post) ?_ kk
  intro T hT X
  obtain ⟨vm₁, X₁, hstep₁⟩ := X.invokespecialUp hx hown (hts _ hl) (hts _ hsame) hn2 hmethM hstM habM hno hdk hnid hps hsuper hsub (a := a) (cell := cellB) (by rw [hT]; exact hcB)
    (fun z h => by rw [h] at hoB; cases hoB) hkB (g := F0 m pc ls st0) rfl (argsL := As) (rest := rest) (by
      have h2 := mf.2.2.2.2
      rw [hsigM] at h2
      rw [hn]
      exact (Option.some.inj h2).symm) hst (by rw [hb]; exact hdg)
  obtain ⟨v, B, X', hpost, hsteps⟩ := hKb m meth c ⟨T.setVm vm₁, locs, cells, slots⟩ { (F0 m pc ls st0) with stack := rest } (.invokespecial idx) mk (Value.ref a :: As).toArray X₁ rfl (hsz.trans hml.symm) (by rw [hb]; exact hdg) (lv_room (m := m) (pc := pc) (ls := ls) (rest := rest) hW) (X₁.named hnamed) ⟨by rw [hrc]; exact hf.1, by rw [hrs]; exact hf.2, pre_cr C (fun k q h => by simp at h) hO (T.setVm vm₁) hT X₁.warmed⟩
  obtain ⟨U', l2, c2, s2⟩ := B
  obtain ⟨g', mk2, t, L, e1, e2, hq, h1, hL, h2, h3⟩ := hpost
  dsimp only [Pt.U, Pt.locs, Pt.cells, Pt.slots] at X' e1 e2 h1 h2 h3 hsteps
  subst h1
  subst h2
  subst h3
  rw [hrc, hrs] at X'
  exact ⟨v, (T.setVm vm₁).calling g' mk2 (Value.ref a :: As).toArray, t, U', L, hT, X', hL, e1, e2, hq, fun target h => hstep₁ _ (by rw [doInvoke_state]; exact hsteps.trans h)⟩
end PEOPLE
theorem sameF_gain {args : Array Value} {s : State} (h : (Cond.sameField "LivedAgain$Saint" "LivedAgain$Person" "gain" "I").before args s = true) : ∀ x, s.fieldFound? "LivedAgain$Person" "gain" "I" = some x → s.fieldFound? "LivedAgain$Saint" "gain" "I" = some x := fun x hx => u_same h x hx
