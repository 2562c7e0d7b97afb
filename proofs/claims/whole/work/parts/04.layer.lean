-- OUR OWN LAYER: classes, tables' facts, contracts in one form, steps over them
abbrev CL : List vw_C := [(RX0, TX0, 4), (RX1, TX1, 6), (RX2, TX2, 4), (RX4, TX4, 3), (RX5, TX5, 4), (RX6, TX6, 4), (RX7, TX7, 5), (RX8, TX8, 4), (RX9, TX9, 10), (RX10, TX10, 4), (RX11, TX11, 12), (RX12, TX12, 27)]
abbrev TYS (cy : Nat → ClassId) : List (ClassId × FieldType) := [(cy 0, .int), (cy 1, .long), (cy 2, .boolean), (cy 3, .object "LivedAgain$Person"), (cy 4, .object "LivedAgain$Village"), (cy 5, .array .int)]
def bz (b : Bool) : Int32 := if b = true then 1 else 0
def fu : Nat := 1000
-- words that don't stay by themselves, and what isn't castable
abbrev NWs : List (String × String) := [("LivedAgain$Gambler", "LivedAgain$Farmer"), ("LivedAgain$Saint", "LivedAgain$Farmer"), ("LivedAgain$Stranger", "LivedAgain$Widow"), ("LivedAgain$Farmer", "LivedAgain$Person"), ("LivedAgain$Gambler", "LivedAgain$Person"), ("LivedAgain$Saint", "LivedAgain$Person"), ("LivedAgain$Widow", "LivedAgain$Person"), ("LivedAgain$Stranger", "LivedAgain$Person")]
abbrev NCs : List (String × String) := [("LivedAgain$Farmer", "LivedAgain$Gambler"), ("LivedAgain$Farmer", "LivedAgain$Saint"), ("LivedAgain$Farmer", "LivedAgain$Widow"), ("LivedAgain$Farmer", "LivedAgain$Stranger"), ("LivedAgain$Gambler", "LivedAgain$Saint"), ("LivedAgain$Gambler", "LivedAgain$Widow"), ("LivedAgain$Gambler", "LivedAgain$Stranger"), ("LivedAgain$Saint", "LivedAgain$Gambler"), ("LivedAgain$Saint", "LivedAgain$Widow"), ("LivedAgain$Saint", "LivedAgain$Stranger"), ("LivedAgain$Widow", "LivedAgain$Farmer"), ("LivedAgain$Widow", "LivedAgain$Gambler"), ("LivedAgain$Widow", "LivedAgain$Saint"), ("LivedAgain$Widow", "LivedAgain$Stranger"), ("LivedAgain$Stranger", "LivedAgain$Farmer"), ("LivedAgain$Stranger", "LivedAgain$Gambler"), ("LivedAgain$Stranger", "LivedAgain$Saint")]
abbrev NDs : List MethodName := [⟨"LivedAgain$Person", "bringsBy", "(Z)I"⟩, ⟨"LivedAgain$Person", "ownKind", "()I"⟩]
abbrev NMs : List (Nat × MethodName) := [(18, ⟨"LivedAgain$Tape", "<init>", "()V"⟩), (25, ⟨"LivedAgain$Village", "<init>", "()V"⟩), (39, ⟨"LivedAgain$Foretelling", "<init>", "()V"⟩), (46, ⟨"LivedAgain$Trace", "<init>", "()V"⟩)]
abbrev NOs : List String := ["LivedAgain$Person", "LivedAgain$Village"]
def KW (D : va_G) (cy : Nat → ClassId) (U : State) : Prop := va_K D CL (TYS cy) U ∧ (∀ q ∈ NWs, va_Nw (.castable q.1 q.2) U) ∧ (∀ q ∈ NCs, va_Nc q.1 q.2 U) ∧ (∀ x ∈ NDs, va_Nw (.declares x) U) ∧ (∀ q ∈ NMs, va_Nw (.methodLinkNest "LivedAgain" q.1 q.2 "LivedAgain") U) ∧ (∀ C ∈ NOs, va_AO C U) ∧ va_AOA .int U
theorem va_AOA.moved {ty : FieldType} {u U : State} (hvm : u.vm.Alike U.vm) (h : va_AOA ty u) : va_AOA ty U := Jvm.Stand.arrayOver_alikeB hvm h
theorem KW.al {D : va_G} {cy : Nat → ClassId} {s U : State} (hW : s.WarmedH U.vm) (h : KW D cy s) : KW D cy U :=
  ⟨va_K.moved hW.alike h.1, fun q hq => va_Nw.warmC hW (h.2.1 q hq), fun q hq => va_Nc.moved hW.alike (h.2.2.1 q hq), fun x hx => va_Nw.warmD hW (h.2.2.2.1 x hx), fun q hq => va_Nw.warmM hW (h.2.2.2.2.1 q hq), fun C hC => va_AO.moved hW.alike (h.2.2.2.2.2.1 C hC), va_AOA.moved hW.alike h.2.2.2.2.2.2⟩
theorem KW.same {D : va_G} {cy : Nat → ClassId} {s U : State} (hv : s.vm = U.vm) (h : KW D cy s) : KW D cy U := by
  refine ⟨va_K.moved (by rw [hv]; exact Vm.Alike.refl U.vm) h.1, fun q hq => va_Nw.same rfl hv (h.2.1 q hq), fun q hq => va_Nc.moved (by rw [hv]; exact Vm.Alike.refl U.vm) (h.2.2.1 q hq), fun x hx => va_Nw.same rfl hv (h.2.2.2.1 x hx), fun q hq => va_Nw.same rfl hv (h.2.2.2.2.1 q hq), fun C hC => va_AO.moved (by rw [hv]; exact Vm.Alike.refl U.vm) (h.2.2.2.2.2.1 C hC), va_AOA.moved (by rw [hv]; exact Vm.Alike.refl U.vm) h.2.2.2.2.2.2⟩
-- people: kind, number, chance, gain, loss
def pci : Nat → Nat
  | 1 => 0
  | 2 => 2
  | 3 => 4
  | 4 => 9
  | _ => 5
abbrev PT : Type := Nat × Int32 × Int32 × Int32 × Int32
def PEl (p : PT) : va_E := .inr (pci p.1, [.int p.2.1, .int p.2.2.1, .int p.2.2.2.1, .int p.2.2.2.2])
abbrev Pe : Type := List Nat × (Nat → PT)
def NP : Pe := ([], fun _ => (1, 0, 0, 0, 0))
def PR (D : va_G) (pe : Pe) (H : Heap) : Prop := ∀ a ∈ pe.1, va_at D CL (a, PEl (pe.2 a)) H ∧ 1 ≤ (pe.2 a).1 ∧ (pe.2 a).1 ≤ 5
def PO (D : va_G) (pe : Pe) (ws : va_W) (H : Heap) : Prop := PR D pe H ∧ ∀ a ∈ pe.1, ∀ (k : Nat) (q : Nat × va_E), ws[k]? = some q → q.1 ≠ a
def PI (D : va_G) (pe : Pe) (A : Nat → Prop) (H0 : Heap) : Prop := PR D pe H0 ∧ ∀ a ∈ pe.1, ¬ A a
theorem PR.np {D : va_G} {H : Heap} : PR D NP H := fun a h => by cases h
theorem PO.np {D : va_G} {ws : va_W} {H : Heap} : PO D NP ws H := ⟨PR.np, fun a h => by cases h⟩
theorem PI.np {D : va_G} {A : Nat → Prop} {H : Heap} : PI D NP A H := ⟨PR.np, fun a h => by cases h⟩
theorem PI.at {D : va_G} {pe : Pe} {A : Nat → Prop} {H0 H : Heap} {locs : List Loc} (h : PI D pe A H0) (hS : va_S A H0 H locs) : PR D pe H := fun a ha => ⟨(h.1 a ha).1.kept (hS.2.1 a (h.1 a ha).1.lt (h.2 a ha)), (h.1 a ha).2⟩
theorem PI.po {D : va_G} {pe : Pe} {A : Nat → Prop} {H0 H : Heap} {locs : List Loc} {ws wc : va_W} (h : PI D pe A H0) (hS : va_S A H0 H locs) (hD : va_D A ws) (isC : List Nat) (hC : isC.map (fun i => ws[i]?) = wc.map some) : PO D pe wc H := by
  refine ⟨h.at hS, fun a ha k q hk e => h.2 a ha ?_⟩
  have h1 : (isC.map (fun i => ws[i]?))[k]? = some (some q) := by rw [hC, List.getElem?_map, hk]; rfl
  rw [List.getElem?_map] at h1
  cases hi : isC[k]? with
  | none => rw [hi] at h1; cases h1
  | some i => rw [hi] at h1; rw [← e]; exact hD.2 i q (Option.some.inj h1)
theorem PO.pi {D : va_G} {pe : Pe} {ws : va_W} {H : Heap} (h : PO D pe ws H) : PI D pe (va_A ws H.size) H := by
  refine ⟨h.1, fun a ha hA => ?_⟩
  rcases hA with ⟨k, e, hk⟩ | hA
  · exact h.2 a ha k (a, e) hk rfl
  · exact absurd (h.1 a ha).1.lt (Nat.not_lt.mpr hA)
-- a method: its name, code, locals, what it returns
abbrev MI : Type := MethodName × ByteArray × Nat × Option FieldType
def wd (mi : MI) : List Cond := .code mi.1 mi.2.1 mi.2.2.1 mi.2.2.2 :: TB
-- answers
abbrev emI (r : Int32) : Option Value := some (.int r)
abbrev emL (r : Int64) : Option Value := some (.long r)
abbrev emV (_ : Unit) : Option Value := none
abbrev emB (r : Bool) : Option Value := some (.int (bz r))
abbrev emQ (r : Option Nat) : Option Value := some (va_rf r)
-- the two contracts: one that changes its cells, one that only reads
def QC {ρ : Type} (D : va_G) (em : ρ → Option Value) (post : ρ → va_W → Prop) (A : Nat → Prop) : Array Value → State → Outcome → State → Prop := fun _ st oc t => (∃ (r : ρ) (w1 : va_W), oc = .returned (em r) ∧ post r w1 ∧ va_P D CL w1 t.heap ∧ va_D A w1) ∧ va_F A st t
def PC (D : va_G) (cy : Nat → ClassId) (pe : Pe) (ws : va_W) (sz : Nat) (U : State) : Prop := U.heap.size = sz ∧ va_P D CL ws U.heap ∧ KW D cy U ∧ va_D (fun _ => True) ws ∧ PO D pe ws U.heap
def Ct {ρ : Type} (l : Launch) (D : va_G) (cy : Nat → ClassId) (mi : MI) (rm : Room) (em : ρ → Option Value) (pe : Pe) (av : List Value) (ws : va_W) (post : ρ → va_W → Prop) : Prop := ∀ sz : Nat, Met l mi.1 (wd mi) rm (va_Pc av (PC D cy pe ws sz)) (QC D em post (va_A ws sz)) rm.cells rm.slots (va_A ws sz)
def QR {ρ : Type} (em : ρ → Option Value) (post : ρ → Prop) : Array Value → State → Outcome → State → Prop := fun _ st oc t => (∃ r : ρ, oc = .returned (em r) ∧ post r) ∧ t.heap = st.heap
def PRd (D : va_G) (cy : Nat → ClassId) (pe : Pe) (ws : va_W) (U : State) : Prop := va_P D CL ws U.heap ∧ KW D cy U ∧ PR D pe U.heap
def Cr {ρ : Type} (l : Launch) (D : va_G) (cy : Nat → ClassId) (mi : MI) (rm : Room) (em : ρ → Option Value) (pe : Pe) (av : List Value) (ws : va_W) (post : ρ → Prop) : Prop := Met l mi.1 (wd mi) rm (va_Pc av (PRd D cy pe ws)) (QR em post) rm.cells rm.slots (fun _ => False)
-- what holds along a walk
def Cx (p : Program) (s : State) (m : MethodId) (args : Array Value) (meth : Method) (c : Code) (mi : MI) (D : va_G) (cy : Nat → ClassId) : Prop :=
  p.tables.exec = Jvm.exec ∧ c.code = mi.2.1 ∧ meth.sig.returnType = mi.2.2.2 ∧ c.maxLocals = mi.2.2.1 ∧ s.vm.findClass mi.1.cls = some m.cls ∧ (∀ w ∈ TB, w.before args s = true) ∧ KW D cy s ∧ meth.locks = false ∧ meth.name = mi.1.name
theorem Ct.of {ρ : Type} {l : Launch} {D : va_G} {cy : Nat → ClassId} {mi : MI} {rm : Room} {em : ρ → Option Value} {pe : Pe} {av : List Value} {ws : va_W} {post : ρ → va_W → Prop} (hy : plainName mi.1.cls = true) (hav : (lg_sl av).length ≤ mi.2.2.1)
    (body : ∀ (p : Program) (e : Env) (s : State) (m : MethodId) (args : Array Value) (below : List Frame) (meth : Method) (c : Code) (A : Nat → Prop) (ls : Array Slot) (Q : State → Prop), Cx p s m args meth c mi D cy → Q = MQ below (QC D em post A) args s rm.cells rm.slots A → (∀ q : Nat, s.heap.size ≤ q → A q) → PI D pe A s.heap → va_P D CL ws s.heap → va_D A ws → va_S A s.heap s.heap [] → lv_has ls mi.2.2.1 (lv_args 0 av) → W p l e rm s m args below meth c s.heap [] 0 0 Q (F0 m 0 ls [])) : Ct l D cy mi rm em pe av ws post := by
  intro sz
  refine Met.ofW (cc := mi.2.1) (maxL := mi.2.2.1) (ret := mi.2.2.2) hy rfl ?_
  intro p e s m args below meth c s₁ B hml hv
  obtain ⟨rfl, hsz, hP, hK, hD, hO⟩ := hv
  subst hsz
  have hl := lv_entry av (n := mi.2.2.1) hav
  have ht := atoms_spec (ws := wd mi) B.pre
  rw [lg_entry_eq]
  exact body p e s m _ below meth c (va_A ws s.heap.size) _ _ ⟨B.exec, B.bytes, B.returns, hml, findClass_of_methodNamed B.named, fun w hw => ht w (List.mem_cons_of_mem _ hw), hK, B.notSynchronized, (name_of_methodNamed B.named B.method).1⟩ rfl (fun q h => Or.inr h) hO.pi hP hD.self va_S.rf hl
theorem Cr.of {ρ : Type} {l : Launch} {D : va_G} {cy : Nat → ClassId} {mi : MI} {rm : Room} {em : ρ → Option Value} {pe : Pe} {av : List Value} {ws : va_W} {post : ρ → Prop} (hy : plainName mi.1.cls = true) (hav : (lg_sl av).length ≤ mi.2.2.1)
    (body : ∀ (p : Program) (e : Env) (s : State) (m : MethodId) (args : Array Value) (below : List Frame) (meth : Method) (c : Code) (ls : Array Slot) (Q : State → Prop), Cx p s m args meth c mi D cy → Q = MQ below (QR em post) args s rm.cells rm.slots (fun _ => False) → PR D pe s.heap → va_P D CL ws s.heap → lv_has ls mi.2.2.1 (lv_args 0 av) → W p l e rm s m args below meth c s.heap [] 0 0 Q (F0 m 0 ls [])) : Cr l D cy mi rm em pe av ws post := by
  refine Met.ofW (cc := mi.2.1) (maxL := mi.2.2.1) (ret := mi.2.2.2) hy rfl ?_
  intro p e s m args below meth c s₁ B hml hv
  obtain ⟨rfl, hP, hK, hO⟩ := hv
  have hl := lv_entry av (n := mi.2.2.1) hav
  have ht := atoms_spec (ws := wd mi) B.pre
  rw [lg_entry_eq]
  exact body p e s m _ below meth c _ _ ⟨B.exec, B.bytes, B.returns, hml, findClass_of_methodNamed B.named, fun w hw => ht w (List.mem_cons_of_mem _ hw), hK, B.notSynchronized, (name_of_methodNamed B.named B.method).1⟩ rfl hO hP hl
-- what a call asks of the tables
def MF (mi : MI) (n : Nat) : Prop := Cond.code mi.1 mi.2.1 mi.2.2.1 mi.2.2.2 ∈ TB ∧ Cond.initialized mi.1.cls ∈ TB ∧ (mi.1.cls ≠ "java/lang/invoke/MethodHandle" ∧ mi.1.cls ≠ "java/lang/invoke/VarHandle" ∧ (parseMethodDescriptor mi.1.desc).map (fun d => d.parameters.length) = some n)
theorem wd_good {mi : MI} (h : Cond.code mi.1 mi.2.1 mi.2.2.1 mi.2.2.2 ∈ TB) : GoodIn TB (wd mi) := by
  intro w hw
  rcases List.mem_cons.mp hw with rfl | hw
  · exact ⟨h, TB_good _ h⟩
  · exact ⟨hw, TB_good _ hw⟩
abbrev Rm (R rm : Room) (maxL : Nat) : Prop := rm.frames + 1 ≤ R.frames ∧ 8 + (maxL + 11) + rm.locals ≤ R.locals
theorem cb_mk {R : Room} {s : State} {args : Array Value} {own : String} {idx n : Nat} {mi : MI} {rm : Room} (hts : ∀ w ∈ TB, w.before args s = true) (mf : MF mi n) (hl : Cond.methodLink own idx mi.1 ∈ TB) (hR : Rm R rm mi.2.2.1) : CallB R s args own idx mi.1 mi.2.1 mi.2.2.1 mi.2.2.2 (wd mi) rm rm.cells rm.slots n :=
  callB_of n (Ts := TB) hts (wd_good mf.1) rfl rfl rfl (hts _ mf.2.1) (hts _ hl) mf.2.2 hR
theorem bl_ct {D : va_G} {cy : Nat → ClassId} {pe : Pe} {ws : va_W} {sz : Nat} {av : List Value} : FrameBlind (va_Pc av (PC D cy pe ws sz)) := fun a U g mk q => by
  obtain ⟨q0, q1, qP, qK, qD, qO⟩ := q
  exact ⟨q0, q1, qP, KW.same (s := U) (U := U.calling g mk a) rfl qK, qD, qO⟩
theorem bl_cr {D : va_G} {cy : Nat → ClassId} {pe : Pe} {ws : va_W} {av : List Value} : FrameBlind (va_Pc av (PRd D cy pe ws)) := fun a U g mk q => by
  obtain ⟨q0, qP, qK, qO⟩ := q
  exact ⟨q0, qP, KW.same (s := U) (U := U.calling g mk a) rfl qK, qO⟩
section GO
variable {p : Program} {l : Launch} {e : Env} {R : Room} {s : State} {m : MethodId} {args : Array Value} {below : List Frame} {meth : Method} {c : Code} {H : Heap} {locs : List Loc} {cells slots : Nat} {Q : State → Prop}
variable {pc : Nat} {ls : Array Slot} {rest st0 : List Value} {a : Array Value} {A : Nat → Prop} {mc ms : Nat} {D : va_G} {cy : Nat → ClassId} {mi mj : MI} {rm : Room} {ws wc wr : va_W} {pe pf : Pe} {As : List Value} {b idx n : Nat}
theorem go_ct {ρ : Type} {em : ρ → Option Value} {post : ρ → va_W → Prop} (hr : va_Run p l e R s m args below meth c H locs cells slots mc ms (F0 m pc ls st0) rest (QC D em post (va_A wc H.size) a) (va_A wc H.size))
    (hA : ∀ q : Nat, s.heap.size ≤ q → A q) (hP : va_P D CL ws H) (hD : va_D A ws) (hS : va_S A s.heap H locs) (isC isR : List Nat) (hC : isC.map (fun i => ws[i]?) = wc.map some) (hR : isR.map (fun i => ws[i]?) = wr.map some) (hn : va_nd isR = true) (hdis : ∀ i ∈ isR, i ∉ isC)
    (kk : ∀ (r : ρ) (w1 : va_W) (H1 : Heap) (locs1 : List Loc), post r w1 → va_P D CL (wr ++ w1) H1 → va_D A (wr ++ w1) → va_S A s.heap H1 locs1 → W p l e R s m args below meth c H1 locs1 (cells + mc) (slots + ms) Q (F0 m (pc + 3) ls ((em r).toList ++ rest))) : W p l e R s m args below meth c H locs cells slots Q (F0 m pc ls st0) := by
  have hF := va_free (wc := wc) hD hS hA isC hC
  intro T hT X
  obtain ⟨v, st₀, t, T', L, h0, X', hL, e1, e2, ⟨⟨r, w1, hv, hp, hP1, hD1⟩, hz, hk⟩, st⟩ := hr T hT X
  cases hv
  rw [h0] at hz hk
  rw [← e1] at hP1 hz hk
  obtain ⟨hP2, hD2⟩ := va_join hP hD isC isR hC hR hn hdis hk hF hP1 hD1
  obtain ⟨t2, a1, b1⟩ := kk r w1 T'.heap (locs ++ L) hp hP2 hD2 ⟨Nat.le_trans hS.1 hz, fun q h1 h2 => by
      rw [hk q (Nat.lt_of_lt_of_le h1 hS.1) (fun z => h2 (hF q z))]
      exact hS.2.1 q h1 h2, fun q hq => by
      rcases List.mem_append.mp hq with h | h
      · exact hS.2.2 q h
      · exact hF _ (hL q h)⟩ T' rfl X'
  exact ⟨t2, st t2 a1, b1⟩
theorem go_cr {ρ : Type} {em : ρ → Option Value} {post : ρ → Prop} (hr : va_Run p l e R s m args below meth c H locs cells slots 0 0 (F0 m pc ls st0) rest (QR em post a) (fun _ => False))
    (kk : ∀ r : ρ, post r → W p l e R s m args below meth c H locs cells slots Q (F0 m (pc + 3) ls ((em r).toList ++ rest))) : W p l e R s m args below meth c H locs cells slots Q (F0 m pc ls st0) := by
  intro T hT X
  obtain ⟨v, st₀, t, T', L, h0, X', hL, e1, e2, ⟨⟨r, hv, hp⟩, hz⟩, st⟩ := hr T hT X
  cases hv
  have hL0 : L = [] := by
    cases L with
    | nil => rfl
    | cons x _ => exact absurd (hL x List.mem_cons_self) (fun h => h)
  subst hL0
  rw [List.append_nil] at X'
  obtain ⟨t2, a1, b1⟩ := kk r hp T' (by rw [e1, hz, h0]) X'
  exact ⟨t2, st t2 a1, b1⟩
-- runs: a virtual call on a receiver whose class has the method itself
theorem run_V {Pc : Array Value → State → Prop} {Qc : Array Value → State → Outcome → State → Prop} {free : Addr → Prop} (C : Cx p s m args meth c mi D cy) (mf : MF mj n) (hin : Cond.instanceMethod mj.1 ∈ TB) (hse : Cond.selects mj.1.cls mj.1 mj.1 ∈ TB) (hM : Met l mj.1 (wd mj) rm Pc Qc rm.cells rm.slots free) (hbl : FrameBlind Pc)
    (hl : Cond.methodLink mi.1.cls idx mj.1 ∈ TB) (hrv : ∃ cell : Cell, H[b]? = some cell ∧ cell.vm.isStatics = false ∧ s.vm.findClass mj.1.cls = some cell.cls) (hp : ∀ U : State, U.heap = H → s.WarmedH U.vm → Pc (Value.ref b :: As).toArray U)
    (hn : As.length = n) (hsz : ls.size = mi.2.2.1) (hst : st0 = As.reverse ++ .ref b :: rest) (hW : (rest.map fun v => v.category).sum ≤ 8) (hdg : decode mi.2.1 pc = .ok (.invokevirtual idx, 3)) (hR : Rm R rm mj.2.2.1) (hf : cells + rm.cells ≤ R.cells ∧ slots + rm.slots ≤ R.slots) :
    va_Run p l e R s m args below meth c H locs cells slots rm.cells rm.slots (F0 m pc ls st0) rest (Qc (Value.ref b :: As).toArray) free := by
  obtain ⟨hx, hb, hr, hml, hown, hts, hK, hlk, hnm⟩ := C
  exact va_runV (Ts := TB) (nL := mi.2.2.1) (As := As) (rest := rest) ⟨hx, hb, hml, hown, hts⟩ hM ⟨cb_mk hts mf hl hR, hts _ hin, hts _ hse⟩ ⟨hbl, hrv, hp⟩ rfl hn hsz hst (lv_room hW) hdg hf
theorem run_S {Pc : Array Value → State → Prop} {Qc : Array Value → State → Outcome → State → Prop} {free : Addr → Prop} (C : Cx p s m args meth c mi D cy) (mf : MF mj n) (hin : Cond.static mj.1 ∈ TB) (hM : Met l mj.1 (wd mj) rm Pc Qc rm.cells rm.slots free) (hbl : FrameBlind Pc)
    (hl : Cond.methodLink mi.1.cls idx mj.1 ∈ TB) (hp : ∀ U : State, U.heap = H → s.WarmedH U.vm → Pc As.toArray U)
    (hn : As.length = n) (hsz : ls.size = mi.2.2.1) (hst : st0 = As.reverse ++ rest) (hW : (rest.map fun v => v.category).sum ≤ 8) (hdg : decode mi.2.1 pc = .ok (.invokestatic idx, 3)) (hR : Rm R rm mj.2.2.1) (hf : cells + rm.cells ≤ R.cells ∧ slots + rm.slots ≤ R.slots) :
    va_Run p l e R s m args below meth c H locs cells slots rm.cells rm.slots (F0 m pc ls st0) rest (Qc As.toArray) free := by
  obtain ⟨hx, hb, hr, hml, hown, hts, hK, hlk, hnm⟩ := C
  exact va_runS (Ts := TB) (nL := mi.2.2.1) (As := As) (rest := rest) ⟨hx, hb, hml, hown, hts⟩ hM ⟨cb_mk hts mf hl hR, hts _ hin⟩ ⟨hbl, hp⟩ rfl hn hsz hst (lv_room hW) hdg hf
theorem run_I {Pc : Array Value → State → Prop} {Qc : Array Value → State → Outcome → State → Prop} {free : Addr → Prop} (C : Cx p s m args meth c mi D cy) (mf : MF mj n) (hin : Cond.instanceMethod mj.1 ∈ TB) (hret : mj.2.2.2 = none) (hnm1 : mj.1.name = "<init>") (hM : Met l mj.1 (wd mj) rm Pc Qc rm.cells rm.slots free) (hbl : FrameBlind Pc)
    (hl : Cond.methodLink mi.1.cls idx mj.1 ∈ TB) (hp : ∀ U : State, U.heap = H → s.WarmedH U.vm → Pc (Value.ref b :: As).toArray U)
    (hn : As.length = n) (hsz : ls.size = mi.2.2.1) (hst : st0 = As.reverse ++ .ref b :: rest) (hW : (rest.map fun v => v.category).sum ≤ 8) (hdg : decode mi.2.1 pc = .ok (.invokespecial idx, 3)) (hR : Rm R rm mj.2.2.1) (hf : cells + rm.cells ≤ R.cells ∧ slots + rm.slots ≤ R.slots) :
    va_Run p l e R s m args below meth c H locs cells slots rm.cells rm.slots (F0 m pc ls st0) rest (Qc (Value.ref b :: As).toArray) free := by
  obtain ⟨hx, hb, hr, hml, hown, hts, hK, hlk, hnm⟩ := C
  have hcb := cb_mk (R := R) (own := mi.1.cls) (idx := idx) hts mf hl hR
  rw [hret] at hcb
  exact va_runI (Ts := TB) (nL := mi.2.2.1) (As := As) (rest := rest) ⟨hx, hb, hml, hown, hts⟩ hM ⟨hcb, hnm1, hts _ hin⟩ ⟨hbl, hp⟩ rfl hn hsz hst (lv_room hW) hdg hf
-- what the callee is given
theorem pre_ct (C : Cx p s m args meth c mi D cy) {av : List Value} (hP : va_P D CL ws H) (hD : va_D A ws) (isC : List Nat) (hC : isC.map (fun i => ws[i]?) = wc.map some) (hnd : va_nd isC = true) (hO : PO D pf wc H) : ∀ U : State, U.heap = H → s.WarmedH U.vm → va_Pc av (PC D cy pf wc H.size) av.toArray U := by
  intro U hU hW
  have hfm : ∀ (is : List Nat) (w : va_W), is.map (fun i => ws[i]?) = w.map some → is.filterMap (fun i => ws[i]?) = w := by
    intro is
    induction is with
    | nil => intro w h; cases w with
      | nil => rfl
      | cons _ _ => simp at h
    | cons i is ih => intro w h; cases w with
      | nil => simp at h
      | cons x w =>
        rw [List.map_cons, List.map_cons] at h
        injection h with h1 h2
        rw [List.filterMap_cons, h1]
        exact congrArg (x :: ·) (ih w h2)
  exact ⟨rfl, by rw [hU], by rw [hU]; exact hP.sub isC (hfm isC wc hC), KW.al hW C.2.2.2.2.2.2.1, (hD.sub isC hnd hC).weaken (fun _ _ _ _ => trivial), by rw [hU]; exact hO⟩
theorem pre_cr (C : Cx p s m args meth c mi D cy) {av : List Value} (hP : va_P D CL wc H) (hO : PR D pf H) : ∀ U : State, U.heap = H → s.WarmedH U.vm → va_Pc av (PRd D cy pf wc) av.toArray U := fun U hU hW => ⟨rfl, by rw [hU]; exact hP, KW.al hW C.2.2.2.2.2.2.1, by rw [hU]; exact hO⟩
end GO
