-- steps of a walk: answers and calls
theorem nr_bz (b : Bool) : narrow .boolean (.int (bz b)) = .int (bz b) := by cases b <;> rfl
theorem ft_bz (b : Bool) : fits .boolean (.int (bz b)) = true := by cases b <;> rfl
theorem bz_0 (b : Bool) : bz b = 0 ↔ b = false := by cases b <;> decide
theorem bz_1 (b : Bool) : ¬ bz b = 0 ↔ b = true := by cases b <;> decide
section STEPS
variable {p : Program} {l : Launch} {e : Env} {R : Room} {s : State} {m : MethodId} {args : Array Value} {below : List Frame} {meth : Method} {c : Code} {H : Heap} {locs : List Loc} {cells slots : Nat} {Q : State → Prop}
variable {pc : Nat} {ls : Array Slot} {rest st0 : List Value} {A : Nat → Prop} {D : va_G} {cy : Nat → ClassId} {mi mj : MI} {rm : Room} {ws wc wr : va_W} {pe pf : Pe} {As : List Value} {b idx n : Nat}
theorem rt_i {post : Int32 → va_W → Prop} {v : Int32} (C : Cx p s m args meth c mi D cy) (hret : mi.2.2.2 = some .int) (hP : va_P D CL ws H) (hD : va_D A ws) (hS : va_S A s.heap H locs) (hp : post v ws) (hdg : decode mi.2.1 pc = .ok (.ireturn, 1)) : W p l e R s m args below meth c H locs cells slots (MQ below (QC D emI post A) args s cells slots A) (F0 m pc ls [.int v]) :=
  W.iret C.1 C.2.1 (C.2.2.1.trans hret) (fun t ht hW => ⟨⟨v, ws, rfl, hp, by rw [ht]; exact hP, hD⟩, hS.F ht⟩) hS.2.2 hdg C.2.2.2.2.2.2.2.1
theorem rt_b {post : Bool → va_W → Prop} {v : Bool} (C : Cx p s m args meth c mi D cy) (hret : mi.2.2.2 = some .boolean) (hP : va_P D CL ws H) (hD : va_D A ws) (hS : va_S A s.heap H locs) (hp : post v ws) (hdg : decode mi.2.1 pc = .ok (.ireturn, 1)) : W p l e R s m args below meth c H locs cells slots (MQ below (QC D emB post A) args s cells slots A) (F0 m pc ls [.int (bz v)]) :=
  W.zret C.1 C.2.1 (C.2.2.1.trans hret) (nr_bz v) (fun t ht hW => ⟨⟨v, ws, rfl, hp, by rw [ht]; exact hP, hD⟩, hS.F ht⟩) hS.2.2 hdg C.2.2.2.2.2.2.2.1
theorem rt_l {post : Int64 → va_W → Prop} {v : Int64} (C : Cx p s m args meth c mi D cy) (hret : mi.2.2.2 = some .long) (hP : va_P D CL ws H) (hD : va_D A ws) (hS : va_S A s.heap H locs) (hp : post v ws) (hdg : decode mi.2.1 pc = .ok (.lreturn, 1)) : W p l e R s m args below meth c H locs cells slots (MQ below (QC D emL post A) args s cells slots A) (F0 m pc ls [.long v]) :=
  W.lret C.1 C.2.1 (C.2.2.1.trans hret) (fun t ht hW => ⟨⟨v, ws, rfl, hp, by rw [ht]; exact hP, hD⟩, hS.F ht⟩) hS.2.2 hdg C.2.2.2.2.2.2.2.1
theorem rt_v {post : Unit → va_W → Prop} (C : Cx p s m args meth c mi D cy) (hret : mi.2.2.2 = none) (hP : va_P D CL ws H) (hD : va_D A ws) (hS : va_S A s.heap H locs) (hp : post () ws) (hdg : decode mi.2.1 pc = .ok (.return_, 1)) : W p l e R s m args below meth c H locs cells slots (MQ below (QC D emV post A) args s cells slots A) (F0 m pc ls []) :=
  W.vret C.1 C.2.1 (C.2.2.1.trans hret) (fun t ht hW => ⟨⟨(), ws, rfl, hp, by rw [ht]; exact hP, hD⟩, hS.F ht⟩) hS.2.2 hdg C.2.2.2.2.2.2.2.1
theorem rt_q {post : Option Nat → va_W → Prop} {v : Option Nat} {val : Value} {C0 : String} (C : Cx p s m args meth c mi D cy) (hret : mi.2.2.2 = some (.object C0)) (hv : val = va_rf v) (hP : va_P D CL ws H) (hD : va_D A ws) (hS : va_S A s.heap H locs) (hp : post v ws) (hdg : decode mi.2.1 pc = .ok (.areturn, 1)) : W p l e R s m args below meth c H locs cells slots (MQ below (QC D emQ post A) args s cells slots A) (F0 m pc ls [val]) := by
  subst hv
  exact W.aret C.1 C.2.1 (C.2.2.1.trans hret) (Or.inl ⟨_, rfl⟩) (by cases v with
    | none => exact Or.inl rfl
    | some a => exact Or.inr ⟨a, rfl⟩) (fun t ht hW => ⟨⟨v, ws, rfl, hp, by rw [ht]; exact hP, hD⟩, hS.F ht⟩) hS.2.2 hdg C.2.2.2.2.2.2.2.1
-- answers of what only reads
theorem rr_i {post : Int32 → Prop} {v : Int32} (C : Cx p s m args meth c mi D cy) (hret : mi.2.2.2 = some .int) (hp : post v) (hdg : decode mi.2.1 pc = .ok (.ireturn, 1)) : W p l e R s m args below meth c s.heap [] cells slots (MQ below (QR emI post) args s cells slots (fun _ => False)) (F0 m pc ls [.int v]) :=
  W.iret C.1 C.2.1 (C.2.2.1.trans hret) (fun t ht hW => ⟨⟨v, rfl, hp⟩, ht⟩) (fun q h => by cases h) hdg C.2.2.2.2.2.2.2.1
theorem rr_b {post : Bool → Prop} {v : Bool} (C : Cx p s m args meth c mi D cy) (hret : mi.2.2.2 = some .boolean) (hp : post v) (hdg : decode mi.2.1 pc = .ok (.ireturn, 1)) : W p l e R s m args below meth c s.heap [] cells slots (MQ below (QR emB post) args s cells slots (fun _ => False)) (F0 m pc ls [.int (bz v)]) :=
  W.zret C.1 C.2.1 (C.2.2.1.trans hret) (nr_bz v) (fun t ht hW => ⟨⟨v, rfl, hp⟩, ht⟩) (fun q h => by cases h) hdg C.2.2.2.2.2.2.2.1
theorem rr_l {post : Int64 → Prop} {v : Int64} (C : Cx p s m args meth c mi D cy) (hret : mi.2.2.2 = some .long) (hp : post v) (hdg : decode mi.2.1 pc = .ok (.lreturn, 1)) : W p l e R s m args below meth c s.heap [] cells slots (MQ below (QR emL post) args s cells slots (fun _ => False)) (F0 m pc ls [.long v]) :=
  W.lret C.1 C.2.1 (C.2.2.1.trans hret) (fun t ht hW => ⟨⟨v, rfl, hp⟩, ht⟩) (fun q h => by cases h) hdg C.2.2.2.2.2.2.2.1
theorem rr_q {post : Option Nat → Prop} {v : Option Nat} {val : Value} {C0 : String} (C : Cx p s m args meth c mi D cy) (hret : mi.2.2.2 = some (.object C0)) (hv : val = va_rf v) (hp : post v) (hdg : decode mi.2.1 pc = .ok (.areturn, 1)) : W p l e R s m args below meth c s.heap [] cells slots (MQ below (QR emQ post) args s cells slots (fun _ => False)) (F0 m pc ls [val]) := by
  subst hv
  exact W.aret C.1 C.2.1 (C.2.2.1.trans hret) (Or.inl ⟨_, rfl⟩) (by cases v with
    | none => exact Or.inl rfl
    | some a => exact Or.inr ⟨a, rfl⟩) (fun t ht hW => ⟨⟨v, rfl, hp⟩, ht⟩) (fun q h => by cases h) hdg C.2.2.2.2.2.2.2.1
-- calls
theorem cV_t {ρ : Type} {em : ρ → Option Value} {post : ρ → va_W → Prop} (C : Cx p s m args meth c mi D cy) (hA : ∀ q : Nat, s.heap.size ≤ q → A q) (hP : va_P D CL ws H) (hD : va_D A ws) (hS : va_S A s.heap H locs) (mf : MF mj n) (hin : Cond.instanceMethod mj.1 ∈ TB) (hse : Cond.selects mj.1.cls mj.1 mj.1 ∈ TB) (hl : Cond.methodLink mi.1.cls idx mj.1 ∈ TB) (hM : Ct l D cy mj rm em pf (.ref b :: As) wc post)
    (isC isR : List Nat) (hC : isC.map (fun i => ws[i]?) = wc.map some) (hR : isR.map (fun i => ws[i]?) = wr.map some) (hnC : va_nd isC = true) (hnR : va_nd isR = true) (hdis : ∀ i ∈ isR, i ∉ isC) (hO : PO D pf wc H) (q0 ci : Nat) {q : vw_C} {fs : List Value} (hcl : CL[ci]? = some q) (hq : q.1 = mj.1.cls) (he : ws[q0]? = some (b, .inr (ci, fs)))
    (hn : As.length = n) (hsz : ls.size = mi.2.2.1) (hst : st0 = As.reverse ++ .ref b :: rest) (hW : (rest.map fun v => v.category).sum ≤ 8) (hdg : decode mi.2.1 pc = .ok (.invokevirtual idx, 3)) (hRm : Rm R rm mj.2.2.1) (hf : cells + rm.cells ≤ R.cells ∧ slots + rm.slots ≤ R.slots)
    (kk : ∀ (r : ρ) (w1 : va_W) (H1 : Heap) (locs1 : List Loc), post r w1 → va_P D CL (wr ++ w1) H1 → va_D A (wr ++ w1) → va_S A s.heap H1 locs1 → W p l e R s m args below meth c H1 locs1 (cells + rm.cells) (slots + rm.slots) Q (F0 m (pc + 3) ls ((em r).toList ++ rest))) : W p l e R s m args below meth c H locs cells slots Q (F0 m pc ls st0) :=
  go_ct (run_V C mf hin hse (hM H.size) bl_ct hl (by rw [← hq]; exact va_recv C.2.2.2.2.2.2.1.1 hP hcl he) (pre_ct C hP hD isC hC hnC hO) hn hsz hst hW hdg hRm hf) hA hP hD hS isC isR hC hR hnR hdis kk
theorem cS_t {ρ : Type} {em : ρ → Option Value} {post : ρ → va_W → Prop} (C : Cx p s m args meth c mi D cy) (hA : ∀ q : Nat, s.heap.size ≤ q → A q) (hP : va_P D CL ws H) (hD : va_D A ws) (hS : va_S A s.heap H locs) (mf : MF mj n) (hin : Cond.static mj.1 ∈ TB) (hl : Cond.methodLink mi.1.cls idx mj.1 ∈ TB) (hM : Ct l D cy mj rm em pf As wc post)
    (isC isR : List Nat) (hC : isC.map (fun i => ws[i]?) = wc.map some) (hR : isR.map (fun i => ws[i]?) = wr.map some) (hnC : va_nd isC = true) (hnR : va_nd isR = true) (hdis : ∀ i ∈ isR, i ∉ isC) (hO : PO D pf wc H)
    (hn : As.length = n) (hsz : ls.size = mi.2.2.1) (hst : st0 = As.reverse ++ rest) (hW : (rest.map fun v => v.category).sum ≤ 8) (hdg : decode mi.2.1 pc = .ok (.invokestatic idx, 3)) (hRm : Rm R rm mj.2.2.1) (hf : cells + rm.cells ≤ R.cells ∧ slots + rm.slots ≤ R.slots)
    (kk : ∀ (r : ρ) (w1 : va_W) (H1 : Heap) (locs1 : List Loc), post r w1 → va_P D CL (wr ++ w1) H1 → va_D A (wr ++ w1) → va_S A s.heap H1 locs1 → W p l e R s m args below meth c H1 locs1 (cells + rm.cells) (slots + rm.slots) Q (F0 m (pc + 3) ls ((em r).toList ++ rest))) : W p l e R s m args below meth c H locs cells slots Q (F0 m pc ls st0) :=
  go_ct (run_S C mf hin (hM H.size) bl_ct hl (pre_ct C hP hD isC hC hnC hO) hn hsz hst hW hdg hRm hf) hA hP hD hS isC isR hC hR hnR hdis kk
theorem cI_t {ρ : Type} {em : ρ → Option Value} {post : ρ → va_W → Prop} (C : Cx p s m args meth c mi D cy) (hA : ∀ q : Nat, s.heap.size ≤ q → A q) (hP : va_P D CL ws H) (hD : va_D A ws) (hS : va_S A s.heap H locs) (mf : MF mj n) (hin : Cond.instanceMethod mj.1 ∈ TB) (hl : Cond.methodLink mi.1.cls idx mj.1 ∈ TB) (hM : Ct l D cy mj rm em pf (.ref b :: As) wc post) (hret : mj.2.2.2 = none) (hnm1 : mj.1.name = "<init>")
    (isC isR : List Nat) (hC : isC.map (fun i => ws[i]?) = wc.map some) (hR : isR.map (fun i => ws[i]?) = wr.map some) (hnC : va_nd isC = true) (hnR : va_nd isR = true) (hdis : ∀ i ∈ isR, i ∉ isC) (hO : PO D pf wc H)
    (hn : As.length = n) (hsz : ls.size = mi.2.2.1) (hst : st0 = As.reverse ++ .ref b :: rest) (hW : (rest.map fun v => v.category).sum ≤ 8) (hdg : decode mi.2.1 pc = .ok (.invokespecial idx, 3)) (hRm : Rm R rm mj.2.2.1) (hf : cells + rm.cells ≤ R.cells ∧ slots + rm.slots ≤ R.slots)
    (kk : ∀ (r : ρ) (w1 : va_W) (H1 : Heap) (locs1 : List Loc), post r w1 → va_P D CL (wr ++ w1) H1 → va_D A (wr ++ w1) → va_S A s.heap H1 locs1 → W p l e R s m args below meth c H1 locs1 (cells + rm.cells) (slots + rm.slots) Q (F0 m (pc + 3) ls ((em r).toList ++ rest))) : W p l e R s m args below meth c H locs cells slots Q (F0 m pc ls st0) :=
  go_ct (run_I C mf hin hret hnm1 (hM H.size) bl_ct hl (pre_ct C hP hD isC hC hnC hO) hn hsz hst hW hdg hRm hf) hA hP hD hS isC isR hC hR hnR hdis kk
theorem cV_r {ρ : Type} {em : ρ → Option Value} {post : ρ → Prop} (C : Cx p s m args meth c mi D cy) (mf : MF mj n) (hin : Cond.instanceMethod mj.1 ∈ TB) (hse : Cond.selects mj.1.cls mj.1 mj.1 ∈ TB) (hl : Cond.methodLink mi.1.cls idx mj.1 ∈ TB) (hM : Cr l D cy mj rm em pf (.ref b :: As) wc post) (hrc : rm.cells = 0) (hrs : rm.slots = 0)
    (hP : va_P D CL wc H) (hO : PR D pf H) (q0 ci : Nat) {q : vw_C} {fs : List Value} (hcl : CL[ci]? = some q) (hq : q.1 = mj.1.cls) (he : wc[q0]? = some (b, .inr (ci, fs)))
    (hn : As.length = n) (hsz : ls.size = mi.2.2.1) (hst : st0 = As.reverse ++ .ref b :: rest) (hW : (rest.map fun v => v.category).sum ≤ 8) (hdg : decode mi.2.1 pc = .ok (.invokevirtual idx, 3)) (hRm : Rm R rm mj.2.2.1) (hf : cells ≤ R.cells ∧ slots ≤ R.slots)
    (kk : ∀ r : ρ, post r → W p l e R s m args below meth c H locs cells slots Q (F0 m (pc + 3) ls ((em r).toList ++ rest))) : W p l e R s m args below meth c H locs cells slots Q (F0 m pc ls st0) := by
  have h := run_V (p := p) (e := e) (below := below) (locs := locs) (cells := cells) (slots := slots) (R := R) C mf hin hse hM bl_cr hl (by rw [← hq]; exact va_recv C.2.2.2.2.2.2.1.1 hP hcl he) (pre_cr C hP hO) hn hsz hst hW hdg hRm (by rw [hrc, hrs]; exact hf)
  rw [hrc, hrs] at h
  exact go_cr h kk
theorem cS_r {ρ : Type} {em : ρ → Option Value} {post : ρ → Prop} (C : Cx p s m args meth c mi D cy) (mf : MF mj n) (hin : Cond.static mj.1 ∈ TB) (hl : Cond.methodLink mi.1.cls idx mj.1 ∈ TB) (hM : Cr l D cy mj rm em pf As wc post) (hrc : rm.cells = 0) (hrs : rm.slots = 0)
    (hP : va_P D CL wc H) (hO : PR D pf H)
    (hn : As.length = n) (hsz : ls.size = mi.2.2.1) (hst : st0 = As.reverse ++ rest) (hW : (rest.map fun v => v.category).sum ≤ 8) (hdg : decode mi.2.1 pc = .ok (.invokestatic idx, 3)) (hRm : Rm R rm mj.2.2.1) (hf : cells ≤ R.cells ∧ slots ≤ R.slots)
    (kk : ∀ r : ρ, post r → W p l e R s m args below meth c H locs cells slots Q (F0 m (pc + 3) ls ((em r).toList ++ rest))) : W p l e R s m args below meth c H locs cells slots Q (F0 m pc ls st0) := by
  have h := run_S (p := p) (e := e) (below := below) (locs := locs) (cells := cells) (slots := slots) (R := R) C mf hin hM bl_cr hl (pre_cr C hP hO) hn hsz hst hW hdg hRm (by rw [hrc, hrs]; exact hf)
  rw [hrc, hrs] at h
  exact go_cr h kk
end STEPS
