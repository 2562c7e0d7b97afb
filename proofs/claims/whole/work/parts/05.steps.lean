-- steps of a walk: answers and calls
theorem nr_bz (b : Bool) : narrow .boolean (.int (bz b)) = .int (bz b) := by cases b <;> rfl
theorem ft_bz (b : Bool) : fits .boolean (.int (bz b)) = true := by cases b <;> rfl
theorem bz_0 (b : Bool) : bz b = 0 ↔ b = false := by cases b <;> decide
theorem bz_1 (b : Bool) : ¬ bz b = 0 ↔ b = true := by cases b <;> decide
section STEPS
variable {p : Program} {l : Launch} {e : Env} {R : Room} {s : State} {m : MethodId} {args : Array Value} {below : List Frame} {meth : Method} {c : Code} {H : Heap} {locs : List Loc} {cells slots : Nat} {Q : State → Prop}
variable {pc : Nat} {ls : Array Slot} {rest st0 : List Value} {A : Nat → Prop} {D : va_G} {cy : Nat → ClassId} {mi mj : MI} {rm : Room} {ws wc wr : va_W} {pe pf : Pe} {As : List Value} {b idx n : Nat}
theorem rt_i {post : Int32 → va_W → Prop} {v : Int32} (C : Cx p s m args meth c mi D cy) (hQ : Q = MQ below (QC D emI post A) args s cells slots A) (hret : mi.2.2.2 = some .int) (hP : va_P D CL ws H) (hD : va_D A ws) (hS : va_S A s.heap H locs) (hp : post v ws) (hdg : decode mi.2.1 pc = .ok (.ireturn, 1)) : W p l e R s m args below meth c H locs cells slots Q (F0 m pc ls [.int v]) := by
  subst hQ
  exact W.iret C.1 C.2.1 (C.2.2.1.trans hret) (fun t ht hW => ⟨⟨v, ws, rfl, hp, by rw [ht]; exact hP, hD⟩, hS.F ht⟩) hS.2.2 hdg C.2.2.2.2.2.2.2.1
theorem rt_b {post : Bool → va_W → Prop} {v : Bool} (C : Cx p s m args meth c mi D cy) (hQ : Q = MQ below (QC D emB post A) args s cells slots A) (hret : mi.2.2.2 = some .boolean) (hP : va_P D CL ws H) (hD : va_D A ws) (hS : va_S A s.heap H locs) (hp : post v ws) (hdg : decode mi.2.1 pc = .ok (.ireturn, 1)) : W p l e R s m args below meth c H locs cells slots Q (F0 m pc ls [.int (bz v)]) := by
  subst hQ
  exact W.zret C.1 C.2.1 (C.2.2.1.trans hret) (nr_bz v) (fun t ht hW => ⟨⟨v, ws, rfl, hp, by rw [ht]; exact hP, hD⟩, hS.F ht⟩) hS.2.2 hdg C.2.2.2.2.2.2.2.1
theorem rt_l {post : Int64 → va_W → Prop} {v : Int64} (C : Cx p s m args meth c mi D cy) (hQ : Q = MQ below (QC D emL post A) args s cells slots A) (hret : mi.2.2.2 = some .long) (hP : va_P D CL ws H) (hD : va_D A ws) (hS : va_S A s.heap H locs) (hp : post v ws) (hdg : decode mi.2.1 pc = .ok (.lreturn, 1)) : W p l e R s m args below meth c H locs cells slots Q (F0 m pc ls [.long v]) := by
  subst hQ
  exact W.lret C.1 C.2.1 (C.2.2.1.trans hret) (fun t ht hW => ⟨⟨v, ws, rfl, hp, by rw [ht]; exact hP, hD⟩, hS.F ht⟩) hS.2.2 hdg C.2.2.2.2.2.2.2.1
theorem rt_v {post : Unit → va_W → Prop} (C : Cx p s m args meth c mi D cy) (hQ : Q = MQ below (QC D emV post A) args s cells slots A) (hret : mi.2.2.2 = none) (hP : va_P D CL ws H) (hD : va_D A ws) (hS : va_S A s.heap H locs) (hp : post () ws) (hdg : decode mi.2.1 pc = .ok (.return_, 1)) : W p l e R s m args below meth c H locs cells slots Q (F0 m pc ls []) := by
  subst hQ
  exact W.vret C.1 C.2.1 (C.2.2.1.trans hret) (fun t ht hW => ⟨⟨(), ws, rfl, hp, by rw [ht]; exact hP, hD⟩, hS.F ht⟩) hS.2.2 hdg C.2.2.2.2.2.2.2.1
theorem rt_q {post : Option Nat → va_W → Prop} {v : Option Nat} {val : Value} {C0 : String} (C : Cx p s m args meth c mi D cy) (hQ : Q = MQ below (QC D emQ post A) args s cells slots A) (hret : mi.2.2.2 = some (.object C0)) (hv : val = va_rf v) (hP : va_P D CL ws H) (hD : va_D A ws) (hS : va_S A s.heap H locs) (hp : post v ws) (hdg : decode mi.2.1 pc = .ok (.areturn, 1)) : W p l e R s m args below meth c H locs cells slots Q (F0 m pc ls [val]) := by
  subst hQ
  subst hv
  exact W.aret C.1 C.2.1 (C.2.2.1.trans hret) (Or.inl ⟨_, rfl⟩) (by cases v with
    | none => exact Or.inl rfl
    | some a => exact Or.inr ⟨a, rfl⟩) (fun t ht hW => ⟨⟨v, ws, rfl, hp, by rw [ht]; exact hP, hD⟩, hS.F ht⟩) hS.2.2 hdg C.2.2.2.2.2.2.2.1
-- answers of what only reads
theorem rr_i {post : Int32 → Prop} {v : Int32} (C : Cx p s m args meth c mi D cy) (hQ : Q = MQ below (QR emI post) args s cells slots (fun _ => False)) (hret : mi.2.2.2 = some .int) (hp : post v) (hdg : decode mi.2.1 pc = .ok (.ireturn, 1)) : W p l e R s m args below meth c s.heap [] cells slots Q (F0 m pc ls [.int v]) := by
  subst hQ
  exact W.iret C.1 C.2.1 (C.2.2.1.trans hret) (fun t ht hW => ⟨⟨v, rfl, hp⟩, ht⟩) (fun q h => by cases h) hdg C.2.2.2.2.2.2.2.1
theorem rr_b {post : Bool → Prop} {v : Bool} (C : Cx p s m args meth c mi D cy) (hQ : Q = MQ below (QR emB post) args s cells slots (fun _ => False)) (hret : mi.2.2.2 = some .boolean) (hp : post v) (hdg : decode mi.2.1 pc = .ok (.ireturn, 1)) : W p l e R s m args below meth c s.heap [] cells slots Q (F0 m pc ls [.int (bz v)]) := by
  subst hQ
  exact W.zret C.1 C.2.1 (C.2.2.1.trans hret) (nr_bz v) (fun t ht hW => ⟨⟨v, rfl, hp⟩, ht⟩) (fun q h => by cases h) hdg C.2.2.2.2.2.2.2.1
theorem rr_l {post : Int64 → Prop} {v : Int64} (C : Cx p s m args meth c mi D cy) (hQ : Q = MQ below (QR emL post) args s cells slots (fun _ => False)) (hret : mi.2.2.2 = some .long) (hp : post v) (hdg : decode mi.2.1 pc = .ok (.lreturn, 1)) : W p l e R s m args below meth c s.heap [] cells slots Q (F0 m pc ls [.long v]) := by
  subst hQ
  exact W.lret C.1 C.2.1 (C.2.2.1.trans hret) (fun t ht hW => ⟨⟨v, rfl, hp⟩, ht⟩) (fun q h => by cases h) hdg C.2.2.2.2.2.2.2.1
theorem rr_q {post : Option Nat → Prop} {v : Option Nat} {val : Value} {C0 : String} (C : Cx p s m args meth c mi D cy) (hQ : Q = MQ below (QR emQ post) args s cells slots (fun _ => False)) (hret : mi.2.2.2 = some (.object C0)) (hv : val = va_rf v) (hp : post v) (hdg : decode mi.2.1 pc = .ok (.areturn, 1)) : W p l e R s m args below meth c s.heap [] cells slots Q (F0 m pc ls [val]) := by
  subst hQ
  subst hv
  exact W.aret C.1 C.2.1 (C.2.2.1.trans hret) (Or.inl ⟨_, rfl⟩) (by cases v with
    | none => exact Or.inl rfl
    | some a => exact Or.inr ⟨a, rfl⟩) (fun t ht hW => ⟨⟨v, rfl, hp⟩, ht⟩) (fun q h => by cases h) hdg C.2.2.2.2.2.2.2.1
-- calls
theorem cV_t {ρ : Type} {em : ρ → Option Value} {post : ρ → va_W → Prop} (C : Cx p s m args meth c mi D cy) (hA : ∀ q : Nat, s.heap.size ≤ q → A q) (hP : va_P D CL ws H) (hD : va_D A ws) (hS : va_S A s.heap H locs) (mf : MF mj n) (hin : Cond.instanceMethod mj.1 ∈ TB) (hse : Cond.selects mj.1.cls mj.1 mj.1 ∈ TB) (hl : Cond.methodLink mi.1.cls idx mj.1 ∈ TB) (hM : Ct l D cy mj rm em pf (.ref b :: As) wc post)
    (isC isR : List Nat) (hC : isC.map (fun i => ws[i]?) = wc.map some) (hR : isR.map (fun i => ws[i]?) = wr.map some) (hnC : va_nd isC = true) (hnR : va_nd isR = true) (hdis : ∀ i ∈ isR, i ∉ isC) (hO : PO D pf wc H) (q0 ci : Nat) {q : vw_C} {fs : List Value} (hcl : CL[ci]? = some q) (hq : q.1 = mj.1.cls) (he : ws[q0]? = some (b, .inr (ci, fs)))
    (hn : As.length = n) (hsz : ls.size = mi.2.2.1) (hst : st0 = As.reverse ++ .ref b :: rest) (hW : (rest.map fun v => v.category).sum ≤ 8) (hdg : decode mi.2.1 pc = .ok (.invokevirtual idx, 3)) (hRm : Rm R rm mj.2.2.1) (hf : cells + rm.cells ≤ R.cells ∧ slots + rm.slots ≤ R.slots)
    (kk : ∀ (r : ρ) (w1 : va_W) (H1 : Heap) (locs1 : List Loc), post r w1 → va_P D CL (wr ++ w1) H1 → va_D A (wr ++ w1) → va_S A s.heap H1 locs1 → W p l e R s m args below meth c H1 locs1 (cells + rm.cells) (slots + rm.slots) Q (F0 m (pc + 3) ls ((em r).toList ++ rest))) : W p l e R s m args below meth c H locs cells slots Q (F0 m pc ls st0) :=
  go_ct (run_V C mf hin hse (hM H.size) bl_ct hl (by rw [← hq]; exact va_recv C.2.2.2.2.2.2.1.1 hP hcl he) (pre_ct C hP hD isC hC hnC hO) hn hsz hst hW hdg hRm hf) hA hP hD hS isC isR hC hR hnR hdis kk
theorem cS_t {ρ : Type} {em : ρ → Option Value} {post : ρ → va_W → Prop} (C : Cx p s m args meth c mi D cy) (hA : ∀ q : Nat, s.heap.size ≤ q → A q) (hP : va_P D CL ws H) (hD : va_D A ws) (hS : va_S A s.heap H locs) (mf : MF mj n) (hin : Cond.static mj.1 ∈ TB) (hl : Cond.methodLink mi.1.cls idx mj.1 ∈ TB) (hM : Ct l D cy mj rm em pf As wc post)
    (isC isR : List Nat) (hC : isC.map (fun i => ws[i]?) = wc.map some) (hR : isR.map (fun i => ws[i]?) = wr.map some) (hnC : va_nd isC = true) (hnR : va_nd isR = true) (hdis : ∀ i ∈ isR, i ∉ isC) (hO : PO D pf wc H)
    (hn : As.length = n) (hsz : ls.size = mi.2.2.1) (hst : st0 = As.reverse ++ rest) (hW : (rest.map fun v => v.category).sum ≤ 8) (hdg : decode mi.2.1 pc = .ok (.invokestatic idx, 3)) (hRm : Rm R rm mj.2.2.1) (hf : cells + rm.cells ≤ R.cells ∧ slots + rm.slots ≤ R.slots)
    (kk : ∀ (r : ρ) (w1 : va_W) (H1 : Heap) (locs1 : List Loc), post r w1 → va_P D CL (wr ++ w1) H1 → va_D A (wr ++ w1) → va_S A s.heap H1 locs1 → W p l e R s m args below meth c H1 locs1 (cells + rm.cells) (slots + rm.slots) Q (F0 m (pc + 3) ls ((em r).toList ++ rest))) : W p l e R s m args below meth c H locs cells slots Q (F0 m pc ls st0) :=
  go_ct (run_S C mf hin (hM H.size) bl_ct hl (pre_ct C hP hD isC hC hnC hO) hn hsz hst hW hdg hRm hf) hA hP hD hS isC isR hC hR hnR hdis kk
theorem cI_t {ρ : Type} {em : ρ → Option Value} {post : ρ → va_W → Prop} (C : Cx p s m args meth c mi D cy) (hA : ∀ q : Nat, s.heap.size ≤ q → A q) (hP : va_P D CL ws H) (hD : va_D A ws) (hS : va_S A s.heap H locs) (mf : MF mj n) (hin : Cond.instanceMethod mj.1 ∈ TB) (hl : Cond.methodLink mi.1.cls idx mj.1 ∈ TB) (hM : Ct l D cy mj rm em pf (.ref b :: As) wc post) (hret : mj.2.2.2 = none) (hnm1 : mj.1.name = "<init>")
    (isC isR : List Nat) (hC : isC.map (fun i => ws[i]?) = wc.map some) (hR : isR.map (fun i => ws[i]?) = wr.map some) (hnC : va_nd isC = true) (hnR : va_nd isR = true) (hdis : ∀ i ∈ isR, i ∉ isC) (hO : PO D pf wc H)
    (hn : As.length = n) (hsz : ls.size = mi.2.2.1) (hst : st0 = As.reverse ++ .ref b :: rest) (hW : (rest.map fun v => v.category).sum ≤ 8) (hdg : decode mi.2.1 pc = .ok (.invokespecial idx, 3)) (hRm : Rm R rm mj.2.2.1) (hf : cells + rm.cells ≤ R.cells ∧ slots + rm.slots ≤ R.slots)
    (kk : ∀ (r : ρ) (w1 : va_W) (H1 : Heap) (locs1 : List Loc), post r w1 → va_P D CL (wr ++ w1) H1 → va_D A (wr ++ w1) → va_S A s.heap H1 locs1 → W p l e R s m args below meth c H1 locs1 (cells + rm.cells) (slots + rm.slots) Q (F0 m (pc + 3) ls ((em r).toList ++ rest))) : W p l e R s m args below meth c H locs cells slots Q (F0 m pc ls st0) :=
  go_ct (run_I C mf hin hret hnm1 (hM H.size) bl_ct hl (pre_ct C hP hD isC hC hnC hO) hn hsz hst hW hdg hRm hf) hA hP hD hS isC isR hC hR hnR hdis kk
theorem cV_r {ρ : Type} {em : ρ → Option Value} {post : ρ → Prop} (C : Cx p s m args meth c mi D cy) (mf : MF mj n) (hin : Cond.instanceMethod mj.1 ∈ TB) (hse : Cond.selects mj.1.cls mj.1 mj.1 ∈ TB) (hl : Cond.methodLink mi.1.cls idx mj.1 ∈ TB) (hM : Cr l D cy mj rm em pf (.ref b :: As) wc post) (hrc : rm.cells = 0) (hrs : rm.slots = 0)
    (hP : va_P D CL wc H) (hO : PR D pf H) (hPw : va_P D CL ws H) (q0 ci : Nat) {q : vw_C} {fs : List Value} (hcl : CL[ci]? = some q) (hq : q.1 = mj.1.cls) (he : ws[q0]? = some (b, .inr (ci, fs)))
    (hn : As.length = n) (hsz : ls.size = mi.2.2.1) (hst : st0 = As.reverse ++ .ref b :: rest) (hW : (rest.map fun v => v.category).sum ≤ 8) (hdg : decode mi.2.1 pc = .ok (.invokevirtual idx, 3)) (hRm : Rm R rm mj.2.2.1) (hf : cells ≤ R.cells ∧ slots ≤ R.slots)
    (kk : ∀ r : ρ, post r → W p l e R s m args below meth c H locs cells slots Q (F0 m (pc + 3) ls ((em r).toList ++ rest))) : W p l e R s m args below meth c H locs cells slots Q (F0 m pc ls st0) := by
  have h := run_V (p := p) (e := e) (below := below) (locs := locs) (cells := cells) (slots := slots) (R := R) C mf hin hse hM bl_cr hl (by rw [← hq]; exact va_recv C.2.2.2.2.2.2.1.1 hPw hcl he) (pre_cr C hP hO) hn hsz hst hW hdg hRm (by rw [hrc, hrs]; exact hf)
  rw [hrc, hrs] at h
  exact go_cr h kk
theorem cS_r {ρ : Type} {em : ρ → Option Value} {post : ρ → Prop} (C : Cx p s m args meth c mi D cy) (mf : MF mj n) (hin : Cond.static mj.1 ∈ TB) (hl : Cond.methodLink mi.1.cls idx mj.1 ∈ TB) (hM : Cr l D cy mj rm em pf As wc post) (hrc : rm.cells = 0) (hrs : rm.slots = 0)
    (hP : va_P D CL wc H) (hO : PR D pf H)
    (hn : As.length = n) (hsz : ls.size = mi.2.2.1) (hst : st0 = As.reverse ++ rest) (hW : (rest.map fun v => v.category).sum ≤ 8) (hdg : decode mi.2.1 pc = .ok (.invokestatic idx, 3)) (hRm : Rm R rm mj.2.2.1) (hf : cells ≤ R.cells ∧ slots ≤ R.slots)
    (kk : ∀ r : ρ, post r → W p l e R s m args below meth c H locs cells slots Q (F0 m (pc + 3) ls ((em r).toList ++ rest))) : W p l e R s m args below meth c H locs cells slots Q (F0 m pc ls st0) := by
  have h := run_S (p := p) (e := e) (below := below) (locs := locs) (cells := cells) (slots := slots) (R := R) C mf hin hM bl_cr hl (pre_cr C hP hO) hn hsz hst hW hdg hRm (by rw [hrc, hrs]; exact hf)
  rw [hrc, hrs] at h
  exact go_cr h kk
end STEPS
-- arrays, by a place that is a number
theorem vi {i : Int32} {n : Nat} (h : decide (¬ (i < 0 ∨ n ≤ i.toNatClampNeg)) = true) : vp_in i n := show ¬ (i < 0 ∨ n ≤ i.toNatClampNeg) from of_decide_eq_true h
def rO (r : Nat → Nat) : Nat → Option Nat := fun i => if i < 8 then some (r i) else none
theorem sw_out {x : Int32} (n : Nat) (hn : n < 2 ^ 31) (h : ∀ k, k < n → ¬ x = nI k) : x.toInt < 0 ∨ (n : Int) - 1 < x.toInt := by
  by_cases h0 : x < 0
  · left
    have h1 := Int32.lt_iff_toInt_lt.mp h0
    simpa using h1
  · right
    obtain ⟨j, hj, rfl⟩ := nI_of h0
    rw [nI_toInt hj]
    by_cases hjn : j < n
    · exact absurd rfl (h j hjn)
    · omega
section STEPS2
variable {p : Program} {l : Launch} {e : Env} {R : Room} {s : State} {m : MethodId} {args : Array Value} {below : List Frame} {meth : Method} {c : Code} {H : Heap} {locs : List Loc} {cells slots : Nat} {Q : State → Prop}
variable {cc : ByteArray} {pc : Nat} {ls : Array Slot} {rest : List Value} {D : va_G} {cl : List vw_C} {A : Nat → Prop} {a : Nat} {tys : List (ClassId × FieldType)} {ws : va_W} {H0 : Heap}
theorem s_iald (hexec : p.tables.exec = Jvm.exec) (hb : c.code = cc) (hK : va_K D cl tys s) (hP : va_P D cl ws H) (q0 t0 : Nat) {cA : ClassId} {n : Nat} {f : Nat → Int32} (ha : ws[q0]? = some (a, .inl (cA, n, .inl f))) (ht : tys[t0]? = some (cA, .int)) {i : Int32} {j : Nat} (hin : vp_in i n) (hj : i.toNatClampNeg = j) (hdg : decode cc pc = .ok (.iaload, 1))
    (kk : W p l e R s m args below meth c H locs cells slots Q (F0 m (pc + 1) ls (.int (f j) :: rest))) : W p l e R s m args below meth c H locs cells slots Q (F0 m pc ls (.int i :: .ref a :: rest)) := by
  subst hj
  exact va_iald hexec hb hK hP q0 t0 ha ht hin hdg kk
theorem s_zald (hexec : p.tables.exec = Jvm.exec) (hb : c.code = cc) (hK : va_K D cl tys s) (hP : va_P D cl ws H) (q0 t0 : Nat) {cA : ClassId} {n : Nat} {f : Nat → Int32} (ha : ws[q0]? = some (a, .inl (cA, n, .inl f))) (ht : tys[t0]? = some (cA, .boolean)) {i : Int32} {j : Nat} (hin : vp_in i n) (hj : i.toNatClampNeg = j) (hdg : decode cc pc = .ok (.baload, 1))
    (kk : W p l e R s m args below meth c H locs cells slots Q (F0 m (pc + 1) ls (.int (f j) :: rest))) : W p l e R s m args below meth c H locs cells slots Q (F0 m pc ls (.int i :: .ref a :: rest)) := by
  subst hj
  exact va_zald hexec hb hK hP q0 t0 ha ht hin hdg kk
theorem s_lald (hexec : p.tables.exec = Jvm.exec) (hb : c.code = cc) (hK : va_K D cl tys s) (hP : va_P D cl ws H) (q0 t0 : Nat) {cA : ClassId} {n : Nat} {f : Nat → Int64} (ha : ws[q0]? = some (a, .inl (cA, n, .inr (.inl f)))) (ht : tys[t0]? = some (cA, .long)) {i : Int32} {j : Nat} (hin : vp_in i n) (hj : i.toNatClampNeg = j) (hdg : decode cc pc = .ok (.laload, 1))
    (kk : W p l e R s m args below meth c H locs cells slots Q (F0 m (pc + 1) ls (.long (f j) :: rest))) : W p l e R s m args below meth c H locs cells slots Q (F0 m pc ls (.int i :: .ref a :: rest)) := by
  subst hj
  exact va_lald hexec hb hK hP q0 t0 ha ht hin hdg kk
theorem s_iast (hexec : p.tables.exec = Jvm.exec) (hb : c.code = cc) (hK : va_K D cl tys s) (hP : va_P D cl ws H) (hD : va_D A ws) (hS : va_S A H0 H locs) (q0 t0 : Nat) {cA : ClassId} {n : Nat} {f : Nat → Int32} (ha : ws[q0]? = some (a, .inl (cA, n, .inl f))) (ht : tys[t0]? = some (cA, .int)) {i x : Int32} {j : Nat} (hin : vp_in i n) (hj : i.toNatClampNeg = j) (hdg : decode cc pc = .ok (.iastore, 1))
    (kk : ∀ (H1 : Heap) (locs1 : List Loc), va_P D cl (ws.set q0 (a, .inl (cA, n, .inl (upd f j x)))) H1 → va_D A (ws.set q0 (a, .inl (cA, n, .inl (upd f j x)))) → va_S A H0 H1 locs1 → W p l e R s m args below meth c H1 locs1 cells slots Q (F0 m (pc + 1) ls rest)) : W p l e R s m args below meth c H locs cells slots Q (F0 m pc ls (.int x :: .int i :: .ref a :: rest)) := by
  subst hj
  exact va_iast hexec hb hK hP hD hS q0 t0 ha ht hin hdg kk
theorem s_zast (hexec : p.tables.exec = Jvm.exec) (hb : c.code = cc) (hK : va_K D cl tys s) (hP : va_P D cl ws H) (hD : va_D A ws) (hS : va_S A H0 H locs) (q0 t0 : Nat) {cA : ClassId} {n : Nat} {f : Nat → Int32} (ha : ws[q0]? = some (a, .inl (cA, n, .inl f))) (ht : tys[t0]? = some (cA, .boolean)) {i x : Int32} {j : Nat} (hin : vp_in i n) (hj : i.toNatClampNeg = j) (hdg : decode cc pc = .ok (.bastore, 1))
    (kk : ∀ (H1 : Heap) (locs1 : List Loc), va_P D cl (ws.set q0 (a, .inl (cA, n, .inl (upd f j (vp_nar .boolean x))))) H1 → va_D A (ws.set q0 (a, .inl (cA, n, .inl (upd f j (vp_nar .boolean x))))) → va_S A H0 H1 locs1 → W p l e R s m args below meth c H1 locs1 cells slots Q (F0 m (pc + 1) ls rest)) : W p l e R s m args below meth c H locs cells slots Q (F0 m pc ls (.int x :: .int i :: .ref a :: rest)) := by
  subst hj
  exact va_zast hexec hb hK hP hD hS q0 t0 ha ht hin hdg kk
theorem s_last (hexec : p.tables.exec = Jvm.exec) (hb : c.code = cc) (hK : va_K D cl tys s) (hP : va_P D cl ws H) (hD : va_D A ws) (hS : va_S A H0 H locs) (q0 t0 : Nat) {cA : ClassId} {n : Nat} {f : Nat → Int64} (ha : ws[q0]? = some (a, .inl (cA, n, .inr (.inl f)))) (ht : tys[t0]? = some (cA, .long)) {i : Int32} {x : Int64} {j : Nat} (hin : vp_in i n) (hj : i.toNatClampNeg = j) (hdg : decode cc pc = .ok (.lastore, 1))
    (kk : ∀ (H1 : Heap) (locs1 : List Loc), va_P D cl (ws.set q0 (a, .inl (cA, n, .inr (.inl (vp_updL f j x))))) H1 → va_D A (ws.set q0 (a, .inl (cA, n, .inr (.inl (vp_updL f j x))))) → va_S A H0 H1 locs1 → W p l e R s m args below meth c H1 locs1 cells slots Q (F0 m (pc + 1) ls rest)) : W p l e R s m args below meth c H locs cells slots Q (F0 m pc ls (.long x :: .int i :: .ref a :: rest)) := by
  subst hj
  exact va_last hexec hb hK hP hD hS q0 t0 ha ht hin hdg kk
theorem s_aldq (hexec : p.tables.exec = Jvm.exec) (hb : c.code = cc) (hK : va_K D cl tys s) (hP : va_P D cl ws H) (q0 t0 : Nat) {cA : ClassId} {C : String} {n : Nat} {f : Nat → Option Nat} (ha : ws[q0]? = some (a, .inl (cA, n, .inr (.inr (.inr (.inr f)))))) (ht : tys[t0]? = some (cA, .object C)) {i : Int32} {j : Nat} (hin : vp_in i n) (hj : i.toNatClampNeg = j) (hdg : decode cc pc = .ok (.aaload, 1))
    (k0 : f j = none → W p l e R s m args below meth c H locs cells slots Q (F0 m (pc + 1) ls (.null :: rest))) (k1 : ∀ x : Nat, f j = some x → W p l e R s m args below meth c H locs cells slots Q (F0 m (pc + 1) ls (.ref x :: rest))) : W p l e R s m args below meth c H locs cells slots Q (F0 m pc ls (.int i :: .ref a :: rest)) := by
  subst hj
  refine va_aldq hexec hb hK hP q0 t0 ha ht hin hdg ?_
  cases hq : f i.toNatClampNeg with
  | none => exact k0 hq
  | some x => exact k1 x hq
end STEPS2
