-- instanceof on people; rows of rows; images
def iF : Nat → Bool
  | 1 => true
  | 2 => true
  | 3 => true
  | _ => false
def iG : Nat → Bool
  | 2 => true
  | _ => false
def iS : Nat → Bool
  | 3 => true
  | _ => false
def iW : Nat → Bool
  | 4 => true
  | 5 => true
  | _ => false
def iX : Nat → Bool
  | 5 => true
  | _ => false
def iO (h0 h1 : Nat) : Nat → Option Nat := fun i => if i = 0 then some h0 else if i = 1 then some h1 else none
section EXTRA
variable {p : Program} {l : Launch} {e : Env} {R : Room} {s : State} {m : MethodId} {args : Array Value} {below : List Frame} {meth : Method} {c : Code} {H : Heap} {locs : List Loc} {cells slots : Nat} {Q : State → Prop}
variable {pc : Nat} {ls : Array Slot} {rest st0 : List Value} {A : Nat → Prop} {D : va_G} {cy : Nat → ClassId} {mi mj : MI} {rm : Room} {ws wc wr : va_W} {pe pf : Pe} {As : List Value} {a idx n : Nat}
theorem pe_inst (C : Cx p s m args meth c mi D cy) (hO : PR D pe H) (ha : a ∈ pe.1) (T : String) (f : Nat → Bool) (ht : ∀ k, 1 ≤ k → k ≤ 5 → (f k = true ∧ ((kc k, T) ∈ NWs ∨ kc k = T)) ∨ (f k = false ∧ (kc k, T) ∈ NCs)) (hl : Cond.classLink mi.1.cls idx T ∈ TB) (hdg : decode mi.2.1 pc = .ok (.instanceof idx, 3))
    (kk : W p l e R s m args below meth c H locs cells slots Q (F0 m (pc + 3) ls (.int (bz (f (pe.2 a).1)) :: rest))) : W p l e R s m args below meth c H locs cells slots Q (F0 m pc ls (.ref a :: rest)) := by
  have hr := pe_recv C.2.2.2.2.2.2.1 hO ha
  have hK := C.2.2.2.2.2.2.1
  rcases ht _ (hO a ha).2.1 (hO a ha).2.2 with ⟨h1, h2 | h2⟩ | ⟨h1, h2⟩
  · rw [h1] at kk
    exact va_instY C.1 C.2.1 C.2.2.2.2.1 (C.2.2.2.2.2.1 _ hl) (hK.2.1 _ h2) hr hdg kk
  · rw [h1] at kk
    obtain ⟨cC, hat⟩ := pe_at hK hO ha
    rw [h2] at hr hat
    exact va_instS C.1 C.2.1 C.2.2.2.2.1 (C.2.2.2.2.2.1 _ hl) hat hr hdg kk
  · rw [h1] at kk
    exact va_instNo C.1 C.2.1 C.2.2.2.2.1 (C.2.2.2.2.2.1 _ hl) (hK.2.2.1 _ h2) hr hdg kk
theorem pe_iF (C : Cx p s m args meth c mi D cy) (hO : PR D pe H) (ha : a ∈ pe.1) (hl : Cond.classLink mi.1.cls idx "LivedAgain$Farmer" ∈ TB) (hdg : decode mi.2.1 pc = .ok (.instanceof idx, 3)) (kk : W p l e R s m args below meth c H locs cells slots Q (F0 m (pc + 3) ls (.int (bz (iF (pe.2 a).1)) :: rest))) : W p l e R s m args below meth c H locs cells slots Q (F0 m pc ls (.ref a :: rest)) := pe_inst C hO ha "LivedAgain$Farmer" iF (fun k h1 h5 => by rcases kind5 h1 h5 with rfl | rfl | rfl | rfl | rfl <;> decide) hl hdg kk
theorem pe_iG (C : Cx p s m args meth c mi D cy) (hO : PR D pe H) (ha : a ∈ pe.1) (hl : Cond.classLink mi.1.cls idx "LivedAgain$Gambler" ∈ TB) (hdg : decode mi.2.1 pc = .ok (.instanceof idx, 3)) (kk : W p l e R s m args below meth c H locs cells slots Q (F0 m (pc + 3) ls (.int (bz (iG (pe.2 a).1)) :: rest))) : W p l e R s m args below meth c H locs cells slots Q (F0 m pc ls (.ref a :: rest)) := pe_inst C hO ha "LivedAgain$Gambler" iG (fun k h1 h5 => by rcases kind5 h1 h5 with rfl | rfl | rfl | rfl | rfl <;> decide) hl hdg kk
theorem pe_iS (C : Cx p s m args meth c mi D cy) (hO : PR D pe H) (ha : a ∈ pe.1) (hl : Cond.classLink mi.1.cls idx "LivedAgain$Saint" ∈ TB) (hdg : decode mi.2.1 pc = .ok (.instanceof idx, 3)) (kk : W p l e R s m args below meth c H locs cells slots Q (F0 m (pc + 3) ls (.int (bz (iS (pe.2 a).1)) :: rest))) : W p l e R s m args below meth c H locs cells slots Q (F0 m pc ls (.ref a :: rest)) := pe_inst C hO ha "LivedAgain$Saint" iS (fun k h1 h5 => by rcases kind5 h1 h5 with rfl | rfl | rfl | rfl | rfl <;> decide) hl hdg kk
theorem pe_iW (C : Cx p s m args meth c mi D cy) (hO : PR D pe H) (ha : a ∈ pe.1) (hl : Cond.classLink mi.1.cls idx "LivedAgain$Widow" ∈ TB) (hdg : decode mi.2.1 pc = .ok (.instanceof idx, 3)) (kk : W p l e R s m args below meth c H locs cells slots Q (F0 m (pc + 3) ls (.int (bz (iW (pe.2 a).1)) :: rest))) : W p l e R s m args below meth c H locs cells slots Q (F0 m pc ls (.ref a :: rest)) := pe_inst C hO ha "LivedAgain$Widow" iW (fun k h1 h5 => by rcases kind5 h1 h5 with rfl | rfl | rfl | rfl | rfl <;> decide) hl hdg kk
theorem pe_iX (C : Cx p s m args meth c mi D cy) (hO : PR D pe H) (ha : a ∈ pe.1) (hl : Cond.classLink mi.1.cls idx "LivedAgain$Stranger" ∈ TB) (hdg : decode mi.2.1 pc = .ok (.instanceof idx, 3)) (kk : W p l e R s m args below meth c H locs cells slots Q (F0 m (pc + 3) ls (.int (bz (iX (pe.2 a).1)) :: rest))) : W p l e R s m args below meth c H locs cells slots Q (F0 m pc ls (.ref a :: rest)) := pe_inst C hO ha "LivedAgain$Stranger" iX (fun k h1 h5 => by rcases kind5 h1 h5 with rfl | rfl | rfl | rfl | rfl <;> decide) hl hdg kk
end EXTRA
section EXTRA2
variable {p : Program} {l : Launch} {e : Env} {R : Room} {s : State} {m : MethodId} {args : Array Value} {below : List Frame} {meth : Method} {c : Code} {H : Heap} {locs : List Loc} {cells slots : Nat} {Q : State → Prop}
variable {cc : ByteArray} {pc : Nat} {ls : Array Slot} {rest : List Value} {D : va_G} {cl : List vw_C} {A : Nat → Prop} {a : Nat} {tys : List (ClassId × FieldType)} {ws : va_W} {H0 : Heap}
theorem s_aldg (hexec : p.tables.exec = Jvm.exec) (hb : c.code = cc) (hK : va_K D cl tys s) (hP : va_P D cl ws H) (q0 t0 : Nat) {cA : ClassId} {n : Nat} {f : Nat → Option Nat} (ha : ws[q0]? = some (a, .inl (cA, n, .inr (.inr (.inr (.inr f)))))) (ht : tys[t0]? = some (cA, .array .int)) {i : Int32} {j y : Nat} (hin : vp_in i n) (hj : i.toNatClampNeg = j) (hy : f j = some y) (hdg : decode cc pc = .ok (.aaload, 1))
    (kk : W p l e R s m args below meth c H locs cells slots Q (F0 m (pc + 1) ls (.ref y :: rest))) : W p l e R s m args below meth c H locs cells slots Q (F0 m pc ls (.int i :: .ref a :: rest)) := by
  subst hj
  have hlt : i.toNatClampNeg < n := Nat.not_le.mp fun q => hin (Or.inr q)
  have kk2 : W p l e R s m args below meth c H locs cells slots Q (F0 m (pc + 1) ls (va_rf (f i.toNatClampNeg) :: rest)) := by rw [hy]; exact kk
  exact W.aald (v := va_rf (f i.toNatClampNeg)) (ty := .array .int) hexec hb (hP q0 _ ha) ((hK.2 t0 _ ht).1 n (fun j => va_rf (f j))) rfl (fun q => by cases q) (by show ¬ (i < 0 ∨ (arrV _ _ _).slots.size ≤ _); rw [arrV_size]; exact hin) (by show (arrV _ _ _).slots[_]? = _; rw [arrV_read _ _ hlt]) rfl rfl hdg kk2
end EXTRA2
