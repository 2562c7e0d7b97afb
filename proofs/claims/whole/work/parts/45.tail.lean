-- a world with new people behind it
def tix (n : Nat) (T : va_W) : List Nat := (List.range T.length).map (fun j => j + n)
theorem tix_R {ws T wr : va_W} {isR : List Nat} (hR : isR.map (fun i => ws[i]?) = wr.map some) : (isR ++ tix ws.length T).map (fun i => (ws ++ T)[i]?) = (wr ++ T).map some := by
  rw [List.map_append, List.map_append]
  congr 1
  · rw [← hR]
    apply List.map_congr_left
    intro i hi
    have h1 : ws[i]? ∈ isR.map (fun i => ws[i]?) := List.mem_map.mpr ⟨i, hi, rfl⟩
    rw [hR] at h1
    obtain ⟨x, -, hx⟩ := List.mem_map.mp h1
    have hl : i < ws.length := (List.getElem?_eq_some_iff.mp hx.symm).1
    exact List.getElem?_append_left hl
  · unfold tix
    rw [List.map_map]
    apply List.ext_getElem?
    intro k
    rw [List.getElem?_map, List.getElem?_map]
    by_cases hk : k < T.length
    · rw [List.getElem?_range hk]
      simp only [Option.map_some, Function.comp]
      rw [List.getElem?_append_right (by omega), show k + ws.length - ws.length = k by omega, List.getElem?_eq_getElem hk]
      rfl
    · rw [List.getElem?_eq_none (by rw [List.length_range]; omega), List.getElem?_eq_none (by omega)]
      rfl
theorem tix_C {ws T wc : va_W} {isC : List Nat} (hC : isC.map (fun i => ws[i]?) = wc.map some) : isC.map (fun i => (ws ++ T)[i]?) = wc.map some := by
  rw [← hC]
  apply List.map_congr_left
  intro i hi
  have h1 : ws[i]? ∈ isC.map (fun i => ws[i]?) := List.mem_map.mpr ⟨i, hi, rfl⟩
  rw [hC] at h1
  obtain ⟨x, -, hx⟩ := List.mem_map.mp h1
  exact List.getElem?_append_left (List.getElem?_eq_some_iff.mp hx.symm).1
theorem tix_lt {ws wr : va_W} {isR : List Nat} (hR : isR.map (fun i => ws[i]?) = wr.map some) : ∀ i ∈ isR, i < ws.length := by
  intro i hi
  have h1 : ws[i]? ∈ isR.map (fun i => ws[i]?) := List.mem_map.mpr ⟨i, hi, rfl⟩
  rw [hR] at h1
  obtain ⟨x, -, hx⟩ := List.mem_map.mp h1
  exact (List.getElem?_eq_some_iff.mp hx.symm).1
theorem nd_of {l : List Nat} (h : l.Nodup) : va_nd l = true := by
  induction l with
  | nil => rfl
  | cons a l ih =>
    rw [List.nodup_cons] at h
    simp only [va_nd, Bool.and_eq_true, decide_eq_true_eq]
    exact ⟨h.1, ih h.2⟩
theorem of_nd {l : List Nat} (h : va_nd l = true) : l.Nodup := by
  induction l with
  | nil => exact List.nodup_nil
  | cons a l ih =>
    simp only [va_nd, Bool.and_eq_true, decide_eq_true_eq] at h
    rw [List.nodup_cons]
    exact ⟨h.1, ih h.2⟩
theorem tix_nodup (n : Nat) (T : va_W) : (tix n T).Nodup := by
  unfold tix
  rw [List.nodup_iff_pairwise_ne] at *
  rw [List.pairwise_map]
  have h := List.nodup_range (n := T.length)
  rw [List.nodup_iff_pairwise_ne] at h
  exact h.imp (fun hab e => hab (by omega))
theorem tix_nd {ws T wr : va_W} {isR : List Nat} (hR : isR.map (fun i => ws[i]?) = wr.map some) (hn : va_nd isR = true) : va_nd (isR ++ tix ws.length T) = true := by
  apply nd_of
  rw [List.nodup_append]
  refine ⟨of_nd hn, tix_nodup _ _, fun a ha b hb e => ?_⟩
  have h1 := tix_lt hR a ha
  unfold tix at hb
  obtain ⟨j, -, rfl⟩ := List.mem_map.mp hb
  omega
theorem tix_dis {ws T wc wr : va_W} {isC isR : List Nat} (hC : isC.map (fun i => ws[i]?) = wc.map some) (hdis : ∀ i ∈ isR, i ∉ isC) : ∀ i ∈ isR ++ tix ws.length T, i ∉ isC := by
  intro i hi hc
  rcases List.mem_append.mp hi with h | h
  · exact hdis i h hc
  · have h1 := tix_lt hC i hc
    unfold tix at h
    obtain ⟨j, -, rfl⟩ := List.mem_map.mp h
    omega
theorem va_P.left {D : va_G} {cl : List vw_C} {X T : va_W} {H : Heap} (h : va_P D cl (X ++ T) H) : va_P D cl X H := fun k q hk => h k q (by rw [List.getElem?_append_left (List.getElem?_eq_some_iff.mp hk).1]; exact hk)
theorem va_P.right {D : va_G} {cl : List vw_C} {X T : va_W} {H : Heap} (h : va_P D cl (X ++ T) H) : va_P D cl T H := fun k q hk => h (X.length + k) q (by rw [List.getElem?_append_right (by omega), show X.length + k - X.length = k by omega]; exact hk)
theorem va_D.left {A : Nat → Prop} {X T : va_W} (h : va_D A (X ++ T)) : va_D A X := ⟨fun i j p q hi hj e => h.1 i j p q (by rw [List.getElem?_append_left (List.getElem?_eq_some_iff.mp hi).1]; exact hi) (by rw [List.getElem?_append_left (List.getElem?_eq_some_iff.mp hj).1]; exact hj) e, fun k q hk => h.2 k q (by rw [List.getElem?_append_left (List.getElem?_eq_some_iff.mp hk).1]; exact hk)⟩
-- the people that a list of new ones tells
def pL (ns : List (Nat × PT)) (a : Nat) : PT := ((ns.find? (fun x => x.1 == a)).map (·.2)).getD (1, 0, 0, 0, 0)
def pN (ns : List (Nat × PT)) : Pe := (ns.map (·.1), pL ns)
theorem pL_at {ns : List (Nat × PT)} (hd : (ns.map (·.1)).Nodup) {x : Nat × PT} (hx : x ∈ ns) : pL ns x.1 = x.2 := by
  induction ns with
  | nil => cases hx
  | cons y ns ih =>
    rw [List.map_cons, List.nodup_cons] at hd
    unfold pL
    rw [List.find?_cons]
    by_cases e : y.1 = x.1
    · have hyx : y = x := by
        rcases List.mem_cons.mp hx with h | h
        · exact h.symm
        · exact absurd (List.mem_map.mpr ⟨x, h, e.symm⟩) hd.1
      subst hyx
      simp
    · have hx2 : x ∈ ns := by
        rcases List.mem_cons.mp hx with h | h
        · exact absurd (by rw [h]) e
        · exact h
      have := ih hd.2 hx2
      unfold pL at this
      have hb : (y.1 == x.1) = false := by simpa using e
      rw [hb]
      exact this
theorem ns_nodup {A : Nat → Prop} {X : va_W} {ns : List (Nat × PT)} (hD : va_D A (X ++ nsW ns)) : (ns.map (·.1)).Nodup := by
  rw [List.nodup_iff_pairwise_ne, List.pairwise_iff_getElem]
  intro i j hi hj hij e
  rw [List.length_map] at hi hj
  rw [List.getElem_map, List.getElem_map] at e
  have key : ∀ (k : Nat) (hk : k < ns.length), (X ++ nsW ns)[X.length + k]? = some (ns[k].1, PEl ns[k].2) := fun k hk => by
    rw [List.getElem?_append_right (by omega), show X.length + k - X.length = k by omega]
    unfold nsW
    rw [List.getElem?_map, List.getElem?_eq_getElem hk]
    rfl
  have := hD.1 _ _ _ _ (key i hi) (key j hj) e
  omega
theorem pr_tail {D : va_G} {A : Nat → Prop} {X : va_W} {ns : List (Nat × PT)} {H : Heap} (hP : va_P D CL (X ++ nsW ns) H) (hD : va_D A (X ++ nsW ns)) (hn : NSok ns) : PR D (pN ns) H := by
  intro a ha
  obtain ⟨x, hx, rfl⟩ := List.mem_map.mp ha
  have e : (pN ns).2 x.1 = x.2 := pL_at (ns_nodup hD) hx
  rw [e]
  refine ⟨?_, hn x hx⟩
  obtain ⟨k, hk⟩ := List.getElem?_of_mem hx
  exact hP.right k _ (by unfold nsW; rw [List.getElem?_map, hk]; rfl)
theorem po_tail {D : va_G} {A : Nat → Prop} {X wc : va_W} {ns : List (Nat × PT)} {H : Heap} (hP : va_P D CL (X ++ nsW ns) H) (hD : va_D A (X ++ nsW ns)) (hn : NSok ns) (isC : List Nat) (hC : isC.map (fun i => X[i]?) = wc.map some) : PO D (pN ns) wc H := by
  refine ⟨pr_tail hP hD hn, fun a ha k q hk e => ?_⟩
  obtain ⟨x, hx, rfl⟩ := List.mem_map.mp ha
  obtain ⟨j, hj⟩ := List.getElem?_of_mem hx
  have h1 : (isC.map (fun i => X[i]?))[k]? = some (some q) := by rw [hC, List.getElem?_map, hk]; rfl
  rw [List.getElem?_map] at h1
  cases hi : isC[k]? with
  | none => rw [hi] at h1; cases h1
  | some i =>
    rw [hi] at h1
    have h2 : X[i]? = some q := Option.some.inj h1
    have hl := (List.getElem?_eq_some_iff.mp h2).1
    have h3 : (X ++ nsW ns)[i]? = some q := by rw [List.getElem?_append_left hl]; exact h2
    have h4 : (X ++ nsW ns)[X.length + j]? = some (x.1, PEl x.2) := by
      rw [List.getElem?_append_right (by omega), show X.length + j - X.length = j by omega]
      unfold nsW
      rw [List.getElem?_map, hj]
      rfl
    have := hD.1 _ _ _ _ h3 h4 e
    omega
section TAIL
variable {p : Program} {l : Launch} {e : Env} {R : Room} {s : State} {m : MethodId} {args : Array Value} {below : List Frame} {meth : Method} {c : Code} {H : Heap} {locs : List Loc} {cells slots : Nat} {Q : State → Prop}
variable {pc : Nat} {ls : Array Slot} {rest st0 : List Value} {A : Nat → Prop} {D : va_G} {cy : Nat → ClassId} {mi mj : MI} {rm : Room} {ws wc wr T : va_W} {pe pf : Pe} {As : List Value} {b idx n : Nat}
theorem cV_tt {ρ : Type} {em : ρ → Option Value} {post : ρ → va_W → Prop} (C : Cx p s m args meth c mi D cy) (hA : ∀ q : Nat, s.heap.size ≤ q → A q) (hP : va_P D CL (ws ++ T) H) (hD : va_D A (ws ++ T)) (hS : va_S A s.heap H locs) (mf : MF mj n) (hin : Cond.instanceMethod mj.1 ∈ TB) (hse : Cond.selects mj.1.cls mj.1 mj.1 ∈ TB) (hl : Cond.methodLink mi.1.cls idx mj.1 ∈ TB) (hM : Ct l D cy mj rm em pf (.ref b :: As) wc post)
    (isC isR : List Nat) (hC : isC.map (fun i => ws[i]?) = wc.map some) (hR : isR.map (fun i => ws[i]?) = wr.map some) (hnC : va_nd isC = true) (hnR : va_nd isR = true) (hdis : ∀ i ∈ isR, i ∉ isC) (hO : PO D pf wc H) (q0 ci : Nat) {q : vw_C} {fs : List Value} (hcl : CL[ci]? = some q) (hq : q.1 = mj.1.cls) (he : ws[q0]? = some (b, .inr (ci, fs)))
    (hn : As.length = n) (hsz : ls.size = mi.2.2.1) (hst : st0 = As.reverse ++ .ref b :: rest) (hW : (rest.map fun v => v.category).sum ≤ 8) (hdg : decode mi.2.1 pc = .ok (.invokevirtual idx, 3)) (hRm : Rm R rm mj.2.2.1) (hf : cells + rm.cells ≤ R.cells ∧ slots + rm.slots ≤ R.slots)
    (kk : ∀ (r : ρ) (w1 : va_W) (H1 : Heap) (locs1 : List Loc), post r w1 → va_P D CL ((wr ++ w1) ++ T) H1 → va_D A ((wr ++ w1) ++ T) → va_S A s.heap H1 locs1 → W p l e R s m args below meth c H1 locs1 (cells + rm.cells) (slots + rm.slots) Q (F0 m (pc + 3) ls ((em r).toList ++ rest))) : W p l e R s m args below meth c H locs cells slots Q (F0 m pc ls st0) :=
  cV_t (wr := wr ++ T) C hA hP hD hS mf hin hse hl hM isC (isR ++ tix ws.length T) (tix_C hC) (tix_R hR) hnC (tix_nd hR hnR) (tix_dis (wr := wr) hC hdis) hO q0 ci hcl hq (by rw [List.getElem?_append_left (List.getElem?_eq_some_iff.mp he).1]; exact he) hn hsz hst hW hdg hRm hf
    (fun r w1 H1 locs1 hp hP1 hD1 hS1 => kk r w1 H1 locs1 hp (va_P.swap hP1) (va_D.swap hD1) hS1)
end TAIL
theorem subT_P {D : va_G} {X X' T : va_W} {H : Heap} (hP : va_P D CL (X ++ T) H) (is : List Nat) (hs : is.map (fun i => X[i]?) = X'.map some) : va_P D CL (X' ++ T) H := by
  refine va_P.app (fun k q hk => ?_) hP.right
  have h1 : (is.map (fun i => X[i]?))[k]? = some (some q) := by rw [hs, List.getElem?_map, hk]; rfl
  rw [List.getElem?_map] at h1
  cases hi : is[k]? with
  | none => rw [hi] at h1; cases h1
  | some i => rw [hi] at h1; exact hP.left i q (Option.some.inj h1)
theorem subT_D {A : Nat → Prop} {X X' T : va_W} (hD : va_D A (X ++ T)) (is : List Nat) (hn : va_nd is = true) (hs : is.map (fun i => X[i]?) = X'.map some) : va_D A (X' ++ T) := hD.sub (is ++ tix X.length T) (tix_nd hs hn) (tix_R hs)
