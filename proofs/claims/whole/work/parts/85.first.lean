-- who has the day again first
def fs (P : Nat → Bool) : Nat → Nat → Option Nat
  | 0, _ => none
  | m + 1, k => if P k = true then some k else fs P m (k + 1)
theorem fs_some {P : Nat → Bool} : ∀ (m k i : Nat), fs P m k = some i → k ≤ i ∧ i < k + m ∧ P i = true
  | 0, k, i, h => by cases h
  | m + 1, k, i, h => by
    rw [fs] at h
    by_cases e : P k = true
    · rw [if_pos e] at h
      cases h
      exact ⟨Nat.le_refl _, by omega, e⟩
    · rw [if_neg e] at h
      obtain ⟨a, b, c⟩ := fs_some m (k + 1) i h
      exact ⟨by omega, by omega, c⟩
def wP (h kd : Nat → Nat) (ri we : Int32) (i : Nat) : Bool := (decide (h i = 2) || (decide (h i = 1) && !hb we i)) && (hb ri i && decide (kd i ≠ 4))
def oI (z : Int32) : Option Nat → Int32
  | none => z
  | some i => nI i
theorem hb_0 {x : Int32} {i : Nat} (h : ((x >>> (nI i &&& 31)) &&& 1) = 0) : hb x i = false := decide_eq_false (by rw [h]; decide)
theorem hb_n0 {x : Int32} {i : Nat} (h : ¬ ((x >>> (nI i &&& 31)) &&& 1) = 0) : hb x i = true := decide_eq_true (by
  by_cases e : ((x >>> (nI i &&& 31)) &&& 1) = 1
  · exact e
  · exact absurd (bit1 e) h)
theorem first_c {pe : Pe} {people : Nat → Option Nat} {n : Nat} {A kd ch ga lo h : Nat → Nat} {H : Nat → Int32} (hn : n ≤ 3) (hc : PCl pe people n A kd ch ga lo) (hH : ∀ i, i < n → H i = nI (h i)) (hh : ∀ i, i < n → h i ≤ 2) {ri we : Int32} {post : Int32 → Prop} (hp : post (oI (-1) (fs (wP h kd ri we) n 0))) : wpX9_firstToRepeat ri we (nI n) H people pe post := by
  unfold wpX9_firstToRepeat
  refine lp (σ := Unit) (fun m i _ => wlX9_firstToRepeat_3 (nI n) H people pe post m ri we (nI i)) (fun i _ => fs (wP h kd ri we) n 0 = fs (wP h kd ri we) (n - i) i) n (fun m s q => ?_) (fun m i s hi q k => ?_) fu 0 () (by omega) (by unfold fu; omega) rfl
  · rw [Nat.sub_self] at q
    rw [q] at hp
    unfold wlX9_firstToRepeat_3
    exact k1 (nI_le (Nat.le_refl _) (by omega)) hp
  · rw [show n - i = (n - (i + 1)) + 1 by omega, fs] at q
    have hno : wP h kd ri we i = false → wlX9_firstToRepeat_3 (nI n) H people pe post m ri we (nI (i + 1)) := fun e => k () (by rw [q, e]; rfl)
    have hyes : wP h kd ri we i = true → post (nI i) := fun e => by
      rw [q, if_pos e] at hp
      exact hp
    have v3 : vp_in (nI i) 3 := vp_in_nI (by omega) (by decide)
    have e2 : nI (h i) = 2 ↔ h i = 2 := nI_eq (b := 2) (by have := hh i hi; omega) (by decide)
    have e1 : nI (h i) = 1 ↔ h i = 1 := nI_eq (b := 1) (by have := hh i hi; omega) (by decide)
    unfold wlX9_firstToRepeat_3 wjX9_firstToRepeat_37 wjX9_firstToRepeat_41 wjX9_firstToRepeat_42 wjX9_firstToRepeat_62
    rw [nI_clamp (show i < 2 ^ 31 by omega), hH i hi, nI_1, e2, e1]
    have wt : (decide (h i = 2) || (decide (h i = 1) && !hb we i)) = true → ((true = false → wlX9_firstToRepeat_3 (nI n) H people pe post m ri we (nI (i + 1))) ∧ (true = true → wpX9_mayRepeat (nI i) ri (nI n) people pe (fun r1 => (r1 = false → wlX9_firstToRepeat_3 (nI n) H people pe post m ri we (nI (i + 1))) ∧ (r1 = true → post (nI i))))) := by
      intro w
      refine kt' (may_c hn hc hi ⟨fun e => hno ?_, fun e => hyes ?_⟩)
      · unfold wP; rw [w, e]; rfl
      · unfold wP; rw [w, e]; rfl
    have wf : (decide (h i = 2) || (decide (h i = 1) && !hb we i)) = false → ((false = false → wlX9_firstToRepeat_3 (nI n) H people pe post m ri we (nI (i + 1))) ∧ (false = true → wpX9_mayRepeat (nI i) ri (nI n) people pe (fun r1 => (r1 = false → wlX9_firstToRepeat_3 (nI n) H people pe post m ri we (nI (i + 1))) ∧ (r1 = true → post (nI i))))) := fun w => kf' (hno (by unfold wP; rw [w]; rfl))
    refine k2 (nI_ge hi (by omega)) ⟨v3, fun h2 => wt (by rw [decide_eq_true h2]; rfl), fun h2 => ⟨v3, fun h1 => wf (by rw [decide_eq_false h2, decide_eq_false h1]; rfl), fun h1 => ⟨fun b0 => wf (by rw [decide_eq_false h2, hb_n0 b0]; simp), fun b0 => wt (by rw [decide_eq_true h1, hb_0 b0]; simp)⟩⟩⟩
theorem first_m {f : Nat → Int32} {n : Nat} {kd ch ga lo h : Nat → Nat} {H : Nat → Int32} (hn : n ≤ 3) (f1 : f 1 = nI n) (hm : PMo f n kd ch ga lo) (hH : ∀ i, i < n → H i = nI (h i)) (hh : ∀ i, i < n → h i ≤ 2) {ri we : Int32} {post : Int32 → Prop} (hp : post (oI (-1000000) (fs (wP h kd ri we) n 0))) : wpX12_goesAgain ri we f H post := by
  unfold wpX12_goesAgain
  refine lp (σ := Unit) (fun m i _ => wlX12_goesAgain_3 f H post m ri we (nI i)) (fun i _ => fs (wP h kd ri we) n 0 = fs (wP h kd ri we) (n - i) i) n (fun m s q => ?_) (fun m i s hi q k => ?_) fu 0 () (by omega) (by unfold fu; omega) rfl
  · rw [Nat.sub_self] at q
    rw [q] at hp
    unfold wlX12_goesAgain_3
    rw [f1]
    exact k1 (nI_le (Nat.le_refl _) (by omega)) hp
  · rw [show n - i = (n - (i + 1)) + 1 by omega, fs] at q
    have hno : wP h kd ri we i = false → wlX12_goesAgain_3 f H post m ri we (nI (i + 1)) := fun e => k () (by rw [q, e]; rfl)
    have hyes : wP h kd ri we i = true → post (nI i) := fun e => by
      rw [q, if_pos e] at hp
      exact hp
    have v3 : vp_in (nI i) 3 := vp_in_nI (by omega) (by decide)
    have e2 : nI (h i) = 2 ↔ h i = 2 := nI_eq (b := 2) (by have := hh i hi; omega) (by decide)
    have e1 : nI (h i) = 1 ↔ h i = 1 := nI_eq (b := 1) (by have := hh i hi; omega) (by decide)
    obtain ⟨m1, m2, m3, m4, m5, m6⟩ := hm i hi
    have hk4 : nI (kd i) = 4 ↔ kd i = 4 := eq3 (c := 4) m6 (by decide)
    unfold wlX12_goesAgain_3 wjX12_goesAgain_34 wjX12_goesAgain_35 wjX12_goesAgain_70 wpX12_has
    rw [f1, nI_clamp (show i < 2 ^ 31 by omega), hH i hi, nI_1, e2, e1]
    refine k2 (nI_ge hi (by omega)) ⟨fun r0 => kf' (kf' (hno ?_)), fun r0 => kt' (m_kind (by omega) m1 ⟨fun q4 => kf' (hno ?_), fun q4 => kt' ⟨v3, fun h2 => hyes ?_, fun h2 => ⟨v3, fun h1 => hno ?_, fun h1 => ⟨fun b0 => kf (hyes ?_), fun b0 => kt (hno ?_)⟩⟩⟩⟩)⟩
    · unfold wP; rw [show hb ri i = false from decide_eq_false r0]; simp
    · unfold wP; rw [decide_eq_false (show ¬ (kd i ≠ 4) by simpa using hk4.mp q4)]; simp
    · unfold wP; rw [decide_eq_true h2, show hb ri i = true from decide_eq_true r0, decide_eq_true (show kd i ≠ 4 from fun e => q4 (hk4.mpr e))]; rfl
    · unfold wP; rw [decide_eq_false h2, decide_eq_false h1]; rfl
    · unfold wP; rw [decide_eq_false h2, decide_eq_true h1, show hb we i = false from decide_eq_false b0, show hb ri i = true from decide_eq_true r0, decide_eq_true (show kd i ≠ 4 from fun e => q4 (hk4.mpr e))]; rfl
    · unfold wP; rw [decide_eq_false h2, show hb we i = true from decide_eq_true b0]; simp
