-- a date by habits, gone through: in numbers
def btN (u i : Nat) : Nat := u / 2 ^ i % 2
theorem bt_e : ∀ u, u < 8 → ∀ i, i < 3 → ((nI u >>> (nI i &&& 31)) &&& 1) = nI (btN u i) := by
  unfold btN
  decide +kernel
theorem bt_le (u i : Nat) : btN u i ≤ 1 := by unfold btN; omega
theorem hb_e : ∀ u, u < 8 → ∀ i, i < 3 → hb (nI u) i = decide (btN u i = 1) := by
  unfold hb btN
  decide +kernel
/-- how likely it goes so, of ten to the power of people -/
def wn (kd ch : Nat → Nat) (u w : Nat) : Nat → Nat
  | 0 => 1
  | i + 1 => wn kd ch u w i * wy (kd i) (ch i) (btN u i) (hb (nI w) i)
/-- the class's, of a thousand -/
def wa (n : Nat) (kd ch : Nat → Nat) (u w : Nat) : Nat → Nat
  | 0 => 1
  | i + 1 => wa n kd ch u w i * (if i < n then wy (kd i) (ch i) (btN u i) (hb (nI w) i) else if hb (nI w) i = true then 0 else 10)
def sN (f : Nat → Nat) : Nat → Nat
  | 0 => 0
  | k + 1 => sN f k + f k
theorem wy_s (kd ch m : Nat) : wy kd ch m false + wy kd ch m true = 10 := by
  have := on_le kd ch m
  unfold wy
  simp
  omega
theorem hbl : ∀ w, w < 8 → ∀ i, i < 3 → hb (nI w) i = w.testBit i := by
  unfold hb
  decide +kernel
theorem wn_sum {n : Nat} (hn : n ≤ 3) (kd ch : Nat → Nat) (u : Nat) : sN (fun w => wn kd ch u w n) (2 ^ n) = 10 ^ n := by
  have e0 := wy_s (kd 0) (ch 0) (btN u 0)
  have e1 := wy_s (kd 1) (ch 1) (btN u 1)
  have e2 := wy_s (kd 2) (ch 2) (btN u 2)
  have hc : n = 0 ∨ n = 1 ∨ n = 2 ∨ n = 3 := by omega
  have v : ∀ w, w < 8 → ∀ i, i < 3 → ∀ b, w.testBit i = b → hb (nI w) i = b := fun w hw i hi b h => (hbl w hw i hi).trans h
  rcases hc with rfl | rfl | rfl | rfl
  · rfl
  · show 0 + wn kd ch u 0 1 + wn kd ch u 1 1 = 10
    simp only [wn]
    rw [v 0 (by decide) 0 (by decide) false (by decide), v 1 (by decide) 0 (by decide) true (by decide)]
    omega
  · show 0 + wn kd ch u 0 2 + wn kd ch u 1 2 + wn kd ch u 2 2 + wn kd ch u 3 2 = 100
    simp only [wn]
    rw [v 0 (by decide) 0 (by decide) false (by decide), v 1 (by decide) 0 (by decide) true (by decide), v 2 (by decide) 0 (by decide) false (by decide), v 3 (by decide) 0 (by decide) true (by decide), v 0 (by decide) 1 (by decide) false (by decide), v 1 (by decide) 1 (by decide) false (by decide), v 2 (by decide) 1 (by decide) true (by decide), v 3 (by decide) 1 (by decide) true (by decide)]
    generalize wy (kd 0) (ch 0) (btN u 0) false = x0 at *
    generalize wy (kd 0) (ch 0) (btN u 0) true = y0 at *
    generalize wy (kd 1) (ch 1) (btN u 1) false = x1 at *
    generalize wy (kd 1) (ch 1) (btN u 1) true = y1 at *
    have : (x0 + y0) * (x1 + y1) = 100 := by rw [e0, e1]
    simp only [Nat.add_mul, Nat.mul_add, Nat.one_mul] at this ⊢
    omega
  · show 0 + wn kd ch u 0 3 + wn kd ch u 1 3 + wn kd ch u 2 3 + wn kd ch u 3 3 + wn kd ch u 4 3 + wn kd ch u 5 3 + wn kd ch u 6 3 + wn kd ch u 7 3 = 1000
    simp only [wn]
    rw [v 0 (by decide) 0 (by decide) false (by decide), v 1 (by decide) 0 (by decide) true (by decide), v 2 (by decide) 0 (by decide) false (by decide), v 3 (by decide) 0 (by decide) true (by decide), v 4 (by decide) 0 (by decide) false (by decide), v 5 (by decide) 0 (by decide) true (by decide), v 6 (by decide) 0 (by decide) false (by decide), v 7 (by decide) 0 (by decide) true (by decide),
      v 0 (by decide) 1 (by decide) false (by decide), v 1 (by decide) 1 (by decide) false (by decide), v 2 (by decide) 1 (by decide) true (by decide), v 3 (by decide) 1 (by decide) true (by decide), v 4 (by decide) 1 (by decide) false (by decide), v 5 (by decide) 1 (by decide) false (by decide), v 6 (by decide) 1 (by decide) true (by decide), v 7 (by decide) 1 (by decide) true (by decide),
      v 0 (by decide) 2 (by decide) false (by decide), v 1 (by decide) 2 (by decide) false (by decide), v 2 (by decide) 2 (by decide) false (by decide), v 3 (by decide) 2 (by decide) false (by decide), v 4 (by decide) 2 (by decide) true (by decide), v 5 (by decide) 2 (by decide) true (by decide), v 6 (by decide) 2 (by decide) true (by decide), v 7 (by decide) 2 (by decide) true (by decide)]
    generalize wy (kd 0) (ch 0) (btN u 0) false = x0 at *
    generalize wy (kd 0) (ch 0) (btN u 0) true = y0 at *
    generalize wy (kd 1) (ch 1) (btN u 1) false = x1 at *
    generalize wy (kd 1) (ch 1) (btN u 1) true = y1 at *
    generalize wy (kd 2) (ch 2) (btN u 2) false = x2 at *
    generalize wy (kd 2) (ch 2) (btN u 2) true = y2 at *
    have : (x0 + y0) * (x1 + y1) * (x2 + y2) = 1000 := by rw [e0, e1, e2]
    simp only [Nat.add_mul, Nat.mul_add, Nat.one_mul] at this ⊢
    omega
theorem wa_lt {n : Nat} {kd ch : Nat → Nat} {u w : Nat} : ∀ k, k ≤ n → wa n kd ch u w k = wn kd ch u w k
  | 0, _ => rfl
  | k + 1, h => by
    rw [wa, wn, wa_lt k (by omega), if_pos (by omega)]
theorem wa_in {n : Nat} (hn : n ≤ 3) {kd ch : Nat → Nat} {u w : Nat} (hw : w < 2 ^ n) : wa n kd ch u w 3 = wn kd ch u w n * 10 ^ (3 - n) := by
  have h8 : 2 ^ n ≤ 2 ^ 3 := Nat.pow_le_pow_right (by decide) hn
  have hbf : ∀ i, n ≤ i → i < 3 → hb (nI w) i = false := fun i h1 h2 => (hbl w (by omega) i h2).trans (bit_hi hw h1)
  have hc : n = 0 ∨ n = 1 ∨ n = 2 ∨ n = 3 := by omega
  have e := wa_lt (n := n) (kd := kd) (ch := ch) (u := u) (w := w) n (Nat.le_refl n)
  rcases hc with rfl | rfl | rfl | rfl
  · simp only [wa]
    rw [hbf 0 (by decide) (by decide), hbf 1 (by decide) (by decide), hbf 2 (by decide) (by decide)]
    simp [wn]
  · rw [show wa 1 kd ch u w 3 = wa 1 kd ch u w 1 * (if hb (nI w) 1 = true then 0 else 10) * (if hb (nI w) 2 = true then 0 else 10) from rfl, e, hbf 1 (by decide) (by decide), hbf 2 (by decide) (by decide), Nat.mul_assoc]
    rfl
  · rw [show wa 2 kd ch u w 3 = wa 2 kd ch u w 2 * (if hb (nI w) 2 = true then 0 else 10) from rfl, e, hbf 2 (by decide) (by decide)]
    rfl
  · rw [e]
    omega
theorem wa_out {n : Nat} (hn : n ≤ 3) {kd ch : Nat → Nat} {u w : Nat} (hw8 : w < 8) (hw : 2 ^ n ≤ w) : wa n kd ch u w 3 = 0 := by
  have hx : ∃ i, n ≤ i ∧ i < 3 ∧ hb (nI w) i = true := by
    have q : ∀ n, n < 4 → ∀ w, w < 8 → (!(decide (2 ^ n ≤ w)) || ((decide (n ≤ 0) && w.testBit 0) || ((decide (n ≤ 1) && w.testBit 1) || (decide (n ≤ 2) && w.testBit 2)))) = true := by decide +kernel
    have q2 := q n (by omega) w hw8
    rw [decide_eq_true hw] at q2
    simp only [Bool.not_true, Bool.false_or, Bool.or_eq_true, Bool.and_eq_true, decide_eq_true_eq] at q2
    rcases q2 with ⟨h1, h2⟩ | ⟨h1, h2⟩ | ⟨h1, h2⟩
    · exact ⟨0, h1, by decide, (hbl w hw8 0 (by decide)).trans h2⟩
    · exact ⟨1, h1, by decide, (hbl w hw8 1 (by decide)).trans h2⟩
    · exact ⟨2, h1, by decide, (hbl w hw8 2 (by decide)).trans h2⟩
  obtain ⟨i, h1, h2, h3⟩ := hx
  have z : ∀ k, i < k → wa n kd ch u w k = 0 := by
    intro k
    induction k with
    | zero => intro h; omega
    | succ k ih =>
      intro h
      rw [wa]
      by_cases e : k = i
      · subst e
        rw [if_neg (by omega), if_pos h3, Nat.mul_zero]
      · rw [ih (by omega), Nat.zero_mul]
  exact z 3 (by omega)
-- sums of eight
def s8 (f : Nat → Nat) : Nat := f 0 + f 1 + f 2 + f 3 + f 4 + f 5 + f 6 + f 7
def z8 (f : Nat → Int) : Int := f 0 + f 1 + f 2 + f 3 + f 4 + f 5 + f 6 + f 7
def ad (f : Nat → Nat) (k x : Nat) : Nat → Nat := fun j => if j = k then f j + x else f j
def az (f : Nat → Int) (k : Nat) (x : Int) : Nat → Int := fun j => if j = k then f j + x else f j
theorem c8 {k : Nat} (h : k < 8) : k = 0 ∨ k = 1 ∨ k = 2 ∨ k = 3 ∨ k = 4 ∨ k = 5 ∨ k = 6 ∨ k = 7 := by omega
theorem s8_ad {f : Nat → Nat} {k x : Nat} (hk : k < 8) : s8 (ad f k x) = s8 f + x := by
  unfold s8 ad
  rcases c8 hk with rfl | rfl | rfl | rfl | rfl | rfl | rfl | rfl <;> simp <;> omega
theorem z8_az {f : Nat → Int} {k : Nat} {x : Int} (hk : k < 8) : z8 (az f k x) = z8 f + x := by
  unfold z8 az
  rcases c8 hk with rfl | rfl | rfl | rfl | rfl | rfl | rfl | rfl <;> simp <;> omega
theorem s8_c {f g : Nat → Nat} (h : ∀ k, k < 8 → f k = g k) : s8 f = s8 g := by
  unfold s8
  rw [h 0 (by decide), h 1 (by decide), h 2 (by decide), h 3 (by decide), h 4 (by decide), h 5 (by decide), h 6 (by decide), h 7 (by decide)]
theorem z8_c {f g : Nat → Int} (h : ∀ k, k < 8 → f k = g k) : z8 f = z8 g := by
  unfold z8
  rw [h 0 (by decide), h 1 (by decide), h 2 (by decide), h 3 (by decide), h 4 (by decide), h 5 (by decide), h 6 (by decide), h 7 (by decide)]
theorem s8_le {f : Nat → Nat} {k : Nat} (hk : k < 8) : f k ≤ s8 f := by
  unfold s8
  rcases c8 hk with rfl | rfl | rfl | rfl | rfl | rfl | rfl | rfl <;> omega
-- the states that a date goes through
abbrev Sg : Type := (Nat → Nat) × (Nat → Nat) × (Nat → Nat → Int)
/-- what is fixed: how many, rights, kinds, chances, gains, losses, habits -/
abbrev Pg : Type := Nat × Nat × (Nat → Nat) × (Nat → Nat) × (Nat → Nat) × (Nat → Nat) × (Nat → Nat)
def fR (G : Pg) (u w : Nat) : Option Nat := fs (wP G.2.2.2.2.2.2 G.2.2.1 (nI G.2.1 &&& (nI u ^^^ (-1))) (nI w)) G.1 0
def its (G : Pg) (σ : Sg) (u w : Nat) : Nat := σ.1 u * wn G.2.2.1 G.2.2.2.1 u w G.1
def bW (G : Pg) (i w : Nat) : Int := bI (G.2.2.1 i) (G.2.2.2.2.1 i) (G.2.2.2.2.2.1 i) (hb (nI w) i)
def stp (G : Pg) (u w : Nat) (σ : Sg) : Sg := match fR G u w with
  | some i => (ad σ.1 (u + 2 ^ i) (its G σ u w), σ.2.1, σ.2.2)
  | none => (σ.1, ad σ.2.1 u (its G σ u w), fun v i => if v = u ∧ i < G.1 then σ.2.2 v i + its G σ u w * bW G i w else σ.2.2 v i)
def fW (G : Pg) (u : Nat) : Nat → Sg → Sg
  | 0, σ => σ
  | w + 1, σ => stp G u w (fW G u w σ)
def fU (G : Pg) : Nat → Sg
  | 0 => (fun u => if u = 0 then 1 else 0, fun _ => 0, fun _ _ => 0)
  | u + 1 => if (fU G u).1 u = 0 then fU G u else fW G u (2 ^ G.1) (fU G u)
theorem or_b : ∀ u, u < 8 → ∀ i, i < 3 → ∀ r, r < 8 → hb (nI r &&& (nI u ^^^ (-1))) i = true → nI u ||| ((1 : Int32) <<< (nI i &&& 31)) = nI (u + 2 ^ i) ∧ u + 2 ^ i < 8 ∧ pc8 (u + 2 ^ i) = pc8 u + 1 := by
  unfold hb pc8
  decide +kernel
theorem or_n : ∀ n, n < 4 → ∀ u, u < 8 → ∀ i, i < 3 → ∀ r, r < 8 → (hb (nI r &&& (nI u ^^^ (-1))) i && decide (u < 2 ^ n) && decide (i < n)) = true → u + 2 ^ i < 2 ^ n := by
  unfold hb
  decide +kernel
theorem fR_some {G : Pg} {u w i : Nat} (hn : G.1 ≤ 3) (hr : G.2.1 < 8) (hu : u < 2 ^ G.1) (h : fR G u w = some i) : i < G.1 ∧ nI u ||| ((1 : Int32) <<< (nI i &&& 31)) = nI (u + 2 ^ i) ∧ u + 2 ^ i < 2 ^ G.1 ∧ pc8 (u + 2 ^ i) = pc8 u + 1 := by
  have h8 : 2 ^ G.1 ≤ 2 ^ 3 := Nat.pow_le_pow_right (by decide) hn
  obtain ⟨-, hi, hw⟩ := fs_some _ _ _ h
  unfold wP at hw
  simp only [Bool.and_eq_true] at hw
  have hi' : i < G.1 := by omega
  obtain ⟨o1, o2, o3⟩ := or_b u (by omega) i (by omega) G.2.1 hr hw.2.1
  exact ⟨hi', o1, or_n G.1 (by omega) u (by omega) i (by omega) G.2.1 hr (by rw [hw.2.1, decide_eq_true hu, decide_eq_true hi']; rfl), o3⟩
