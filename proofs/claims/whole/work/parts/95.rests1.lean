-- rows at which nobody would do otherwise
def hcd (n c j : Nat) : Nat := if j < n then c / 3 ^ (n - 1 - j) % 3 else 0
def oth (n c i x : Nat) : Nat := c - hcd n c i * 3 ^ (n - 1 - i) + x * 3 ^ (n - 1 - i)
theorem hcd_d : ∀ n, n < 4 → ∀ c, c < 27 → ∀ i, i < 3 → ∀ x, x < 3 → ∀ j, j < 3 → (!(decide (c < 3 ^ n)) || (!(decide (i < n)) || (decide (oth n c i x < 3 ^ n) && (decide (hcd n c i * 3 ^ (n - 1 - i) ≤ c) && decide (hcd n (oth n c i x) j = uh (hcd n c) i x j))))) = true := by
  unfold oth hcd uh
  decide +kernel
theorem p27 {n : Nat} (hn : n ≤ 3) : 3 ^ n ≤ 27 := Nat.pow_le_pow_right (n := 3) (by decide) hn
theorem hcd_e {n c i x j : Nat} (hn : n ≤ 3) (hc : c < 3 ^ n) (hi : i < n) (hx : x < 3) (hj : j < 3) : oth n c i x < 3 ^ n ∧ hcd n c i * 3 ^ (n - 1 - i) ≤ c ∧ hcd n (oth n c i x) j = uh (hcd n c) i x j := by
  have := p27 hn
  have h := hcd_d n (by omega) c (by omega) i (by omega) x hx j hj
  rw [decide_eq_true hc, decide_eq_true hi] at h
  simp only [Bool.not_true, Bool.false_or, Bool.and_eq_true, decide_eq_true_eq] at h
  exact h
theorem oth_lt {n c i x : Nat} (hn : n ≤ 3) (hc : c < 3 ^ n) (hi : i < n) (hx : x < 3) : oth n c i x < 3 ^ n ∧ hcd n c i * 3 ^ (n - 1 - i) ≤ c := by
  have := hcd_e hn hc hi hx (j := 0) (by decide)
  exact ⟨this.1, this.2.1⟩
theorem oth_h {n c i x : Nat} (hn : n ≤ 3) (hc : c < 3 ^ n) (hi : i < n) (hx : x < 3) : hcd n (oth n c i x) = uh (hcd n c) i x := by
  funext j
  by_cases hj : j < 3
  · exact (hcd_e hn hc hi hx hj).2.2
  · unfold uh
    rw [if_neg (by omega)]
    unfold hcd
    rw [if_neg (by omega), if_neg (by omega)]
theorem hcd_2 (n c j : Nat) : hcd n c j ≤ 2 := by
  unfold hcd
  by_cases h : j < n
  · rw [if_pos h]
    omega
  · rw [if_neg h]
    omega
noncomputable def rsb (m : Nat → Nat → Int) (n c : Nat) : Bool := @decide (∀ i, i < n → ∀ x, x < 3 → m (oth n c i x) i ≤ m c i) (Classical.propDecidable _)
theorem rsb_t {m : Nat → Nat → Int} {n c : Nat} (h : ∀ i, i < n → ∀ x, x < 3 → m (oth n c i x) i ≤ m c i) : rsb m n c = true := @decide_eq_true _ (Classical.propDecidable _) h
theorem rsb_f {m : Nat → Nat → Int} {n c : Nat} (h : ¬ ∀ i, i < n → ∀ x, x < 3 → m (oth n c i x) i ≤ m c i) : rsb m n c = false := @decide_eq_false _ (Classical.propDecidable _) h
def cu (P : Nat → Bool) : Nat → Nat
  | 0 => 0
  | k + 1 => cu P k + (if P k = true then 1 else 0)
theorem cu_le (P : Nat → Bool) : ∀ k, cu P k ≤ k
  | 0 => Nat.le_refl _
  | k + 1 => by
    have := cu_le P k
    rw [cu]
    by_cases h : P k = true
    · rw [if_pos h]
      omega
    · rw [if_neg h]
      omega
theorem cu_t {P : Nat → Bool} {k : Nat} (h : P k = true) : cu P (k + 1) = cu P k + 1 := by rw [cu, if_pos h]
theorem cu_f {P : Nat → Bool} {k : Nat} (h : P k = false) : cu P (k + 1) = cu P k := by rw [cu, if_neg (by rw [h]; decide)]; rfl
theorem cu_pos {P : Nat → Bool} {f : Nat} (h : P f = true) : ∀ k, f < k → 0 < cu P k
  | 0, q => absurd q (Nat.not_lt_zero _)
  | k + 1, q => by
    rw [cu]
    by_cases e : f = k
    · subst e
      rw [if_pos h]
      omega
    · have := cu_pos h k (by omega)
      omega
theorem cu_0 {P : Nat → Bool} {k : Nat} (h : cu P k = 0) : ∀ c, c < k → P c = false := by
  intro c hc
  cases e : P c with
  | false => rfl
  | true =>
    have := cu_pos e k hc
    omega
/-- a loop that goes down -/
theorem lpd {σ : Type} (W : Nat → Nat → σ → Prop) (I : Nat → σ → Prop) (hx : ∀ n s, I 0 s → W (n + 1) 0 s) (hs : ∀ n q s, I (q + 1) s → (∀ s', I q s' → W n q s') → W (n + 1) (q + 1) s) : ∀ (n q : Nat) (s : σ), q < n → I q s → W n q s := by
  intro n
  induction n with
  | zero => intro q s h1; omega
  | succ n ih =>
    intro q s h1 hI
    cases q with
    | zero => exact hx n s hI
    | succ q => exact hs n q s hI (fun s' h' => ih q s' (by omega) h')
theorem dn1 (q : Nat) : nI q + (-1) = nI q - 1 := (Int32.sub_eq_add_neg _ _).symm
theorem dn0 : nI 0 - 1 < 0 := by decide
-- the class
theorem step_c {n a : Nat} (hn : n ≤ 3) (ha : a ≤ n) {post : Int32 → Prop} (hp : post (nI (3 ^ (n - a)))) : wlX1_stepOf_6 post fu (nI n) 1 (nI a) := by
  refine lp (σ := Int32) (fun m k s => wlX1_stepOf_6 post m (nI n) s (nI k)) (fun k s => s = nI (3 ^ (k - a)) ∧ a ≤ k) n (fun m s q => ?_) (fun m k s hk q kk => ?_) fu a 1 ha (by unfold fu; omega) ⟨by rw [Nat.sub_self]; rfl, Nat.le_refl _⟩
  · unfold wlX1_stepOf_6
    rw [q.1]
    exact k1 (nI_le (Nat.le_refl _) (by omega)) hp
  · unfold wlX1_stepOf_6
    refine k2 (nI_ge hk (by omega)) ?_
    rw [nI_1]
    refine kk _ ⟨?_, by omega⟩
    rw [q.1, show (3 : Int32) = nI 3 from rfl, pk_mul, ← Nat.pow_succ, show (k - a).succ = k + 1 - a by omega]
theorem stepOf_c {n i : Nat} (hn : n ≤ 3) (hi : i < n) {post : Int32 → Prop} (hp : post (nI (3 ^ (n - 1 - i)))) : wpX1_stepOf (nI i) (nI n) post := by
  unfold wpX1_stepOf
  rw [nI_1]
  refine step_c hn (by omega) ?_
  rw [show n - (i + 1) = n - 1 - i by omega]
  exact hp
theorem stepAll_c {n : Nat} (hn : n ≤ 3) {post : Int32 → Prop} (hp : post (nI (3 ^ n))) : wpX1_stepOf (-1) (nI n) post := by
  unfold wpX1_stepOf
  rw [show (-1 : Int32) + 1 = nI 0 by decide]
  exact step_c hn (Nat.zero_le _) hp
theorem habitIn_c {n c i : Nat} (hn : n ≤ 3) (hi : i < n) (hc : c < 27) {post : Int32 → Prop} (hp : post (nI (hcd n c i))) : wpX1_habitIn (nI c) (nI i) (nI n) post := by
  unfold wpX1_habitIn
  have h1 : 0 < 3 ^ (n - 1 - i) := Nat.pow_pos (by decide)
  have h2 : 3 ^ (n - 1 - i) ≤ 27 := p27 (by omega)
  refine stepOf_c hn hi ⟨nI_ne0 h1 (by omega), ?_⟩
  have h3 : c / 3 ^ (n - 1 - i) ≤ c := Nat.div_le_self _ _
  rw [pk_div (by omega) h1 (by omega), show (3 : Int32) = nI 3 from rfl, pk_rem (by omega) (by decide) (by decide)]
  unfold hcd at hp
  rw [if_pos hi] at hp
  exact hp
theorem isRest_c {n c : Nat} {m : Nat → Nat → Int} {z : Int} {means : Nat → Int64} (hz : 0 < z) (hn : n ≤ 3) (hc : c < 3 ^ n) (hR : ∀ c i, i < n → Rg (z * m c i)) (hM : ∀ c, c < 3 ^ n → ∀ i, i < n → means (3 * c + i) = iL (z * m c i)) {post : Bool → Prop} (hT : rsb m n c = true → post true) (hF : rsb m n c = false → post false) : wpX1_isRest (nI c) (nI n) means post := by
  have h27 := p27 hn
  unfold wpX1_isRest
  refine lp (σ := Unit) (fun f k _ => wlX1_isRest_2 means post f (nI c) (nI n) (nI k)) (fun k _ => ∀ i, i < k → ∀ x, x < 3 → m (oth n c i x) i ≤ m c i) n (fun f s q => ?_) (fun f k s hk q kk => ?_) fu 0 () (by omega) (by unfold fu; omega) (fun i hi => absurd hi (Nat.not_lt_zero i))
  · unfold wlX1_isRest_2
    exact k1 (nI_le (Nat.le_refl _) (by omega)) (hT (rsb_t q))
  · unfold wlX1_isRest_2
    refine k2 (nI_ge hk (by omega)) (stepOf_c hn hk (habitIn_c hn hk (by omega) ?_))
    rw [pk_mul, pk_sub (oth_lt hn hc hk (x := 0) (by decide)).2]
    refine lp (σ := Unit) (fun f2 x _ => wlX1_isRest_30 means post (wlX1_isRest_2 means post f) f2 (nI c) (nI n) (nI k) (nI (3 ^ (n - 1 - k))) (nI (c - hcd n c k * 3 ^ (n - 1 - k))) (nI x)) (fun x _ => ∀ y, y < x → m (oth n c k y) k ≤ m c k) 3 (fun f2 s2 q2 => ?_) (fun f2 x s2 hx q2 kk2 => ?_) fu 0 () (by omega) (by decide) (fun i hi => absurd hi (Nat.not_lt_zero i))
    · unfold wlX1_isRest_30
      refine k1 (nI_le (a := 3) (Nat.le_refl _) (by decide)) ?_
      rw [nI_1]
      refine kk () (fun i hi x hx => ?_)
      by_cases e : i = k
      · subst e
        exact q2 x hx
      · exact q i (by omega) x hx
    · unfold wlX1_isRest_30
      refine k2 (nI_ge (b := 3) hx (by decide)) ?_
      have ho := (oth_lt hn hc hk hx).1
      have e1 : (nI (c - hcd n c k * 3 ^ (n - 1 - k)) + nI x * nI (3 ^ (n - 1 - k))) * 3 + nI k = nI (3 * oth n c k x + k) := by
        rw [pk_mul, nI_add, show (3 : Int32) = nI 3 from rfl, pk_mul, nI_add, Nat.mul_comm]
        rfl
      have e2 : nI c * 3 + nI k = nI (3 * c + k) := by rw [show (3 : Int32) = nI 3 from rfl, pk_mul, nI_add, Nat.mul_comm]
      rw [e1, e2, nI_clamp (show 3 * oth n c k x + k < 2 ^ 31 by omega), nI_clamp (show 3 * c + k < 2 ^ 31 by omega), hM _ ho k hk, hM _ hc k hk, nI_1 x]
      refine ⟨vp_in_nI (by omega) (by decide), vp_in_nI (by omega) (by decide), fun w => kk2 () (fun y hy => ?_), fun w => hF (rsb_f (fun all => w ?_))⟩
      · by_cases e : y = x
        · subst e
          exact (c_le hz).mp ((iL_le (hR _ _ hk) (hR _ _ hk)).mp w)
        · exact q2 y (by omega)
      · exact (iL_le (hR _ _ hk) (hR _ _ hk)).mpr ((c_le hz).mpr (all k hk x hx))
def LF (P : Nat → Bool) (e f : Nat) : Prop := f < e ∧ P f = true ∧ ∀ c, c < f → P c = false
theorem LF_u {P : Nat → Bool} {e f g : Nat} (h1 : LF P e f) (h2 : LF P e g) : f = g := by
  obtain ⟨a1, a2, a3⟩ := h1
  obtain ⟨b1, b2, b3⟩ := h2
  rcases Nat.lt_trichotomy f g with h | h | h
  · rw [b3 f h] at a2
    cases a2
  · exact h
  · rw [a3 g h] at b2
    cases b2
section rests
variable {n r : Nat} {A kd ch ga lo : Nat → Nat}
def mc (n r : Nat) (kd ch ga lo : Nat → Nat) (c i : Nat) : Int := mu (n, r, kd, ch, ga, lo, hcd n c) i
theorem findRests_c {pe : Pe} {people : Nat → Option Nat} {H : Nat → Int32} (a1 : n ≤ 3) (a4 : r < 8) (hc : PCl pe people n A kd ch ga lo) (hb : PBd n ch ga lo) {fr : Int32} {me bl br rc : Nat → Int64} {post : Int32 → Int32 → (Nat → Int64) → (Nat → Int64) → (Nat → Int64) → (Nat → Int64) → (Nat → Int32) → Prop}
    (hp : ∀ fr' me' bl' br' rc' H', (cu (rsb (mc n r kd ch ga lo) n) (3 ^ n) = 0 ∨ ∃ f, LF (rsb (mc n r kd ch ga lo) n) (3 ^ n) f ∧ fr' = nI f) → post (nI (cu (rsb (mc n r kd ch ga lo) n) (3 ^ n))) fr' me' bl' br' rc' H') : wpX1_findRests fr (nI n) (nI r) me bl br rc people H pe post := by
  have h27 := p27 a1
  have hbb : ∀ i, i < n → ga i ≤ 99 ∧ lo i ≤ 99 := fun i hi => (hb i hi).2
  have cpos : (0 : Int) < ((10 ^ (12 - 4 * n) : Nat) : Int) := by
    have : 0 < 10 ^ (12 - 4 * n) := Nat.pow_pos (by decide)
    omega
  have hRg : ∀ c i, i < n → Rg (((10 ^ (12 - 4 * n) : Nat) : Int) * mc n r kd ch ga lo c i) := fun c i hi => (mu_b (G := (n, r, kd, ch, ga, lo, hcd n c)) a1 a4 hbb hi).1
  unfold wpX1_findRests
  refine stepAll_c a1 ?_
  refine lp (σ := (Nat → Int64) × (Nat → Int64) × (Nat → Int64) × (Nat → Int64) × (Nat → Int32)) (fun m k s => wlX1_findRests_11 (nI n) (nI r) people pe post m (nI (3 ^ n)) (nI k) fr s.1 s.2.1 s.2.2.1 s.2.2.2.1 s.2.2.2.2) (fun k s => ∀ c, c < k → ∀ i, i < n → s.1 (3 * c + i) = iL (((10 ^ (12 - 4 * n) : Nat) : Int) * mc n r kd ch ga lo c i)) (3 ^ n) (fun m s q => ?_) (fun m c s hcn q kk => ?_) fu 0 (me, bl, br, rc, H) (Nat.zero_le _) (by unfold fu; omega) (fun i hi => absurd hi (Nat.not_lt_zero i))
  · unfold wlX1_findRests_11
    refine k1 (nI_le (Nat.le_refl _) (by omega)) ?_
    refine lpd (σ := Int32 × Int32) (fun m q s2 => wlX1_findRests_85 (nI n) (nI r) people pe post m s2.1 (nI q - 1) s2.2 s.1 s.2.1 s.2.2.1 s.2.2.2.1 s.2.2.2.2) (fun q s2 => q ≤ 3 ^ n ∧ ∃ t, s2.1 = nI t ∧ t + cu (rsb (mc n r kd ch ga lo) n) q = cu (rsb (mc n r kd ch ga lo) n) (3 ^ n) ∧ (t = 0 ∨ ∃ f, q ≤ f ∧ f < 3 ^ n ∧ rsb (mc n r kd ch ga lo) n f = true ∧ (∀ c, q ≤ c → c < f → rsb (mc n r kd ch ga lo) n c = false) ∧ s2.2 = nI f)) (fun m s2 h => ?_) (fun m q2 s2 h kk => ?_) fu (3 ^ n) (0, fr) (by unfold fu; omega) ⟨Nat.le_refl _, 0, rfl, by omega, Or.inl rfl⟩
    · obtain ⟨-, t, e1, e2, e3⟩ := h
      unfold wlX1_findRests_85
      refine k1 dn0 ?_
      rw [e1]
      have e4 : t = cu (rsb (mc n r kd ch ga lo) n) (3 ^ n) := e2
      rw [e4]
      refine hp _ _ _ _ _ _ ?_
      rcases e3 with e3 | ⟨f, -, f2, f3, f4, f5⟩
      · exact Or.inl (by omega)
      · exact Or.inr ⟨f, ⟨f2, f3, fun c hc => f4 c (Nat.zero_le _) hc⟩, f5⟩
    · obtain ⟨hq, t, e1, e2, e3⟩ := h
      unfold wlX1_findRests_85 wjX1_findRests_112
      rw [nI_pred, dn1]
      refine k2 (nI_pos (by omega)) (isRest_c cpos a1 (by omega) hRg q (fun y => kt' (kk (s2.1 + 1, nI q2) ⟨by omega, t + 1, ?_, ?_, ?_⟩)) (fun y => kf' (kk (s2.1, s2.2) ⟨by omega, t, e1, ?_, ?_⟩)))
      · show s2.1 + 1 = nI (t + 1)
        rw [e1, nI_1]
      · rw [cu_t y] at e2
        omega
      · exact Or.inr ⟨q2, Nat.le_refl _, by omega, y, fun c h1 h2 => absurd h1 (by omega), rfl⟩
      · rw [cu_f y] at e2
        exact e2
      · rcases e3 with e3 | ⟨f, f1, f2, f3, f4, f5⟩
        · exact Or.inl e3
        · refine Or.inr ⟨f, by omega, f2, f3, fun c h1 h2 => ?_, f5⟩
          by_cases e : c = q2
          · subst e
            exact y
          · exact f4 c (by omega) h2
  · unfold wlX1_findRests_11
    refine k2 (nI_ge hcn (by omega)) ?_
    refine lp (σ := Nat → Int32) (fun m2 i t => wlX1_findRests_19 (nI n) (nI r) people pe post (wlX1_findRests_11 (nI n) (nI r) people pe post m) m2 (nI (3 ^ n)) (nI c) (nI i) fr s.1 s.2.1 s.2.2.1 s.2.2.2.1 t) (fun i t => ∀ j, j < i → t j = nI (hcd n c j)) n (fun m2 t h => ?_) (fun m2 i t hi h k => ?_) fu 0 s.2.2.2.2 (Nat.zero_le _) (by unfold fu; omega) (fun i hi => absurd hi (Nat.not_lt_zero i))
    · unfold wlX1_findRests_19
      have e3 : nI c * 3 = nI (3 * c) := by rw [show (3 : Int32) = nI 3 from rfl, pk_mul, Nat.mul_comm]
      rw [e3, nI_clamp (show 3 * c < 2 ^ 31 by omega), nI_1 c, show (3 : Int32).toNatClampNeg = 3 from rfl, show (0 : Int32).toNatClampNeg = 0 from rfl]
      refine k1 (nI_le (Nat.le_refl _) (by omega)) (tell_c (GC_of a1 a4 hc hb h (fun j _ => hcd_2 n c j)) (fun bl' br' rc' hRC => ⟨nI_pos (by omega), by omega, kk (_, _, _, _, _) (fun c2 hc2 i hi => ?_)⟩))
      show va_cpy br' s.1 0 (3 * c) 3 (3 * c2 + i) = _
      by_cases e : c2 = c
      · subst e
        rw [pk_cpy_in (by omega) (by omega), show 0 + (3 * c2 + i - 3 * c2) = i by omega, hRC.2.2 i hi]
        obtain ⟨e, -, -⟩ := mean_e (G := (n, r, kd, ch, ga, lo, hcd n c2)) a1 a4 hbb hi
        rw [e]
        rfl
      · rw [pk_cpy_out (Or.inl (by omega))]
        exact q c2 (by omega) i hi
    · unfold wlX1_findRests_19
      refine k2 (nI_ge hi (by omega)) (habitIn_c a1 hi (by omega) ⟨vp_in_nI (by omega) (by decide), ?_⟩)
      rw [nI_clamp (show i < 2 ^ 31 by omega), nI_1]
      refine k _ (fun j hj => ?_)
      by_cases e : j = i
      · subst e
        exact upd_s
      · rw [upd_n e]
        exact h j (by omega)
end rests
