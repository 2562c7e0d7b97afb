-- longs; the greatest common divisor; knows
def iL (z : Int) : Int64 := Int64.ofInt z
def Rg (z : Int) : Prop := -2 ^ 62 < z ∧ z < 2 ^ 62
theorem iL_T {z : Int} (h : Rg z) : (iL z).toInt = z := Int64.toInt_ofInt_of_le (by have := h.1; omega) (by have := h.2; omega)
theorem iL_add (a b : Int) : iL a + iL b = iL (a + b) := (Int64.ofInt_add a b).symm
theorem iL_sub (a b : Int) : iL a - iL b = iL (a - b) := (Int64.ofInt_sub a b).symm
theorem iL_mul (a b : Int) : iL a * iL b = iL (a * b) := (Int64.ofInt_mul a b).symm
theorem iL_neg (a : Int) : -iL a = iL (-a) := (Int64.ofInt_neg a).symm
theorem iL_N {n : Nat} (h : n < 2 ^ 62) : iL (n : Int) = lN n := Int64.toInt_inj.mp (by rw [iL_T ⟨by omega, by omega⟩, pk_lT (by omega)])
theorem iL_le {a b : Int} (ha : Rg a) (hb : Rg b) : iL a ≤ iL b ↔ a ≤ b := by rw [Int64.le_iff_toInt_le, iL_T ha, iL_T hb]
theorem iL_lt {a b : Int} (ha : Rg a) (hb : Rg b) : iL a < iL b ↔ a < b := by rw [Int64.lt_iff_toInt_lt, iL_T ha, iL_T hb]
theorem iL_div {a : Int} {b : Nat} (ha : Rg a) (h0 : 0 < b) (hb : b < 2 ^ 62) (hd : (b : Int) ∣ a) : iL a / lN b = iL (a / b) := by
  have e : (lN b).toInt = (b : Int) := pk_lT (by omega)
  have r : Rg (a / b) := by
    obtain ⟨c, rfl⟩ := hd
    have hbz : (b : Int) ≠ 0 := by omega
    rw [Int.mul_ediv_cancel_left c hbz]
    obtain ⟨h1, h2⟩ := ha
    have hb1 : (1 : Int) ≤ b := by omega
    constructor
    · rcases Int.lt_or_le c 0 with hc | hc
      · have : (b : Int) * c ≤ 1 * c := Int.mul_le_mul_of_nonpos_right hb1 (Int.le_of_lt hc)
        omega
      · omega
    · rcases Int.lt_or_le c 0 with hc | hc
      · omega
      · have : 1 * c ≤ (b : Int) * c := Int.mul_le_mul_of_nonneg_right hb1 hc
        omega
  refine Int64.toInt_inj.mp ?_
  rw [Int64.toInt_div_of_ne_right _ _ (fun q => by rw [q] at e; have : (-1 : Int64).toInt = -1 := rfl; omega), iL_T ha, e, iL_T r]
  obtain ⟨c, rfl⟩ := hd
  have hbz : (b : Int) ≠ 0 := by omega
  rw [Int.mul_ediv_cancel_left c hbz, Int.mul_tdiv_cancel_left c hbz]
theorem cd_loop {post : Int64 → Prop} : ∀ (t a b k fuel : Nat), a < 2 ^ 62 → b < 2 ^ t → t ≤ 60 → k + 2 * t ≤ 98 → 2 * t < fuel → post (lN (Nat.gcd a b)) → wlX11_commonDivisor_3 post fuel (lN a) (lN b) (nI k) := by
  intro t
  induction t with
  | zero =>
    intro a b k fuel ha hb ht hk hf hp
    have hb0 : b = 0 := by omega
    subst hb0
    obtain ⟨f, rfl⟩ : ∃ f, fuel = f + 1 := ⟨fuel - 1, by omega⟩
    unfold wlX11_commonDivisor_3
    rw [Nat.gcd_zero_right] at hp
    exact ⟨fun _ => hp, fun _ => ⟨fun _ => hp, fun h => absurd rfl h⟩⟩
  | succ t ih =>
    intro a b k fuel ha hb ht hk hf hp
    have h60 : 2 ^ (t + 1) ≤ 2 ^ 60 := Nat.pow_le_pow_right (by decide) ht
    obtain ⟨f, rfl⟩ : ∃ f, fuel = f + 1 + 1 := ⟨fuel - 2, by omega⟩
    have nk : ∀ j, j < 100 → ¬ (100 : Int32) ≤ nI j := fun j hj => nI_ge (b := 100) hj (by decide)
    unfold wlX11_commonDivisor_3
    refine k2 (nk k (by omega)) ⟨fun h => ?_, fun h => ⟨h, ?_⟩⟩
    · have hb0 : b = 0 := (pk_lEQ (b := 0) (by omega) (by decide)).mp h
      subst hb0
      rw [Nat.gcd_zero_right] at hp
      exact hp
    have hbp : 0 < b := by
      rcases Nat.eq_zero_or_pos b with e | e
      · subst e
        exact absurd rfl h
      · exact e
    rw [pk_lRem (by omega) hbp (by omega), nI_1]
    have hr : a % b < b := Nat.mod_lt _ hbp
    unfold wlX11_commonDivisor_3
    have e1 : Nat.gcd a b = Nat.gcd b (a % b) := by rw [Nat.gcd_comm a b, Nat.gcd_rec b a, Nat.gcd_comm]
    refine k2 (nk (k + 1) (by omega)) ⟨fun h => ?_, fun h => ⟨h, ?_⟩⟩
    · have hr0 : a % b = 0 := (pk_lEQ (b := 0) (by omega) (by decide)).mp h
      rw [e1, hr0, Nat.gcd_zero_right] at hp
      exact hp
    have hrp : 0 < a % b := by
      rcases Nat.eq_zero_or_pos (a % b) with e | e
      · rw [e] at h
        exact absurd rfl h
      · exact e
    rw [pk_lRem (by omega) hrp (by omega), nI_1]
    have e2 : Nat.gcd b (a % b) = Nat.gcd (a % b) (b % (a % b)) := by rw [Nat.gcd_comm b, Nat.gcd_rec (a % b) b, Nat.gcd_comm]
    have h2 : b % (a % b) < 2 ^ t := by
      have q1 : b % (a % b) < a % b := Nat.mod_lt _ hrp
      have q2 : b % (a % b) ≤ b - a % b := by
        rw [Nat.mod_eq_sub_mod (by omega)]
        exact Nat.mod_le _ _
      have : 2 ^ (t + 1) = 2 ^ t + 2 ^ t := by rw [Nat.pow_succ]; omega
      omega
    refine ih (a % b) (b % (a % b)) (k + 1 + 1) f (by omega) h2 (by omega) (by omega) (by omega) ?_
    rw [← e2, ← e1]
    exact hp
theorem tl_loop {post : Int64 → Prop} {up low : Int64} {u : Bool} : ∀ (t a b fuel : Nat), a < 2 ^ 62 → b < 2 ^ t → t ≤ 60 → 2 * t < fuel → (0 < b ∨ 0 < a) → ((u = false → post (low / lN (Nat.gcd a b))) ∧ (u = true → post (up / lN (Nat.gcd a b)))) → wlX12_tells_17 post fuel up low u (lN a) (lN b) := by
  intro t
  induction t with
  | zero =>
    intro a b fuel ha hb ht hf h0 hp
    have hb0 : b = 0 := by omega
    subst hb0
    obtain ⟨f, rfl⟩ : ∃ f, fuel = f + 1 := ⟨fuel - 1, by omega⟩
    unfold wlX12_tells_17
    rw [Nat.gcd_zero_right] at hp
    have ha0 : ¬ lN a = 0 := fun e => by
      have : a = 0 := (pk_lEQ (b := 0) (by omega) (by decide)).mp e
      omega
    exact k1 rfl ⟨fun q => ⟨ha0, hp.1 q⟩, fun q => ⟨ha0, hp.2 q⟩⟩
  | succ t ih =>
    intro a b fuel ha hb ht hf h0 hp
    have h60 : 2 ^ (t + 1) ≤ 2 ^ 60 := Nat.pow_le_pow_right (by decide) ht
    obtain ⟨f, rfl⟩ : ∃ f, fuel = f + 1 + 1 := ⟨fuel - 2, by omega⟩
    unfold wlX12_tells_17
    refine ⟨fun h => ?_, fun h => ⟨h, ?_⟩⟩
    · have hb0 : b = 0 := (pk_lEQ (b := 0) (by omega) (by decide)).mp h
      subst hb0
      rw [Nat.gcd_zero_right] at hp
      have ha0 : ¬ lN a = 0 := fun e => by
        have : a = 0 := (pk_lEQ (b := 0) (by omega) (by decide)).mp e
        omega
      exact ⟨fun q => ⟨ha0, hp.1 q⟩, fun q => ⟨ha0, hp.2 q⟩⟩
    have hbp : 0 < b := by
      rcases Nat.eq_zero_or_pos b with e | e
      · subst e
        exact absurd rfl h
      · exact e
    rw [pk_lRem (by omega) hbp (by omega)]
    have hr : a % b < b := Nat.mod_lt _ hbp
    unfold wlX12_tells_17
    have e1 : Nat.gcd a b = Nat.gcd b (a % b) := by rw [Nat.gcd_comm a b, Nat.gcd_rec b a, Nat.gcd_comm]
    refine ⟨fun h => ?_, fun h => ⟨h, ?_⟩⟩
    · have hr0 : a % b = 0 := (pk_lEQ (b := 0) (by omega) (by decide)).mp h
      rw [e1, hr0, Nat.gcd_zero_right] at hp
      have hb0 : ¬ lN b = 0 := fun e => by
        have : b = 0 := (pk_lEQ (b := 0) (by omega) (by decide)).mp e
        omega
      exact ⟨fun q => ⟨hb0, hp.1 q⟩, fun q => ⟨hb0, hp.2 q⟩⟩
    have hrp : 0 < a % b := by
      rcases Nat.eq_zero_or_pos (a % b) with e | e
      · rw [e] at h
        exact absurd rfl h
      · exact e
    rw [pk_lRem (by omega) hrp (by omega)]
    have e2 : Nat.gcd b (a % b) = Nat.gcd (a % b) (b % (a % b)) := by rw [Nat.gcd_comm b, Nat.gcd_rec (a % b) b, Nat.gcd_comm]
    have h2 : b % (a % b) < 2 ^ t := by
      have q1 : b % (a % b) < a % b := Nat.mod_lt _ hrp
      have q2 : b % (a % b) ≤ b - a % b := by
        rw [Nat.mod_eq_sub_mod (by omega)]
        exact Nat.mod_le _ _
      have : 2 ^ (t + 1) = 2 ^ t + 2 ^ t := by rw [Nat.pow_succ]; omega
      omega
    refine ih (a % b) (b % (a % b)) f (by omega) h2 (by omega) (by omega) (Or.inr hrp) ?_
    rw [← e2, ← e1]
    exact hp
def rd (u : Int) (l : Nat) (b : Bool) : Int := if b = true then u / (Nat.gcd u.natAbs l : Nat) else (l : Int) / (Nat.gcd u.natAbs l : Nat)
theorem abs_L {u : Int} (h : Rg u) : (if 0 < iL u then iL u else -iL u) = lN u.natAbs := by
  have e0 : (0 : Int64) = iL 0 := rfl
  have r0 : Rg 0 := ⟨by decide, by decide⟩
  have ea : iL (u.natAbs : Int) = lN u.natAbs := iL_N (by have := h.1; have := h.2; omega)
  rw [← ea]
  by_cases q : 0 < u
  · rw [if_pos (by rw [e0, iL_lt r0 h]; exact q), Int.natAbs_of_nonneg (by omega)]
  · rw [if_neg (by rw [e0, iL_lt r0 h]; exact q), iL_neg]
    congr 1
    omega
theorem gcd_dv (u : Int) (l : Nat) : ((Nat.gcd u.natAbs l : Nat) : Int) ∣ u := by
  have h : Nat.gcd u.natAbs l ∣ u.natAbs := Nat.gcd_dvd_left _ _
  exact Int.dvd_natAbs.mp (Int.natCast_dvd_natCast.mpr h)
theorem lo_L {u : Int} {l : Nat} (hl : 0 < l) (hl2 : l < 2 ^ 40) : lN l / lN (Nat.gcd u.natAbs l) = iL ((l : Int) / (Nat.gcd u.natAbs l : Nat)) := by
  have g0 : 0 < Nat.gcd u.natAbs l := Nat.gcd_pos_of_pos_right _ hl
  have gl : Nat.gcd u.natAbs l ≤ l := Nat.gcd_le_right _ hl
  rw [pk_lDiv (by omega) g0 (by omega), ← Int.natCast_ediv, iL_N]
  exact Nat.lt_of_le_of_lt (Nat.div_le_self _ _) (by omega)
theorem up_L {u : Int} {l : Nat} (hu : Rg u) (hl : 0 < l) (hl2 : l < 2 ^ 40) : iL u / lN (Nat.gcd u.natAbs l) = iL (u / (Nat.gcd u.natAbs l : Nat)) := by
  have g0 : 0 < Nat.gcd u.natAbs l := Nat.gcd_pos_of_pos_right _ hl
  have gl : Nat.gcd u.natAbs l ≤ l := Nat.gcd_le_right _ hl
  exact iL_div hu g0 (by omega) (gcd_dv u l)
theorem part_c {u : Int} {l : Nat} {b : Bool} (hu : Rg u) (hl : 0 < l) (hl2 : l < 2 ^ 40) {post : Int64 → Prop} (hp : post (iL (rd u l b))) : wpX11_part (iL u) (lN l) b post := by
  have g0 : 0 < Nat.gcd u.natAbs l := Nat.gcd_pos_of_pos_right _ hl
  have gl : Nat.gcd u.natAbs l ≤ l := Nat.gcd_le_right _ hl
  unfold wpX11_part wpX11_commonDivisor
  rw [abs_L hu]
  refine cd_loop 40 u.natAbs l 0 fu (by have := hu.1; have := hu.2; omega) hl2 (by decide) (by decide) (by decide) ?_
  have n0 : ¬ lN (Nat.gcd u.natAbs l) = 0 := fun e => by
    have := (pk_lEQ (b := 0) (by omega) (by decide)).mp e
    omega
  refine k1 ((pk_lLE (a := 1) (by decide) (by omega)).mpr g0) ⟨fun q => ⟨n0, ?_⟩, fun q => ⟨n0, ?_⟩⟩
  · rw [lo_L hl hl2]
    rw [rd, q] at hp
    exact hp
  · rw [up_L hu hl hl2]
    rw [rd, q] at hp
    exact hp
theorem tells_m {u : Int} {l : Nat} {b : Bool} (hu : Rg u) (hl : 0 < l) (hl2 : l < 2 ^ 40) {post : Int64 → Prop} (hp : post (iL (rd u l b))) : wpX12_tells (iL u) (lN l) b post := by
  have J : wjX12_tells_12 post (iL u) (lN l) b (lN u.natAbs) := by
    unfold wjX12_tells_12
    refine tl_loop 40 u.natAbs l fu (by have := hu.1; have := hu.2; omega) hl2 (by decide) (by decide) (Or.inl hl) ⟨fun q => ?_, fun q => ?_⟩
    · rw [lo_L hl hl2]
      rw [rd, q] at hp
      exact hp
    · rw [up_L hu hl hl2]
      rw [rd, q] at hp
      exact hp
  unfold wpX12_tells
  have e0 : (0 : Int64) = iL 0 := rfl
  have r0 : Rg 0 := ⟨by decide, by decide⟩
  have ea : iL (u.natAbs : Int) = lN u.natAbs := iL_N (by have := hu.1; have := hu.2; omega)
  rw [← ea] at J
  refine ⟨fun h => ?_, fun h => ?_⟩
  · rw [e0, iL_le r0 hu] at h
    rwa [Int.natAbs_of_nonneg h] at J
  · rw [e0, iL_le r0 hu] at h
    rw [iL_neg]
    rwa [show (u.natAbs : Int) = -u by omega] at J
theorem rd_s {u : Int} {l c : Nat} {b : Bool} (hc : 0 < c) (hl : 0 < l) : rd (c * u) (c * l) b = rd u l b := by
  have e : Nat.gcd ((c : Int) * u).natAbs (c * l) = c * Nat.gcd u.natAbs l := by
    rw [Int.natAbs_mul, Int.natAbs_natCast, Nat.gcd_mul_left]
  have hcz : (0 : Int) < (c : Int) := by omega
  unfold rd
  rw [e]
  push_cast
  rw [Int.mul_ediv_mul_of_pos _ _ hcz, Int.mul_ediv_mul_of_pos _ _ hcz]
