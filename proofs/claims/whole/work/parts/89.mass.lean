-- nothing of the odds is lost
def Xg (G : Pg) (σ : Sg) (v : Nat) : Nat := σ.1 v * 10 ^ (12 - G.1 * pc8 v)
def Yg (G : Pg) (σ : Sg) (v : Nat) : Nat := σ.2.1 v * 10 ^ (12 - G.1 * (pc8 v + 1))
def Mg (G : Pg) (u : Nat) (σ : Sg) : Nat := s8 (fun v => if u ≤ v then Xg G σ v else 0) + s8 (Yg G σ)
theorem pc_3 (v : Nat) : pc8 v ≤ 3 := by have := pc_le v; omega
def Jg (G : Pg) (σ : Sg) : Prop := (∀ v, 2 ^ G.1 ≤ v → σ.1 v = 0 ∧ σ.2.1 v = 0) ∧ (∀ v i, i < G.1 → -(198 * (σ.2.1 v : Int)) ≤ σ.2.2 v i ∧ σ.2.2 v i ≤ 198 * (σ.2.1 v : Int))
section MASS
variable {G : Pg} (hn : G.1 ≤ 3) (hr : G.2.1 < 8) (hb : ∀ i, i < G.1 → G.2.2.2.2.1 i ≤ 99 ∧ G.2.2.2.2.2.1 i ≤ 99)
theorem stp_u {u w : Nat} (σ : Sg) : (stp G u w σ).1 u = σ.1 u := by
  unfold stp
  cases h : fR G u w with
  | none => rfl
  | some i =>
    show ad σ.1 (u + 2 ^ i) _ u = _
    unfold ad
    have := Nat.two_pow_pos i
    rw [if_neg (by omega)]
theorem fW_u {u : Nat} (σ : Sg) : ∀ w, (fW G u w σ).1 u = σ.1 u
  | 0 => rfl
  | w + 1 => by rw [fW, stp_u, fW_u σ w]
theorem stp_J (hn : G.1 ≤ 3) (hr : G.2.1 < 8) (hb : ∀ i, i < G.1 → G.2.2.2.2.1 i ≤ 99 ∧ G.2.2.2.2.2.1 i ≤ 99) {u w : Nat} (hu : u < 2 ^ G.1) {σ : Sg} (hJ : Jg G σ) : Jg G (stp G u w σ) := by
  obtain ⟨j1, j3⟩ := hJ
  unfold stp
  cases h : fR G u w with
  | none =>
    refine ⟨fun v hv => ⟨(j1 v hv).1, ?_⟩, fun v i hi => ?_⟩
    · show ad σ.2.1 u _ v = 0
      unfold ad
      rw [if_neg (by omega)]
      exact (j1 v hv).2
    · show -(198 * ((ad σ.2.1 u (its G σ u w) v : Nat) : Int)) ≤ (if v = u ∧ i < G.1 then σ.2.2 v i + its G σ u w * bW G i w else σ.2.2 v i) ∧ (if v = u ∧ i < G.1 then σ.2.2 v i + its G σ u w * bW G i w else σ.2.2 v i) ≤ 198 * ((ad σ.2.1 u (its G σ u w) v : Nat) : Int)
      unfold ad
      by_cases e : v = u
      · rw [if_pos e, if_pos ⟨e, hi⟩]
        have hbw : -198 ≤ bW G i w ∧ bW G i w ≤ 198 := bI_b (hb i hi).1 (hb i hi).2
        have q := j3 v i hi
        have nn : (0 : Int) ≤ (its G σ u w : Int) := Int.natCast_nonneg _
        have q1 : (its G σ u w : Int) * bW G i w ≤ (its G σ u w : Int) * 198 := Int.mul_le_mul_of_nonneg_left hbw.2 nn
        have q2 : (its G σ u w : Int) * (-198) ≤ (its G σ u w : Int) * bW G i w := Int.mul_le_mul_of_nonneg_left hbw.1 nn
        push_cast
        omega
      · rw [if_neg e, if_neg (fun q : v = u ∧ i < G.1 => e q.1)]
        exact j3 v i hi
  | some i =>
    obtain ⟨f1, f2, f3, f4⟩ := fR_some hn hr hu h
    refine ⟨fun v hv => ⟨?_, (j1 v hv).2⟩, j3⟩
    show ad σ.1 (u + 2 ^ i) _ v = 0
    unfold ad
    rw [if_neg (by omega)]
    exact (j1 v hv).1
theorem stp_M (hn : G.1 ≤ 3) (hr : G.2.1 < 8) {u w : Nat} (hu : u < 2 ^ G.1) (σ : Sg) : Mg G (u + 1) (stp G u w σ) = Mg G (u + 1) σ + σ.1 u * wn G.2.2.1 G.2.2.2.1 u w G.1 * 10 ^ (12 - G.1 * (pc8 u + 1)) := by
  have h8 : 2 ^ G.1 ≤ 2 ^ 3 := Nat.pow_le_pow_right (by decide) hn
  unfold stp
  cases h : fR G u w with
  | none =>
    have e : s8 (Yg G (σ.1, ad σ.2.1 u (its G σ u w), fun v i => if v = u ∧ i < G.1 then σ.2.2 v i + its G σ u w * bW G i w else σ.2.2 v i)) = s8 (ad (Yg G σ) u (σ.1 u * wn G.2.2.1 G.2.2.2.1 u w G.1 * 10 ^ (12 - G.1 * (pc8 u + 1)))) := s8_c (fun k hk => by
      show ad σ.2.1 u (its G σ u w) k * _ = ad (Yg G σ) u _ k
      unfold ad Yg its
      by_cases e : k = u
      · rw [if_pos e, if_pos e, Nat.add_mul, e]
      · rw [if_neg e, if_neg e])
    unfold Mg
    rw [e, s8_ad (by omega)]
    rw [← Nat.add_assoc]
    rfl
  | some i =>
    obtain ⟨f1, f2, f3, f4⟩ := fR_some hn hr hu h
    have p0 := Nat.two_pow_pos i
    have e : s8 (fun v => if u + 1 ≤ v then Xg G (ad σ.1 (u + 2 ^ i) (its G σ u w), σ.2.1, σ.2.2) v else 0) = s8 (ad (fun v => if u + 1 ≤ v then Xg G σ v else 0) (u + 2 ^ i) (σ.1 u * wn G.2.2.1 G.2.2.2.1 u w G.1 * 10 ^ (12 - G.1 * (pc8 u + 1)))) := s8_c (fun k hk => by
      show (if u + 1 ≤ k then ad σ.1 (u + 2 ^ i) (its G σ u w) k * _ else 0) = ad _ (u + 2 ^ i) _ k
      unfold ad Xg its
      dsimp only
      by_cases e : k = u + 2 ^ i
      · rw [if_pos e, if_pos e, if_pos (by omega), if_pos (by omega), Nat.add_mul]
        congr 2
        rw [e, f4]
      · rw [if_neg e, if_neg e])
    unfold Mg
    rw [e, s8_ad (by omega)]
    have : s8 (Yg G (ad σ.1 (u + 2 ^ i) (its G σ u w), σ.2.1, σ.2.2)) = s8 (Yg G σ) := rfl
    rw [this]
    omega
theorem fW_J (hn : G.1 ≤ 3) (hr : G.2.1 < 8) (hb : ∀ i, i < G.1 → G.2.2.2.2.1 i ≤ 99 ∧ G.2.2.2.2.2.1 i ≤ 99) {u : Nat} (hu : u < 2 ^ G.1) {σ : Sg} (hJ : Jg G σ) : ∀ w, Jg G (fW G u w σ)
  | 0 => hJ
  | w + 1 => stp_J hn hr hb hu (fW_J hn hr hb hu hJ w)
theorem fW_M (hn : G.1 ≤ 3) (hr : G.2.1 < 8) {u : Nat} (hu : u < 2 ^ G.1) (σ : Sg) : ∀ w, Mg G (u + 1) (fW G u w σ) = Mg G (u + 1) σ + σ.1 u * sN (fun w => wn G.2.2.1 G.2.2.2.1 u w G.1) w * 10 ^ (12 - G.1 * (pc8 u + 1))
  | 0 => by
    show Mg G (u + 1) σ = _
    rw [sN, Nat.mul_zero, Nat.zero_mul]
    rfl
  | w + 1 => by
    rw [fW, stp_M hn hr hu, fW_M hn hr hu σ w, fW_u, sN, Nat.mul_add (σ.1 u), Nat.add_mul, Nat.add_assoc]
theorem M_step {u : Nat} (hu : u < 8) (σ : Sg) : Mg G u σ = Mg G (u + 1) σ + Xg G σ u := by
  have e : s8 (fun v => if u ≤ v then Xg G σ v else 0) = s8 (ad (fun v => if u + 1 ≤ v then Xg G σ v else 0) u (Xg G σ u)) := s8_c (fun k hk => by
    show (if u ≤ k then Xg G σ k else 0) = ad _ u _ k
    unfold ad
    dsimp only
    by_cases e : k = u
    · rw [if_pos (by omega), if_pos e, if_neg (by omega), Nat.zero_add, e]
    · rw [if_neg e]
      by_cases h : u ≤ k
      · rw [if_pos h, if_pos (by omega)]
      · rw [if_neg h, if_neg (by omega)])
  unfold Mg
  rw [e, s8_ad hu]
  omega
theorem fU_inv (hn : G.1 ≤ 3) (hr : G.2.1 < 8) (hb : ∀ i, i < G.1 → G.2.2.2.2.1 i ≤ 99 ∧ G.2.2.2.2.2.1 i ≤ 99) : ∀ u, u ≤ 2 ^ G.1 → Jg G (fU G u) ∧ Mg G u (fU G u) = 10 ^ 12 := by
  have h8 : 2 ^ G.1 ≤ 2 ^ 3 := Nat.pow_le_pow_right (by decide) hn
  intro u
  induction u with
  | zero =>
    intro _
    have p0 := Nat.two_pow_pos G.1
    refine ⟨⟨fun v hv => ⟨?_, rfl⟩, fun v i hi => ⟨?_, ?_⟩⟩, ?_⟩
    · show (if v = 0 then 1 else 0) = 0
      rw [if_neg (by omega)]
    · show -(198 * ((0 : Nat) : Int)) ≤ 0
      omega
    · show (0 : Int) ≤ 198 * ((0 : Nat) : Int)
      omega
    · unfold Mg Xg Yg fU s8
      simp [pc8]
  | succ u ih =>
    intro hu
    obtain ⟨hJ, hM⟩ := ih (by omega)
    rw [M_step (by omega)] at hM
    rw [fU]
    by_cases e : (fU G u).1 u = 0
    · rw [if_pos e]
      refine ⟨hJ, ?_⟩
      unfold Xg at hM
      rw [e, Nat.zero_mul, Nat.add_zero] at hM
      exact hM
    · rw [if_neg e]
      refine ⟨fW_J hn hr hb (by omega) hJ _, ?_⟩
      rw [fW_M hn hr (by omega), wn_sum hn, Nat.mul_assoc, ← Nat.pow_add]
      have hp := pc_3 u
      have h12 : G.1 * (pc8 u + 1) ≤ 3 * 4 := Nat.mul_le_mul hn (by omega)
      have e2 : G.1 * (pc8 u + 1) = G.1 * pc8 u + G.1 := by rw [Nat.mul_add, Nat.mul_one]
      rw [show G.1 + (12 - G.1 * (pc8 u + 1)) = 12 - G.1 * pc8 u by omega]
      exact hM
end MASS
