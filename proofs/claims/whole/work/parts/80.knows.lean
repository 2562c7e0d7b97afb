-- knows, worth
def jI (z : Int) : Int32 := Int32.ofInt z
theorem jI_add (a b : Int) : jI a + jI b = jI (a + b) := (Int32.ofInt_add a b).symm
theorem jI_sub (a b : Int) : jI a - jI b = jI (a - b) := (Int32.ofInt_sub a b).symm
theorem jI_mul (a b : Int) : jI a * jI b = jI (a * b) := (Int32.ofInt_mul a b).symm
theorem jI_neg (a : Int) : -jI a = jI (-a) := (Int32.ofInt_neg a).symm
theorem jI_N {n : Nat} (h : n < 2 ^ 31) : jI (n : Int) = nI n := Int32.toInt_inj.mp (by rw [nI_toInt h]; exact Int32.toInt_ofInt_of_le (by omega) (by omega))
theorem jI_L {z : Int} (h1 : -2 ^ 31 ≤ z) (h2 : z < 2 ^ 31) : (jI z).toInt64 = iL z := Int64.toInt_inj.mp (by rw [Int32.toInt_toInt64, iL_T ⟨by omega, by omega⟩]; exact Int32.toInt_ofInt_of_le h1 h2)
def on (kd ch m : Nat) : Nat := min 10 (ch + (if kd = 3 then 2 * m else m))
theorem on_le (kd ch m : Nat) : on kd ch m ≤ 10 := Nat.min_le_left _ _
theorem oF_n {kd ch m : Nat} (hc : ch ≤ 10) (hm : m ≤ 1) : oF kd ch (nI m) = nI (on kd ch m) := by
  have e : nI ch + (if kd = 3 then 2 * nI m else nI m) = nI (ch + (if kd = 3 then 2 * m else m)) := by
    by_cases h : kd = 3
    · rw [if_pos h, if_pos h, show (2 : Int32) * nI m = nI (2 * m) from pk_mul 2 m, nI_add]
    · rw [if_neg h, if_neg h, nI_add]
  have hx : ch + (if kd = 3 then 2 * m else m) ≤ 12 := by
    by_cases h : kd = 3
    · rw [if_pos h]; omega
    · rw [if_neg h]; omega
  unfold oF on
  rw [e]
  generalize ch + (if kd = 3 then 2 * m else m) = x at hx
  by_cases h : x < 10
  · rw [if_pos (show nI x < (10 : Int32) from nI_lt (b := 10) h (by decide)), Nat.min_eq_right (by omega)]
  · rw [if_neg (show ¬ nI x < (10 : Int32) from nI_nlt (b := 10) (by omega) (by omega)), Nat.min_eq_left (by omega)]
    rfl
theorem ten_sub {o : Nat} (h : o ≤ 10) : (10 : Int32) - nI o = nI (10 - o) := pk_sub (a := 10) h
def wy (kd ch m : Nat) (b : Bool) : Nat := if b = true then on kd ch m else 10 - on kd ch m
theorem wy_le (kd ch m : Nat) (b : Bool) : wy kd ch m b ≤ 10 := by
  unfold wy
  have := on_le kd ch m
  by_cases h : b = true
  · rw [if_pos h]; exact this
  · rw [if_neg h]; omega
theorem wy_n {kd ch m : Nat} {b : Bool} (hc : ch ≤ 10) (hm : m ≤ 1) : (if b = true then oF kd ch (nI m) else 10 - oF kd ch (nI m)) = nI (wy kd ch m b) := by
  unfold wy
  rw [oF_n hc hm, ten_sub (on_le kd ch m)]
  by_cases h : b = true
  · rw [if_pos h, if_pos h]
  · rw [if_neg h, if_neg h]
def bI (kd ga lo : Nat) (b : Bool) : Int := if b = true then (if kd = 2 then 2 * ga else ga) else (if kd = 3 then 0 else if kd = 2 then -2 * lo else -lo)
theorem bI_b {kd ga lo : Nat} {b : Bool} (hg : ga ≤ 99) (hl : lo ≤ 99) : -198 ≤ bI kd ga lo b ∧ bI kd ga lo b ≤ 198 := by
  unfold bI
  repeat' split
  all_goals omega
theorem bF_j {kd ga lo : Nat} {b : Bool} (hg : ga ≤ 99) (hl : lo ≤ 99) : bF kd ga lo b = jI (bI kd ga lo b) := by
  unfold bF bI
  rw [← jI_N (show ga < 2 ^ 31 by omega), ← jI_N (show lo < 2 ^ 31 by omega)]
  repeat' split
  · exact jI_mul 2 ga
  · rfl
  · rfl
  · exact jI_mul (-2) lo
  · exact jI_neg lo
def kR (X Y : Nat) (u : Bool) : Int64 := if X + Y = 0 then -1000000 else iL (rd X (X + Y) u)
theorem know_e {X Y : Nat} (hX : X ≤ 100) (hY : Y ≤ 100) {u : Bool} {p1 p2 : Int64 → Prop} (h1 : p1 (kR X Y u)) (h2 : p2 (kR X Y u)) :
    ((¬ lN X + lN Y = 0 → wpX11_part (lN X) (lN X + lN Y) u p1) ∧ (lN X + lN Y = 0 → p1 (-1000000))) ∧ ((¬ lN X + lN Y = 0 → wpX12_tells (lN X) (lN X + lN Y) u p2) ∧ (lN X + lN Y = 0 → p2 (-1000000))) := by
  rw [lN_add]
  have z0 : lN (X + Y) = 0 ↔ X + Y = 0 := lN_eq (b := 0) (by omega) (by decide)
  have eX : lN X = iL (X : Int) := (iL_N (by omega)).symm
  rw [z0]
  unfold kR at h1 h2
  refine ⟨⟨fun h => ?_, fun h => ?_⟩, ⟨fun h => ?_, fun h => ?_⟩⟩
  · rw [if_neg h] at h1
    rw [eX]
    exact part_c ⟨by omega, by omega⟩ (by omega) (by omega) h1
  · rwa [if_pos h] at h1
  · rw [if_neg h] at h2
    rw [eX]
    exact tells_m ⟨by omega, by omega⟩ (by omega) (by omega) h2
  · rwa [if_pos h] at h2
theorem pu_knows : Pu_knows Inv := by
  intro S M ns hV p0 p1 p2 p3
  obtain ⟨n, d, w, r, A, kd, ch, ga, lo, hN, hc, hm, hb, -⟩ := VI_to hV.2.2.2.2.1
  obtain ⟨a1, a2, a3, a4, a5, a6, a7, a8, a9, b1, -⟩ := hN
  unfold wpX11_knows wpX12_knows
  rw [a5]
  rcases pa_case a1 hc b1 p0 with ⟨qc, qm⟩ | ⟨i, hi, rfl, qc, qm⟩
  · exact qc _ (kn (qm _ (kf' ⟨rfl, hV⟩)))
  refine qc _ (ks ⟨(hc i hi).2.1, ?_⟩)
  rcases ix_case p1 11 (by decide) with h | ⟨h, h1⟩ | ⟨j, hj, rfl⟩
  · exact k1 h (qm _ (kt' (in_f (Or.inl h) (kf' ⟨rfl, hV⟩))))
  · have h2 := gt_of_ge h1 (by decide)
    exact k2 h (k1 h2 (qm _ (kt' (in_f (Or.inr h2) (kf' ⟨rfl, hV⟩)))))
  have j1 : ¬ (10 : Int32) < nI j := nI_nlt (a := 10) (by omega) (by decide)
  refine k2 (nI_pos (by omega)) (k2 j1 ?_)
  rcases ix_case p2 2 (by decide) with h | ⟨h, h1⟩ | ⟨t, ht, rfl⟩
  · exact k1 h (qm _ (kt' (in_t (nI_pos (by omega)) j1 (kt' (in_f (Or.inl h) (kf ⟨rfl, hV⟩))))))
  · have h2 := gt_of_ge h1 (by decide)
    exact k2 h (k2 (Int32.not_le.mpr h2) (qm _ (kt' (in_t (nI_pos (by omega)) j1 (kt' (in_f (Or.inr h2) (kf ⟨rfl, hV⟩)))))))
  have t1 : nI t ≤ (1 : Int32) := nI_le (b := 1) (by omega) (by decide)
  refine k2 (nI_pos (by omega)) (k1 t1 ?_)
  obtain ⟨p1', p2', p3', p4, p5⟩ := hc i hi
  obtain ⟨m1, m2, m3, m4, m5, m6⟩ := hm i hi
  obtain ⟨u1, u2, u3⟩ := hb i hi
  have i3 : i < 3 := by omega
  have gin : ∀ {q : Bool → Prop}, q true → wpX12_in (nI j) 0 10 q := fun hq => in_t (nI_pos (by omega)) j1 hq
  have gin2 : ∀ {q : Bool → Prop}, q true → wpX12_in (nI t) 0 1 q := fun hq => in_t (nI_pos (by omega)) (Int32.not_lt.mpr t1) hq
  have y : ∀ m b, wy (kd i) (ch i) m b ≤ 10 := fun m b => wy_le (kd i) (ch i) m b
  have g1 : ∀ b, j * wy (kd i) (ch i) 1 b ≤ 100 := fun b => Nat.le_trans (Nat.mul_le_mul (show j ≤ 10 by omega) (y 1 b)) (by decide)
  have g0 : ∀ b, (10 - j) * wy (kd i) (ch i) 0 b ≤ 100 := fun b => Nat.le_trans (Nat.mul_le_mul (show 10 - j ≤ 10 by omega) (y 0 b)) (by decide)
  have e10 : (10 : Int32) - nI j = nI (10 - j) := ten_sub (by omega)
  have l1 : ∀ b, (nI j * nI (wy (kd i) (ch i) 1 b)).toInt64 = lN (j * wy (kd i) (ch i) 1 b) := fun b => by
    rw [pk_mul, nI_l (by have := g1 b; omega)]
  have l0 : ∀ b, (nI (10 - j) * nI (wy (kd i) (ch i) 0 b)).toInt64 = lN ((10 - j) * wy (kd i) (ch i) 0 b) := fun b => by
    rw [pk_mul, nI_l (by have := g0 b; omega)]
  have mo : ∀ {q : Int32 → Int32 → Prop}, q (oF (kd i) (ch i) (nI 0)) (oF (kd i) (ch i) (nI 1)) → wpX12_odds (nI i) 0 M.2.1.2.2.2.2.2.1 (fun r4 => wpX12_odds (nI i) 1 M.2.1.2.2.2.2.2.1 (fun r5 => q r4 r5)) := fun hq => m_odds i3 m6 m1 m2 (m_odds i3 m6 m1 m2 hq)
  have ez1 : bz true = nI 1 := rfl
  have ez0 : bz false = nI 0 := rfl
  unfold wjX11_knows_52 wjX11_knows_78
  rw [p3', ez1, ez0, e10]
  have hcs : t = 0 ∨ t = 1 := by omega
  rcases hcs with rfl | rfl
  · refine k4 (by decide) (v_ways p4 p5 (k4 (by decide) (v_ways p4 p5 ?_)))
    rw [wy_n u1 (by decide), wy_n u1 (by decide), l1 false, l0 false]
    refine (know_e (p2 := fun _ => True) (g1 false) (g0 false) ?_ trivial).1
    refine qm _ (kt' (gin (kt' (gin2 (kt (mo (k4 (by decide) ?_)))))))
    unfold wjX12_knows_69 wjX12_knows_92
    refine k4 (by decide) ?_
    have w1 := wy_n (kd := kd i) (b := false) u1 (show 1 ≤ 1 by decide)
    have w0 := wy_n (kd := kd i) (b := false) u1 (show 0 ≤ 1 by decide)
    rw [if_neg (by decide)] at w1 w0
    rw [w1, w0, e10, l1 false, l0 false]
    exact (know_e (p1 := fun _ => True) (g1 false) (g0 false) trivial ⟨rfl, hV⟩).2
  · refine k3 rfl (v_ways p4 p5 (k3 rfl (v_ways p4 p5 ?_)))
    rw [wy_n u1 (by decide), wy_n u1 (by decide), l1 true, l0 true]
    refine (know_e (p2 := fun _ => True) (g1 true) (g0 true) ?_ trivial).1
    refine qm _ (kt' (gin (kt' (gin2 (kt (mo (k3 rfl ?_)))))))
    unfold wjX12_knows_69 wjX12_knows_92
    refine k3 rfl ?_
    have w1 := wy_n (kd := kd i) (b := true) u1 (show 1 ≤ 1 by decide)
    have w0 := wy_n (kd := kd i) (b := true) u1 (show 0 ≤ 1 by decide)
    rw [if_pos rfl] at w1 w0
    rw [w1, w0, e10, l1 true, l0 true]
    exact (know_e (p1 := fun _ => True) (g1 true) (g0 true) trivial ⟨rfl, hV⟩).2
