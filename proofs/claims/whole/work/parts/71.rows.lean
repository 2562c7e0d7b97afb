-- pasted: kit/laws BITS, the family 'Int32 by its bits'
def bt (x : Int32) (i : Nat) : Bool := x.toBitVec.getLsbD i
theorem b_ext {x y : Int32} (h : ∀ i, i < 32 → bt x i = bt y i) : x = y := Int32.toBitVec_inj.mp (BitVec.eq_of_getLsbD_eq (fun i hi => h i hi))
theorem b_or (x y : Int32) (i : Nat) : bt (x ||| y) i = (bt x i || bt y i) := by unfold bt; rw [Int32.toBitVec_or, BitVec.getLsbD_or]
theorem b_and (x y : Int32) (i : Nat) : bt (x &&& y) i = (bt x i && bt y i) := by unfold bt; rw [Int32.toBitVec_and, BitVec.getLsbD_and]
theorem b_xor (x y : Int32) (i : Nat) : bt (x ^^^ y) i = (bt x i ^^ bt y i) := by unfold bt; rw [Int32.toBitVec_xor, BitVec.getLsbD_xor]
theorem b_big {x : Int32} {i : Nat} (h : 32 ≤ i) : bt x i = false := BitVec.getLsbD_of_ge _ _ h
theorem b_255 (i : Nat) : bt 255 i = decide (i < 8) := by
  rcases Nat.lt_or_ge i 32 with h | h
  · exact (by decide +kernel : ∀ i, i < 32 → bt 255 i = decide (i < 8)) i h
  · rw [b_big h, decide_eq_false (by omega)]
theorem b_65535 (i : Nat) : bt 65535 i = decide (i < 16) := by
  rcases Nat.lt_or_ge i 32 with h | h
  · exact (by decide +kernel : ∀ i, i < 32 → bt 65535 i = decide (i < 16)) i h
  · rw [b_big h, decide_eq_false (by omega)]
theorem b_m1 : ∀ i, i < 32 → bt (-1) i = true := by decide +kernel
theorem b_0 (i : Nat) : bt 0 i = false := BitVec.getLsbD_zero
theorem s_l : ∀ n, n < 32 → ((nI n &&& 31).toBitVec.smod 32).toNat = n := by decide +kernel
theorem s_u : ∀ n, n < 32 → (((nI n).toUInt32 &&& Int32.toUInt32 31).toBitVec % 32).toNat = n := by decide +kernel
theorem b_shl (n : Nat) (hn : n < 32) (x : Int32) {i : Nat} (hi : i < 32) : bt (x <<< (nI n &&& 31)) i = (decide (n ≤ i) && bt x (i - n)) := by
  unfold bt
  rw [Int32.toBitVec_shiftLeft]
  show (x.toBitVec <<< ((nI n &&& 31).toBitVec.smod 32).toNat).getLsbD i = _
  rw [s_l n hn, BitVec.getLsbD_shiftLeft]
  rcases Nat.lt_or_ge i n with h | h
  · simp [h, Nat.not_le.mpr h]
  · simp [hi, h, Nat.not_lt.mpr h]
theorem b_ushr (n : Nat) (hn : n < 32) (x : Int32) (i : Nat) : bt ((x.toUInt32 >>> ((nI n).toUInt32 &&& Int32.toUInt32 31)).toInt32) i = bt x (n + i) := by
  show (x.toUInt32 >>> ((nI n).toUInt32 &&& Int32.toUInt32 31)).toBitVec.getLsbD i = x.toUInt32.toBitVec.getLsbD (n + i)
  rw [UInt32.toBitVec_shiftRight]
  show (x.toUInt32.toBitVec >>> (((nI n).toUInt32 &&& Int32.toUInt32 31).toBitVec % 32).toNat).getLsbD i = _
  rw [s_u n hn, BitVec.getLsbD_ushiftRight]
theorem b_sshr (n : Nat) (hn : n < 32) (x : Int32) {i : Nat} (hi : i < 32) : bt (x >>> (nI n &&& 31)) i = if n + i < 32 then bt x (n + i) else bt x 31 := by
  unfold bt
  rw [Int32.toBitVec_shiftRight]
  show (x.toBitVec.sshiftRight ((nI n &&& 31).toBitVec.smod 32).toNat).getLsbD i = _
  rw [s_l n hn, BitVec.getLsbD_sshiftRight, BitVec.msb_eq_getLsbD_last]
  simp [hi]
theorem b_shl8 (x : Int32) {i : Nat} (hi : i < 32) : bt (x <<< ((8 : Int32) &&& 31)) i = (decide (8 ≤ i) && bt x (i - 8)) := b_shl 8 (by omega) x hi
theorem b_shl16 (x : Int32) {i : Nat} (hi : i < 32) : bt (x <<< ((16 : Int32) &&& 31)) i = (decide (16 ≤ i) && bt x (i - 16)) := b_shl 16 (by omega) x hi
theorem b_shl24 (x : Int32) {i : Nat} (hi : i < 32) : bt (x <<< ((24 : Int32) &&& 31)) i = (decide (24 ≤ i) && bt x (i - 24)) := b_shl 24 (by omega) x hi
theorem b_sshr8 (x : Int32) {i : Nat} (hi : i < 32) : bt (x >>> ((8 : Int32) &&& 31)) i = if 8 + i < 32 then bt x (8 + i) else bt x 31 := b_sshr 8 (by omega) x hi
-- rows, tape, trace: class and reference
theorem cut8 (x : Int32) : (x <<< ((24 : Int32) &&& 31)) >>> ((24 : Int32) &&& 31) = x.toInt8.toInt32 := by
  apply b_ext
  intro i hi
  rw [show (24 : Int32) = nI 24 from rfl, b_sshr 24 (by decide) _ hi]
  have e : bt x.toInt8.toInt32 i = if i < 8 then bt x i else bt x 7 := by
    unfold bt
    rw [Int8.toBitVec_toInt32, Int32.toBitVec_toInt8, BitVec.getLsbD_signExtend]
    simp only [BitVec.getLsbD_setWidth, BitVec.msb_eq_getLsbD_last]
    by_cases h : i < 8 <;> simp [h, hi, BitVec.getElem_signExtend]
  rw [e]
  by_cases h : i < 8
  · rw [if_pos (by omega), if_pos h, b_shl 24 (by decide) _ (by omega)]
    simp
  · rw [if_neg (by omega), if_neg h, b_shl 24 (by decide) _ (by omega)]
    simp
theorem cut16 (x : Int32) : (x <<< ((16 : Int32) &&& 31)) >>> ((16 : Int32) &&& 31) = x.toInt16.toInt32 := by
  apply b_ext
  intro i hi
  rw [show (16 : Int32) = nI 16 from rfl, b_sshr 16 (by decide) _ hi]
  have e : bt x.toInt16.toInt32 i = if i < 16 then bt x i else bt x 15 := by
    unfold bt
    rw [Int16.toBitVec_toInt32, Int32.toBitVec_toInt16, BitVec.getLsbD_signExtend]
    simp only [BitVec.getLsbD_setWidth, BitVec.msb_eq_getLsbD_last]
    by_cases h : i < 16 <;> simp [h, hi, BitVec.getElem_signExtend]
  rw [e]
  by_cases h : i < 16
  · rw [if_pos (by omega), if_pos h, b_shl 16 (by decide) _ (by omega)]
    simp
  · rw [if_neg (by omega), if_neg h, b_shl 16 (by decide) _ (by omega)]
    simp
theorem ix40 (j k : Nat) : (40 : Int32) * nI j + nI k = nI (40 * j + k) := by rw [show (40 : Int32) = nI 40 from rfl, pk_mul, nI_add]
def zf (j k : Nat) (f : Nat → Int32) : Nat → Int32 := fun i => if 40 * j + k ≤ i ∧ i < 40 * j + 40 then 0 else f i
theorem zf_s {j k : Nat} (hk : k < 40) (f : Nat → Int32) : zf j (k + 1) (upd f (40 * j + k) 0) = zf j k f := funext fun i => by
  unfold zf upd
  by_cases e : i = 40 * j + k
  · subst e
    rw [if_neg (by omega), if_pos rfl, if_pos (by omega)]
  · by_cases h : 40 * j + k ≤ i ∧ i < 40 * j + 40
    · rw [if_pos h, if_pos (by omega)]
    · rw [if_neg h, if_neg (by omega), if_neg e]
theorem row_loop {post : Int32 → Int32 → (Nat → Int32) → (Nat → Int32) → (Nat → Int32) → Prop} {j : Nat} (hj : j < 8) {p2 : Int32} : ∀ (n k : Nat) (st : Int32) (la ma it : Nat → Int32), k ≤ 40 → 40 < n + k → post p2 0 la ma (zf j k it) → wlX12_row_52 post n (nI j) p2 (nI k) st la ma it := by
  intro n
  induction n with
  | zero => intro k st la ma it h1 h2; omega
  | succ n ih =>
    intro k st la ma it h1 h2 hp
    unfold wlX12_row_52
    refine ⟨fun h => ?_, fun h => ?_⟩
    · have hk : 40 ≤ k := (nI_leI (a := 40) (by decide) (by omega)).mp h
      have e : zf j k it = it := funext fun i => by unfold zf; rw [if_neg (by omega)]
      rw [e] at hp
      exact hp
    · have hk : k < 40 := by
        rcases Nat.lt_or_ge k 40 with q | q
        · exact q
        · exact absurd ((nI_leI (a := 40) (by decide) (by omega)).mpr q) h
      rw [ix40, nI_clamp (by omega), nI_1]
      exact ⟨vp_in_nI (by omega) (by decide), ih (k + 1) _ _ _ _ (by omega) (by omega) (by rw [zf_s hk]; exact hp)⟩
theorem pu_row : Pu_row Inv := by
  intro S M ns hV p0 p1 p2
  unfold wpX11_row
  have hmod : ∀ post : Int32 → Int32 → (Nat → Int32) → (Nat → Int32) → (Nat → Int32) → Prop, post (-1000001) M.1.1 M.2.1.1 M.2.1.2.1 M.2.1.2.2.1 → (∀ q : Bool → Prop, q false → wpX12_isRow p0 q) → wpX12_row p0 p1 p2 M.1.1 M.2.1.1 M.2.1.2.1 M.2.1.2.2.1 post := fun post hp hm => hm _ ⟨fun _ => hp, fun h => by cases h⟩
  rcases row_case p0 with ⟨hc, hm⟩ | ⟨j, hj, rfl, hc, hm⟩
  · exact hc _ ⟨fun _ => hmod _ ⟨rfl, hV⟩ hm, fun h => by cases h⟩
  · refine hc _ ⟨(fun h => by cases h), fun _ => ?_⟩
    have hbad : ∀ post : Int32 → Int32 → (Nat → Int32) → (Nat → Int32) → (Nat → Int32) → Prop, post (-1000001) M.1.1 M.2.1.1 M.2.1.2.1 M.2.1.2.2.1 → (p1 < 0 ∨ 2 < p1) → wpX12_row (nI j) p1 p2 M.1.1 M.2.1.1 M.2.1.2.1 M.2.1.2.2.1 post := fun post hp h1 => hm _ ⟨(fun h => by cases h), fun _ => in_f h1 ⟨fun _ => hp, fun h => by cases h⟩⟩
    rcases ix_case p1 3 (by decide) with h | ⟨h, h1⟩ | ⟨t, ht, rfl⟩
    · exact ⟨fun _ => hbad _ ⟨rfl, hV⟩ (Or.inl h), fun q => absurd h q⟩
    · exact ⟨fun q => absurd q h, fun _ => ⟨fun _ => hbad _ ⟨rfl, hV⟩ (Or.inr (gt_of_ge h1 (by decide))), fun q => absurd h1 q⟩⟩
    have a1 : ¬ nI t < 0 := nI_pos (by omega)
    have a2 : ¬ (2 : Int32) < nI t := nI_nlt (a := 2) (b := t) (by omega) (by decide)
    refine ⟨fun q => absurd q a1, fun _ => ⟨fun q => absurd q (nI_ge ht (by decide)), fun _ => ⟨fun h40 => ⟨fun h0 => ?_, fun h0 => ?_⟩, fun h40 => ?_⟩⟩⟩
    · obtain ⟨n, hn, rfl⟩ : ∃ n : Nat, n ≤ 40 ∧ p2 = nI n := nI_of2 (M := 40) rfl (Int32.not_lt.mpr h0) h40
      refine ⟨in8 hj, ?_⟩
      unfold wpX11_answered wpX12_row
      refine hm _ ⟨(fun h => by cases h), fun _ => in_t a1 a2 ⟨(fun h => by cases h), fun _ => ⟨fun _ => ⟨fun _ => ⟨in8 hj, in8 hj, ?_⟩, fun q => absurd h0 q⟩, fun q => absurd h40 q⟩⟩⟩
      rw [cl8 hj]
      refine row_loop hj fu 0 _ _ _ _ (by omega) (by decide) ?_
      obtain ⟨hR, -, hrest⟩ := hV
      refine ⟨rfl, fun i hi => ?_, rfl, hrest⟩
      by_cases e : i = j
      · subst e
        refine ⟨fun k hk => ?_, Or.inr ⟨t, n, by omega, hn, by simp [upd], by simp [upd], by simp [upd], by simp [upd]⟩⟩
        simp only [va_up, fl, zf, if_true]
        rw [if_pos hk, if_pos (by omega)]
      · obtain ⟨h1, h2⟩ := hR i hi
        refine ⟨fun k hk => ?_, ?_⟩
        · simp only [va_up, if_neg e, zf]
          rw [if_neg (by omega)]
          exact h1 k hk
        · simpa [upd, e] using h2
    · unfold wpX11_found wpX12_row
      refine hm _ ⟨(fun h => by cases h), fun _ => in_t a1 a2 ⟨(fun h => by cases h), fun _ => ⟨fun _ => ⟨fun q => absurd q h0, fun _ => ?_⟩, fun q => absurd h40 q⟩⟩⟩
      obtain ⟨hR, -, hrest⟩ := hV
      exact ⟨rfl, hR, rfl, hrest⟩
    · unfold wpX12_row
      exact hm _ ⟨(fun h => by cases h), fun _ => in_t a1 a2 ⟨(fun h => by cases h), fun _ => ⟨fun q => absurd q h40, fun _ => ⟨rfl, hV⟩⟩⟩⟩
theorem sub1 {n : Nat} (h : 0 < n) : nI n - 1 = nI (n - 1) := pk_sub (a := n) (b := 1) h
theorem sub1_0 : nI 0 - 1 = -1 := rfl
/-- a place below n, by the class's test and by the reference's -/
theorem pl_case (x : Int32) (n : Nat) (hn : n < 2 ^ 30) : (x < 0 ∨ nI n - 1 < x) ∨ ∃ j : Nat, j < n ∧ x = nI j ∧ ¬ nI j < 0 ∧ ¬ nI n - 1 < nI j := by
  have hsub : (nI n - 1).toInt = (n : Int) - 1 := by rw [show (1 : Int32) = nI 1 from rfl, pk_sub_toInt (by omega) (by omega)]; rfl
  rcases ix_case x n (by omega) with h | ⟨h, h1⟩ | ⟨j, hj, rfl⟩
  · exact Or.inl (Or.inl h)
  · refine Or.inl (Or.inr ?_)
    rw [Int32.le_iff_toInt_le, nI_toInt (by omega)] at h1
    rw [Int32.lt_iff_toInt_lt, hsub]
    omega
  · refine Or.inr ⟨j, hj, rfl, nI_pos (by omega), ?_⟩
    rw [Int32.lt_iff_toInt_lt, hsub, nI_toInt (by omega)]
    omega
theorem pu_trace : Pu_trace Inv := by
  intro S M ns hV p0
  obtain ⟨t, ht, h1, h2, h3⟩ := hV.2.2.2.2.2.2.2
  unfold wpX11_trace wpX8_numberAt wjX8_numberAt_12 wpX12_trace
  rw [h1, h2]
  rcases ix_case p0 t (by omega) with h | ⟨h, h4⟩ | ⟨j, hj, rfl⟩
  · exact ⟨fun _ => in_f (Or.inl h) ⟨fun _ => ⟨rfl, hV⟩, fun h => by cases h⟩, fun q => absurd h q⟩
  · refine ⟨fun q => absurd q h, fun _ => ⟨fun q => absurd h4 (Int32.not_le.mpr q), fun _ => ?_⟩⟩
    rcases pl_case p0 t (by omega) with h5 | ⟨j, hj, rfl, -, -⟩
    · exact in_f h5 ⟨fun _ => ⟨rfl, hV⟩, fun h => by cases h⟩
    · exact absurd h4 (nI_ge hj (by omega))
  · refine ⟨fun q => absurd q (nI_pos (by omega)), fun _ => ⟨fun _ => ⟨vp_in_nI (by omega) (by decide), ?_⟩, fun q => absurd (nI_lt hj (by omega)) q⟩⟩
    rcases pl_case (nI j) t (by omega) with h5 | ⟨i, hi, e, h6, h7⟩
    · rcases h5 with h5 | h5
      · exact absurd h5 (nI_pos (by omega))
      · rcases Nat.eq_zero_or_pos t with h0 | h0
        · omega
        · rw [sub1 h0] at h5
          exact absurd h5 (nI_nlt (by omega) (by omega))
    · have e2 : j = i := (nI_eq (by omega) (by omega)).mp e
      subst e2
      refine in_t h6 h7 ⟨(fun h => by cases h), fun _ => ⟨vp_in_nI (by omega) (by decide), ?_⟩⟩
      rw [nI_clamp (by omega)]
      exact ⟨h3 j hj, hV⟩
theorem pu_feed : Pu_feed Inv := by
  intro S M ns hV p0
  obtain ⟨n, hn, h1, h2, h3⟩ := hV.2.2.1
  unfold wpX11_feed wpX12_feed wpX7_takeByte
  rw [h1, h2]
  rcases ix_case p0 256 (by decide) with h | ⟨h, h4⟩ | ⟨c, hc, rfl⟩
  · exact ⟨fun _ => in_f (Or.inl h) ⟨(fun h => by cases h), fun _ => ⟨rfl, hV.1, hV.2.1, ⟨n, hn, rfl, rfl, h3⟩, hV.2.2.2⟩⟩, fun q => absurd h q⟩
  · have h5 := gt_of_ge h4 (by decide)
    exact ⟨fun q => absurd q h, fun _ => ⟨fun q => absurd q (Int32.not_le.mpr h5), fun _ => in_f (Or.inr h5) ⟨(fun h => by cases h), fun _ => ⟨rfl, hV.1, hV.2.1, ⟨n, hn, rfl, rfl, h3⟩, hV.2.2.2⟩⟩⟩⟩
  · have a1 : ¬ nI c < 0 := nI_pos (by omega)
    have a2 : nI c ≤ 255 := nI_le (a := c) (b := 255) (by omega) (by decide)
    refine ⟨fun q => absurd q a1, fun _ => ⟨fun _ => ⟨fun h => ?_, fun h => ?_⟩, fun q => absurd a2 q⟩⟩
    · have hlt : n < 60 := (nI_ltI (b := 60) (by omega) (by decide)).mp h
      refine ⟨vp_in_nI hlt (by decide), (fun h => by cases h), fun _ => ?_⟩
      refine in_t a1 (Int32.not_lt.mpr a2) ⟨fun _ => ⟨fun _ => ⟨vp_in_nI hlt (by decide), ?_⟩, fun e => ?_⟩, (fun h => by cases h)⟩
      · rw [nI_clamp (by omega), nI_1]
        refine ⟨rfl, hV.1, hV.2.1, ⟨n + 1, by omega, rfl, rfl, fun k hk => ?_⟩, hV.2.2.2⟩
        by_cases e : k = n
        · exact ⟨c, hc, by simp [upd, e], by simp [upd, e]⟩
        · obtain ⟨c2, q1, q2, q3⟩ := h3 k hk
          exact ⟨c2, q1, by simpa [upd, e] using q2, by simpa [upd, e] using q3⟩
      · exact absurd ((nI_eq (b := 60) (by omega) (by decide)).mp e) (by omega)
    · have hge : n = 60 := by
        rcases Nat.lt_or_ge n 60 with q | q
        · exact absurd (nI_lt (b := 60) q (by decide)) h
        · omega
      subst hge
      refine ⟨fun _ => ?_, (fun h => by cases h)⟩
      exact in_t a1 (Int32.not_lt.mpr a2) ⟨fun _ => ⟨fun q => absurd rfl q, fun _ => ⟨rfl, hV.1, hV.2.1, ⟨60, hn, rfl, rfl, h3⟩, hV.2.2.2⟩⟩, (fun h => by cases h)⟩

theorem part_f {p0 p1 p2 : Int32} {si : Nat → Int32} {j : Nat} {post : Bool → Prop} (hj : j < 8) (h0 : p0 = nI j) (h : p1 < 0 ∨ p2 < 0 ∨ si j < p2 ∨ si j - p2 < p1) (hp : post false) : wpX4_hasPart p0 p1 p2 si post := by
  subst h0
  unfold wpX4_hasPart
  rw [cl8 hj]
  refine ⟨fun _ => hp, fun a1 => ⟨fun _ => hp, fun a2 => ⟨in8 hj, fun _ => hp, fun a3 => ⟨in8 hj, fun _ => hp, fun a4 => ?_⟩⟩⟩⟩
  rcases h with h | h | h | h <;> contradiction
theorem part_t {p0 p1 p2 : Int32} {si : Nat → Int32} {j : Nat} {post : Bool → Prop} (hj : j < 8) (h0 : p0 = nI j) (b1 : ¬ p1 < 0) (b2 : ¬ p2 < 0) (b3 : ¬ si j < p2) (b4 : ¬ si j - p2 < p1) (hp : post true) : wpX4_hasPart p0 p1 p2 si post := by
  subst h0
  unfold wpX4_hasPart
  rw [cl8 hj]
  exact ⟨fun q => absurd q b1, fun _ => ⟨fun q => absurd q b2, fun _ => ⟨in8 hj, fun q => absurd q b3, fun _ => ⟨in8 hj, fun q => absurd q b4, fun _ => hp⟩⟩⟩⟩
theorem cut_eq {t : Nat} (ht : t ≤ 2) (v : Int32) {post : Int32 → Prop} (hp : post (cutl (nI t) v)) : wpX12_cut (nI t) v post := by
  unfold wpX12_cut
  rw [cut8, cut16]
  have e0 : nI t = 0 ↔ t = 0 := nI_eq (b := 0) (by omega) (by decide)
  have e1 : nI t = 1 ↔ t = 1 := nI_eq (b := 1) (by omega) (by decide)
  refine ⟨fun h0 => ⟨fun h1 => ?_, fun h1 => ?_⟩, fun h0 => ?_⟩
  · simpa [cutl, h0, h1] using hp
  · simpa [cutl, h0, h1] using hp
  · simpa [cutl, h0] using hp
theorem pu_set : Pu_set Inv := by
  intro S M ns hV p0 p1 p2
  unfold wpX11_set
  rcases row_case p0 with ⟨hc, hm⟩ | ⟨j, hj, rfl, hc, hm⟩
  · refine hc _ ⟨(fun h => by cases h), fun _ => ?_⟩
    unfold wpX12_set
    exact hm _ ⟨(fun h => by cases h), fun _ => ⟨rfl, hV⟩⟩
  · refine hc _ ⟨fun _ => ?_, (fun h => by cases h)⟩
    obtain ⟨hR, -, hrest⟩ := hV
    rcases miss_case hR hj with ⟨ec, em⟩ | ⟨t, n, ht, hn, h1, h2, h3, h4, ec, em⟩
    · refine ec _ ⟨(fun h => by cases h), fun _ => ?_⟩
      unfold wpX11_found wpX12_set
      exact hm _ ⟨fun _ => em _ ⟨(fun h => by cases h), fun _ => ⟨rfl, hR, rfl, hrest⟩⟩, (fun h => by cases h)⟩
    · refine ec _ ⟨fun _ => ?_, (fun h => by cases h)⟩
      rcases pl_case p1 n (by omega) with hb | ⟨i, hi, rfl, b1, b2⟩
      · refine part_f hj rfl (by rcases hb with hb | hb; exact Or.inl hb; exact Or.inr (Or.inr (Or.inr (by rw [h3]; exact hb)))) ⟨(fun h => by cases h), fun _ => ?_⟩
        unfold wpX11_found wpX12_set
        refine hm _ ⟨fun _ => em _ ⟨fun _ => ⟨in8 hj, ?_⟩, (fun h => by cases h)⟩, (fun h => by cases h)⟩
        rw [cl8 hj, h4]
        exact in_f hb ⟨(fun h => by cases h), fun _ => ⟨rfl, hR, rfl, hrest⟩⟩
      · refine part_t hj rfl b1 (by decide) (by rw [h3]; exact nI_nlt (a := n) (b := 1) (by omega) (by omega)) (by rw [h3]; exact b2) ⟨fun _ => ⟨in8 hj, vp_in_nI (by omega) (by decide), ?_⟩, (fun h => by cases h)⟩
        rw [cl8 hj, nI_clamp (show i < 2 ^ 31 by omega), h1]
        unfold wpX11_answered wpX12_set
        refine hm _ ⟨fun _ => em _ ⟨fun _ => ⟨in8 hj, ?_⟩, (fun h => by cases h)⟩, (fun h => by cases h)⟩
        rw [cl8 hj, h4]
        refine in_t b1 b2 ⟨fun _ => ⟨in8 hj, ?_⟩, (fun h => by cases h)⟩
        rw [h2]
        refine cut_eq ht p2 ?_
        rw [ix40, nI_clamp (by omega)]
        refine ⟨vp_in_nI (by omega) (by decide), vp_in_nI (by omega) (by decide), by simp [upd], fun q hq => ?_, rfl, hrest⟩
        obtain ⟨g1, g2⟩ := hR q hq
        refine ⟨fun k hk => ?_, g2⟩
        by_cases e : q = j
        · subst e
          simp only [va_up, if_true]
          by_cases e2 : k = i
          · subst e2
            simp [upd]
          · simp only [upd, if_neg e2]
            rw [if_neg (by omega)]
            exact g1 k hk
        · simp only [va_up, if_neg e, upd]
          rw [if_neg (by omega)]
          exact g1 k hk

theorem ipart_f {p0 p1 p2 : Int32} {ma : Nat → Int32} {j : Nat} {post : Bool → Prop} (hj : j < 8) (h0 : p0 = nI j) (h : p1 < 0 ∨ p2 < 0 ∨ ma j < p1 ∨ ma j - p1 < p2) (hp : post false) : wpX12_isPart p0 p1 p2 ma post := by
  subst h0
  unfold wpX12_isPart
  rw [cl8 hj]
  refine ⟨fun _ => hp, fun a1 => ⟨fun _ => hp, fun a2 => ⟨in8 hj, fun _ => hp, fun a3 => ⟨in8 hj, fun _ => hp, fun a4 => ?_⟩⟩⟩⟩
  rcases h with h | h | h | h <;> contradiction
theorem ipart_t {p0 p1 p2 : Int32} {ma : Nat → Int32} {j : Nat} {post : Bool → Prop} (hj : j < 8) (h0 : p0 = nI j) (b1 : ¬ p1 < 0) (b2 : ¬ p2 < 0) (b3 : ¬ ma j < p1) (b4 : ¬ ma j - p1 < p2) (hp : post true) : wpX12_isPart p0 p1 p2 ma post := by
  subst h0
  unfold wpX12_isPart
  rw [cl8 hj]
  exact ⟨fun q => absurd q b1, fun _ => ⟨fun q => absurd q b2, fun _ => ⟨in8 hj, fun q => absurd q b3, fun _ => ⟨in8 hj, fun q => absurd q b4, fun _ => hp⟩⟩⟩⟩
/-- so many items from a place on: the two tests agree -/
theorem part_case {si ma : Nat → Int32} {j n : Nat} (hj : j < 8) (hn : n ≤ 40) (h3 : si j = nI n) (h4 : ma j = nI n) (p1 p2 : Int32) :
    ((∀ post : Bool → Prop, post false → wpX4_hasPart (nI j) p1 p2 si post) ∧ (∀ post : Bool → Prop, post false → wpX12_isPart (nI j) p1 p2 ma post)) ∨ ∃ i k : Nat, i + k ≤ n ∧ p1 = nI i ∧ p2 = nI k ∧ (∀ post : Bool → Prop, post true → wpX4_hasPart (nI j) p1 p2 si post) ∧ (∀ post : Bool → Prop, post true → wpX12_isPart (nI j) p1 p2 ma post) := by
  have sb : ∀ {a b : Nat}, a ≤ 40 → b ≤ 40 → (nI a - nI b).toInt = (a : Int) - b := fun ha hb => pk_sub_toInt (by omega) (by omega)
  rcases ix_case p1 (n + 1) (by omega) with h | ⟨h, h1⟩ | ⟨i, hi, rfl⟩
  · exact Or.inl ⟨fun post hp => part_f hj rfl (Or.inl h) hp, fun post hp => ipart_f hj rfl (Or.inl h) hp⟩
  · refine Or.inl ⟨fun post hp => ?_, fun post hp => ipart_f hj rfl (Or.inr (Or.inr (Or.inl (by rw [h4]; exact gt_of_ge h1 (by omega))))) hp⟩
    rcases ix_case p2 (n + 1) (by omega) with g | ⟨g, g1⟩ | ⟨k, hk, rfl⟩
    · exact part_f hj rfl (Or.inr (Or.inl g)) hp
    · exact part_f hj rfl (Or.inr (Or.inr (Or.inl (by rw [h3]; exact gt_of_ge g1 (by omega))))) hp
    · refine part_f hj rfl (Or.inr (Or.inr (Or.inr ?_))) hp
      rw [h3, Int32.lt_iff_toInt_lt, sb (by omega) (by omega)]
      rw [Int32.le_iff_toInt_le, nI_toInt (by omega)] at h1
      omega
  · have b1 : ¬ nI i < 0 := nI_pos (by omega)
    have b3' : ¬ nI n < nI i := nI_nlt (by omega) (by omega)
    rcases ix_case p2 (n + 1) (by omega) with g | ⟨g, g1⟩ | ⟨k, hk, rfl⟩
    · exact Or.inl ⟨fun post hp => part_f hj rfl (Or.inr (Or.inl g)) hp, fun post hp => ipart_f hj rfl (Or.inr (Or.inl g)) hp⟩
    · refine Or.inl ⟨fun post hp => part_f hj rfl (Or.inr (Or.inr (Or.inl (by rw [h3]; exact gt_of_ge g1 (by omega))))) hp, fun post hp => ipart_f hj rfl (Or.inr (Or.inr (Or.inr ?_))) hp⟩
      rw [h4, Int32.lt_iff_toInt_lt, sb (by omega) (by omega)]
      rw [Int32.le_iff_toInt_le, nI_toInt (by omega)] at g1
      omega
    · have b2 : ¬ nI k < 0 := nI_pos (by omega)
      have b3 : ¬ nI n < nI k := nI_nlt (by omega) (by omega)
      have c1 : nI n - nI k < nI i ↔ (n : Int) - k < i := by rw [Int32.lt_iff_toInt_lt, sb (by omega) (by omega), nI_toInt (by omega)]
      have c2 : nI n - nI i < nI k ↔ (n : Int) - i < k := by rw [Int32.lt_iff_toInt_lt, sb (by omega) (by omega), nI_toInt (by omega)]
      by_cases h : i + k ≤ n
      · exact Or.inr ⟨i, k, h, rfl, rfl, fun post hp => part_t hj rfl b1 b2 (by rw [h3]; exact b3) (by rw [h3, c1]; omega) hp, fun post hp => ipart_t hj rfl b1 b2 (by rw [h4]; exact b3') (by rw [h4, c2]; omega) hp⟩
      · exact Or.inl ⟨fun post hp => part_f hj rfl (Or.inr (Or.inr (Or.inr (by rw [h3, c1]; omega)))) hp, fun post hp => ipart_f hj rfl (Or.inr (Or.inr (Or.inr (by rw [h4, c2]; omega)))) hp⟩
theorem ix40a (j i k : Nat) : (40 : Int32) * nI j + nI i + nI k = nI (40 * j + i + k) := by rw [ix40, nI_add]
/-- the second loop of copy: out of the spare row -/
theorem copy2 {lane many : Nat → Int32} {post : Int32 → Int32 → (Nat → Int32) → (Nat → Int32) → Prop} {b j c : Nat} (hb : b < 8) (hjc : j + c ≤ 40) : ∀ (n k : Nat) (st : Int32) (sp it : Nat → Int32), k ≤ c → c < n + k → post (nI c) 0 sp (fun q => if 40 * b + j + k ≤ q ∧ q < 40 * b + j + c then sp (q - (40 * b + j)) else it q) → wlX12_copy_129 lane many post n (nI b) (nI j) (nI c) (nI k) st sp it := by
  intro n
  induction n with
  | zero => intro k st sp it h1 h2; omega
  | succ n ih =>
    intro k st sp it h1 h2 hp
    unfold wlX12_copy_129
    refine ⟨fun h => ?_, fun h => ?_⟩
    · have hk : c ≤ k := (nI_leI (by omega) (by omega)).mp h
      have e : (fun q => if 40 * b + j + k ≤ q ∧ q < 40 * b + j + c then sp (q - (40 * b + j)) else it q) = it := funext fun q => by rw [if_neg (by omega)]
      rw [e] at hp
      exact hp
    · have hk : k < c := by
        rcases Nat.lt_or_ge k c with q | q
        · exact q
        · exact absurd ((nI_leI (by omega) (by omega)).mpr q) h
      rw [ix40a, nI_clamp (show 40 * b + j + k < 2 ^ 31 by omega), nI_clamp (show k < 2 ^ 31 by omega), nI_1]
      refine ⟨vp_in_nI (by omega) (by decide), vp_in_nI (by omega) (by decide), ih (k + 1) _ _ _ (by omega) (by omega) ?_⟩
      have e : (fun q => if 40 * b + j + (k + 1) ≤ q ∧ q < 40 * b + j + c then sp (q - (40 * b + j)) else upd it (40 * b + j + k) (sp k) q) = (fun q => if 40 * b + j + k ≤ q ∧ q < 40 * b + j + c then sp (q - (40 * b + j)) else it q) := funext fun q => by
        by_cases e1 : q = 40 * b + j + k
        · subst e1
          rw [if_neg (by omega), if_pos (by omega)]
          simp only [upd, if_true]
          congr 1
          omega
        · by_cases h2 : 40 * b + j + k ≤ q ∧ q < 40 * b + j + c
          · rw [if_pos h2, if_pos (by omega)]
          · rw [if_neg h2, if_neg (by omega)]
            simp [upd, e1]
      rw [e]
      exact hp
/-- the first loop: into the spare row -/
theorem copy1 {lane many : Nat → Int32} {post : Int32 → Int32 → (Nat → Int32) → (Nat → Int32) → Prop} {a i b j c : Nat} (ha : a < 8) (hb : b < 8) (hic : i + c ≤ 40) (hjc : j + c ≤ 40) : ∀ (n k : Nat) (st : Int32) (sp it : Nat → Int32), k ≤ c → c < n + k → (∀ sp2 : Nat → Int32, (∀ q, k ≤ q → q < c → sp2 q = it (40 * a + i + q)) → (∀ q, q < k → sp2 q = sp q) → post (nI c) 0 sp2 (fun q => if 40 * b + j ≤ q ∧ q < 40 * b + j + c then sp2 (q - (40 * b + j)) else it q)) → wlX12_copy_92 lane many post n (nI a) (nI i) (nI b) (nI j) (nI c) (nI k) st sp it := by
  intro n
  induction n with
  | zero => intro k st sp it h1 h2; omega
  | succ n ih =>
    intro k st sp it h1 h2 hp
    unfold wlX12_copy_92
    refine ⟨fun h => ?_, fun h => ?_⟩
    · have hk : c ≤ k := (nI_leI (by omega) (by omega)).mp h
      exact copy2 hb hjc fu 0 _ _ _ (by omega) (by unfold fu; omega) (hp sp (fun q h1 h2 => by omega) (fun q _ => rfl))
    · have hk : k < c := by
        rcases Nat.lt_or_ge k c with q | q
        · exact q
        · exact absurd ((nI_leI (by omega) (by omega)).mpr q) h
      rw [ix40a, nI_clamp (show 40 * a + i + k < 2 ^ 31 by omega), nI_clamp (show k < 2 ^ 31 by omega), nI_1]
      refine ⟨vp_in_nI (by omega) (by decide), vp_in_nI (by omega) (by decide), ih (k + 1) _ _ _ (by omega) (by omega) (fun sp2 g1 g2 => hp sp2 (fun q h1 h2 => ?_) (fun q h1 => ?_))⟩
      · by_cases e : q = k
        · subst e
          rw [g2 q (by omega)]
          simp [upd]
        · exact g1 q (by omega) h2
      · rw [g2 q (by omega)]
        simp [upd, show q ≠ k by omega]
theorem pu_copy : Pu_copy Inv := by
  intro S M ns hV p0 p1 p2 p3 p4
  unfold wpX11_copy wjX11_copy_39 wjX11_copy_92
  obtain ⟨hR, hst, hrest⟩ := id hV
  rcases row_case p0 with ⟨hc, hm⟩ | ⟨a, ha, rfl, hc, hm⟩
  · refine hc _ ⟨fun _ => ?_, (fun h => by cases h)⟩
    unfold wpX12_copy
    exact hm _ ⟨fun _ => ⟨rfl, hV⟩, (fun h => by cases h)⟩
  refine hc _ ⟨(fun h => by cases h), fun _ => ?_⟩
  rcases row_case p2 with ⟨hc2, hm2⟩ | ⟨b, hb, rfl, hc2, hm2⟩
  · refine hc2 _ ⟨(fun h => by cases h), fun _ => ?_⟩
    unfold wpX12_copy
    exact hm _ ⟨(fun h => by cases h), fun _ => hm2 _ ⟨(fun h => by cases h), fun _ => ⟨rfl, hV⟩⟩⟩
  refine hc2 _ ⟨fun _ => ?_, (fun h => by cases h)⟩
  rcases miss_case hR ha with ⟨ec, em⟩ | ⟨t, n, ht, hn, h1, h2, h3, h4, ec, em⟩
  · refine ec _ ⟨fun _ => ?_, (fun h => by cases h)⟩
    unfold wpX11_found wpX12_copy wjX12_copy_33
    exact hm _ ⟨(fun h => by cases h), fun _ => hm2 _ ⟨fun _ => em _ ⟨fun _ => ⟨rfl, hR, rfl, hrest⟩, (fun h => by cases h)⟩, (fun h => by cases h)⟩⟩
  refine ec _ ⟨(fun h => by cases h), fun _ => ?_⟩
  rcases miss_case hR hb with ⟨ec2, em2⟩ | ⟨t2, n2, ht2, hn2, g1, g2, g3, g4, ec2, em2⟩
  · refine ec2 _ ⟨(fun h => by cases h), fun _ => ?_⟩
    unfold wpX11_found wpX12_copy wjX12_copy_33
    exact hm _ ⟨(fun h => by cases h), fun _ => hm2 _ ⟨fun _ => em _ ⟨(fun h => by cases h), fun _ => em2 _ ⟨(fun h => by cases h), fun _ => ⟨rfl, hR, rfl, hrest⟩⟩⟩, (fun h => by cases h)⟩⟩
  refine ec2 _ ⟨fun _ => ?_, (fun h => by cases h)⟩
  have top : ∀ post : Int32 → Int32 → (Nat → Int32) → (Nat → Int32) → Prop, ((nI t = nI t2 → wpX12_isPart (nI a) p1 p4 M.2.1.2.1 (fun r7 => (r7 = false → wjX12_copy_83 M.2.1.1 M.2.1.2.1 post M.1.1 M.2.1.2.2.2.1 M.2.1.2.2.1) ∧ (r7 = true → wpX12_isPart (nI b) p3 p4 M.2.1.2.1 (fun r8 => (r8 = true → wlX12_copy_92 M.2.1.1 M.2.1.2.1 post fu (nI a) p1 (nI b) p3 p4 0 M.1.1 M.2.1.2.2.2.1 M.2.1.2.2.1) ∧ (r8 = false → wjX12_copy_83 M.2.1.1 M.2.1.2.1 post M.1.1 M.2.1.2.2.2.1 M.2.1.2.2.1))))) ∧ (¬ nI t = nI t2 → post (-1000010 - 5) 5 M.2.1.2.2.2.1 M.2.1.2.2.1)) → wpX12_copy (nI a) p1 (nI b) p3 p4 M.1.1 M.2.1.1 M.2.1.2.1 M.2.1.2.2.2.1 M.2.1.2.2.1 post := by
    intro post hp
    unfold wpX12_copy
    refine hm _ ⟨(fun h => by cases h), fun _ => hm2 _ ⟨fun _ => em _ ⟨(fun h => by cases h), fun _ => em2 _ ⟨fun _ => ⟨in8 ha, in8 hb, ?_⟩, (fun h => by cases h)⟩⟩, (fun h => by cases h)⟩⟩
    rw [cl8 ha, cl8 hb, h2, g2]
    exact hp
  unfold wpX4_areOfOneLane
  refine ⟨in8 ha, in8 hb, ?_⟩
  rw [cl8 ha, cl8 hb, h1, g1]
  refine ⟨fun hne => ⟨(fun h => by cases h), fun _ => ?_⟩, fun heq => ⟨fun _ => ?_, (fun h => by cases h)⟩⟩
  · unfold wpX11_found
    exact top _ ⟨fun q => absurd q hne, fun _ => ⟨rfl, hR, rfl, hrest⟩⟩
  rcases part_case ha hn h3 h4 p1 p4 with ⟨qc, qm⟩ | ⟨i, c, hic, rfl, rfl, qc, qm⟩
  · refine qc _ ⟨fun _ => ?_, (fun h => by cases h)⟩
    unfold wpX11_found
    exact top _ ⟨fun _ => qm _ ⟨fun _ => ⟨rfl, hR, rfl, hrest⟩, (fun h => by cases h)⟩, fun q => absurd heq q⟩
  refine qc _ ⟨(fun h => by cases h), fun _ => ?_⟩
  rcases part_case hb hn2 g3 g4 p3 (nI c) with ⟨qc2, qm2⟩ | ⟨j, c2, hjc, rfl, ec2, qc2, qm2⟩
  · refine qc2 _ ⟨(fun h => by cases h), fun _ => ?_⟩
    unfold wpX11_found
    exact top _ ⟨fun _ => qm _ ⟨(fun h => by cases h), fun _ => qm2 _ ⟨(fun h => by cases h), fun _ => ⟨rfl, hR, rfl, hrest⟩⟩⟩, fun q => absurd heq q⟩
  have ecc : c = c2 := (nI_eq (by omega) (by omega)).mp ec2
  subst ecc
  refine qc2 _ ⟨fun _ => ?_, (fun h => by cases h)⟩
  unfold wpX4_carry
  rw [cl8 ha, cl8 hb, nI_clamp (show i < 2 ^ 31 by omega), nI_clamp (show j < 2 ^ 31 by omega), nI_clamp (show c < 2 ^ 31 by omega)]
  refine ⟨in8 ha, in8 hb, nI_pos (by omega), nI_pos (by omega), nI_pos (by omega), by omega, by omega, ?_⟩
  unfold wpX11_answered
  refine top _ ⟨fun _ => qm _ ⟨(fun h => by cases h), fun _ => qm2 _ ⟨fun _ => ?_, (fun h => by cases h)⟩⟩, fun q => absurd heq q⟩
  refine copy1 ha hb (by omega) (by omega) fu 0 _ _ _ (by omega) (by unfold fu; omega) (fun sp2 k1 k2 => ⟨rfl, fun q hq => ?_, rfl, hrest⟩)
  obtain ⟨f1, f2⟩ := hR q hq
  refine ⟨fun k hk => ?_, f2⟩
  by_cases e : q = b
  · subst e
    simp only [va_up, if_true, va_cpy]
    by_cases h5 : j ≤ k ∧ k < j + c
    · rw [if_pos h5, if_pos (by omega), (hR a ha).1 (i + (k - j)) (by omega), show 40 * q + k - (40 * q + j) = k - j by omega, k1 (k - j) (by omega) (by omega), show 40 * a + i + (k - j) = 40 * a + (i + (k - j)) by omega]
    · rw [if_neg h5, if_neg (by omega)]
      exact f1 k hk
  · simp only [va_up, if_neg e]
    rw [if_neg (by omega)]
    exact f1 k hk
