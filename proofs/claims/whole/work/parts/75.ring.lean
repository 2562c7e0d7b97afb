-- acts kept: the class's ring, the reference's row
theorem mod24 {a : Nat} (ha : a < 2 ^ 31) : nI a - nI a / 24 * 24 = nI (a % 24) := by
  have e : (24 : Int32) = nI 24 := rfl
  rw [e, pk_div ha (by decide) (by decide), pk_mul, pk_sub (by omega)]
  congr 1
  omega
theorem AL_take {n : Nat} : ∀ (l : List AE) (k d : Nat) (x : Int32), AL n l d x → AL n (l.take k) d x
  | [], k, d, x, h => by rw [List.take_nil]; trivial
  | a :: l, 0, d, x, h => trivial
  | a :: l, k + 1, d, x, h => ⟨h.1, AL_take l k _ _ h.2⟩
theorem keep_in {o d : Nat} (ho : o + 11 ≤ 264) (hd : d < 100) {ev : Bool} {we ri : Int32} {acts lv me pu : Nat → Int32} {post : Unit → (Nat → Int32) → Prop}
    (hp : ∀ acts' : Nat → Int32, acts' o = nI d → acts' (o + 1) = bz ev → acts' (o + 2) = we → acts' (o + 3) = ri → acts' (o + 4) = lv d → (∀ i, i < 3 → acts' (o + 5 + i) = me i ∧ acts' (o + 8 + i) = pu i) → (∀ j, j < o ∨ o + 11 ≤ j → acts' j = acts j) → post () acts') : wpX9_keepIn (nI o) (nI d) ev we ri acts lv me pu post := by
  have h5 : nI o + 5 = nI (o + 5) := nI_add o 5
  have h8 : nI (o + 5) + 3 = nI (o + 8) := nI_add (o + 5) 3
  have h4 : nI o + 4 = nI (o + 4) := nI_add o 4
  have h3 : nI o + 3 = nI (o + 3) := nI_add o 3
  have h2 : nI o + 2 = nI (o + 2) := nI_add o 2
  have c3 : (3 : Int32).toNatClampNeg = 3 := rfl
  have c0 : (0 : Int32).toNatClampNeg = 0 := rfl
  have J : ∀ b : Bool, ev = b → wjX9_keepIn_23 (nI d) ev we ri lv me pu post (nI o) b (nI o + 1) (upd acts (nI o).toNatClampNeg (nI d)) := by
    intro b hb
    unfold wjX9_keepIn_23
    rw [nI_1, h5, h8, h4, h3, h2, c3, c0]
    rw [nI_clamp (show o + 5 < 2 ^ 31 by omega), nI_clamp (show o + 8 < 2 ^ 31 by omega), nI_clamp (show o + 4 < 2 ^ 31 by omega), nI_clamp (show o + 3 < 2 ^ 31 by omega), nI_clamp (show o + 2 < 2 ^ 31 by omega), nI_clamp (show o + 1 < 2 ^ 31 by omega), nI_clamp (show o < 2 ^ 31 by omega), nI_clamp (show d < 2 ^ 31 by omega)]
    have v : ∀ k, k < 264 → vp_in (nI k) 264 := fun k hk => vp_in_nI hk (by decide)
    refine ⟨v _ (by omega), v _ (by omega), v _ (by omega), vp_in_nI hd (by decide), v _ (by omega), nI_pos (by omega), by omega, nI_pos (by omega), by omega, ?_⟩
    have lowp : ∀ j, j < o + 5 → va_cpy pu (va_cpy me (upd (upd (upd (upd (upd acts o (nI d)) (o + 1) (bz b)) (o + 2) we) (o + 3) ri) (o + 4) (lv d)) 0 (o + 5) 3) 0 (o + 8) 3 j = upd (upd (upd (upd (upd acts o (nI d)) (o + 1) (bz b)) (o + 2) we) (o + 3) ri) (o + 4) (lv d) j := fun j hj => by
      rw [pk_cpy_out (by omega), pk_cpy_out (by omega)]
    refine hp _ ?_ ?_ ?_ ?_ ?_ (fun i hi => ⟨?_, ?_⟩) (fun j hj => ?_)
    · rw [lowp _ (by omega), upd_n (by omega), upd_n (by omega), upd_n (by omega), upd_n (by omega), upd_s]
    · rw [lowp _ (by omega), upd_n (by omega), upd_n (by omega), upd_n (by omega), upd_s, hb]
    · rw [lowp _ (by omega), upd_n (by omega), upd_n (by omega), upd_s]
    · rw [lowp _ (by omega), upd_n (by omega), upd_s]
    · rw [lowp _ (by omega), upd_s]
    · rw [pk_cpy_out (by omega), pk_cpy_in (by omega) (by omega)]
      congr 1
      omega
    · rw [pk_cpy_in (by omega) (by omega)]
      congr 1
      omega
    · rw [pk_cpy_out (by omega), pk_cpy_out (by omega), upd_n (by omega), upd_n (by omega), upd_n (by omega), upd_n (by omega), upd_n (by omega)]
  unfold wpX9_keepIn
  exact ⟨vp_in_nI (by omega) (by decide), fun h => J false h, fun h => J true h⟩
/-- the reference's note at a place -/
theorem note_at {m d : Nat} (hm : m < 24) (hd : d ≤ 99) {f past : Nat → Int32} (e5 : f 5 = nI d) {post : Unit → Int32 → (Nat → Int32) → Prop}
    (hp : ∀ past' : Nat → Int32, past' (11 * m) = f 2 → past' (11 * m + 1) = f 3 → past' (11 * m + 2) = f 4 → past' (11 * m + 3) = f 5 → past' (11 * m + 4) = f (24 + d) → (∀ i, i < 3 → past' (11 * m + 5 + i) = f (10 + 6 * i) ∧ past' (11 * m + 8 + i) = f (11 + 6 * i)) → (∀ j, j < 11 * m → past' j = past j) → post () (nI (m + 1)) past') : wjX12_notes_49 f post (nI m) past := by
  have h11 : (11 : Int32) * nI m = nI (11 * m) := pk_mul 11 m
  have h4 : nI (11 * m) + 4 = nI (11 * m + 4) := nI_add _ 4
  have h3 : nI (11 * m) + 3 = nI (11 * m + 3) := nI_add _ 3
  have h2 : nI (11 * m) + 2 = nI (11 * m + 2) := nI_add _ 2
  have h24 : (24 : Int32) + nI d = nI (24 + d) := nI_add 24 d
  unfold wjX12_notes_49
  rw [h11, nI_1, h4, h3, h2, e5, h24]
  rw [nI_clamp (show 11 * m + 4 < 2 ^ 31 by omega), nI_clamp (show 11 * m + 3 < 2 ^ 31 by omega), nI_clamp (show 11 * m + 2 < 2 ^ 31 by omega), nI_clamp (show 11 * m + 1 < 2 ^ 31 by omega), nI_clamp (show 11 * m < 2 ^ 31 by omega), nI_clamp (show 24 + d < 2 ^ 31 by omega)]
  have v : ∀ k, k < 264 → vp_in (nI k) 264 := fun k hk => vp_in_nI hk (by decide)
  have v2 : ∀ k, k < 124 → vp_in (nI k) 124 := fun k hk => vp_in_nI hk (by decide)
  refine ⟨v _ (by omega), v _ (by omega), v _ (by omega), v _ (by omega), v2 _ (by omega), v _ (by omega), ?_⟩
  refine lp (σ := Nat → Int32) (fun n i s => wlX12_notes_135 f post n (nI (11 * m)) (nI i) (nI m) s) (fun i s => (∀ j, j < i → s (11 * m + 5 + j) = f (10 + 6 * j) ∧ s (11 * m + 8 + j) = f (11 + 6 * j)) ∧ ∀ j, j < 11 * m + 5 → s j = upd (upd (upd (upd (upd past (11 * m) (f 2)) (11 * m + 1) (f 3)) (11 * m + 2) (f 4)) (11 * m + 3) (nI d)) (11 * m + 4) (f (24 + d)) j) 3 (fun n s h => ?_) (fun n i s hi h k => ?_) fu 0 _ (by decide) (by decide) ⟨(fun j hj => absurd hj (Nat.not_lt_zero j)), fun _ _ => rfl⟩
  · unfold wlX12_notes_135
    refine k1 (nI_le (a := 3) (Nat.le_refl _) (by decide)) ?_
    rw [nI_1]
    refine hp s ?_ ?_ ?_ ?_ ?_ h.1 (fun j hj => ?_)
    · rw [h.2 _ (by omega), upd_n (by omega), upd_n (by omega), upd_n (by omega), upd_n (by omega), upd_s]
    · rw [h.2 _ (by omega), upd_n (by omega), upd_n (by omega), upd_n (by omega), upd_s]
    · rw [h.2 _ (by omega), upd_n (by omega), upd_n (by omega), upd_s]
    · rw [h.2 _ (by omega), upd_n (by omega), upd_s, e5]
    · rw [h.2 _ (by omega), upd_s]
    · rw [h.2 _ (by omega), upd_n (by omega), upd_n (by omega), upd_n (by omega), upd_n (by omega), upd_n (by omega)]
  · unfold wlX12_notes_135
    have g5 : nI (11 * m) + 5 + nI i = nI (11 * m + 5 + i) := by rw [show (5 : Int32) = nI 5 from rfl, nI_add, nI_add]
    have g8 : nI (11 * m) + 8 + nI i = nI (11 * m + 8 + i) := by rw [show (8 : Int32) = nI 8 from rfl, nI_add, nI_add]
    have i4 : (6 : Int32) + 6 * nI i + 4 = nI (10 + 6 * i) := by rw [show (4 : Int32) = nI 4 from rfl, ix6a]; congr 1; omega
    have i5 : (6 : Int32) + 6 * nI i + 5 = nI (11 + 6 * i) := by rw [show (5 : Int32) = nI 5 from rfl, ix6a]; congr 1; omega
    rw [g5, g8, i4, i5, nI_1 i]
    rw [nI_clamp (show 11 * m + 5 + i < 2 ^ 31 by omega), nI_clamp (show 11 * m + 8 + i < 2 ^ 31 by omega), nI_clamp (show 10 + 6 * i < 2 ^ 31 by omega), nI_clamp (show 11 + 6 * i < 2 ^ 31 by omega)]
    refine k2 (nI_ge (b := 3) hi (by decide)) ⟨v2 _ (by omega), v _ (by omega), v2 _ (by omega), v _ (by omega), k _ ⟨fun j hj => ?_, fun j hj => ?_⟩⟩
    · by_cases e : j = i
      · subst e
        rw [upd_s, upd_n (by omega), upd_s]
        exact ⟨rfl, rfl⟩
      · rw [upd_n (by omega), upd_n (by omega), upd_n (by omega), upd_n (by omega)]
        exact h.1 j (by omega)
    · rw [upd_n (by omega), upd_n (by omega)]
      exact h.2 j hj
theorem shift_past {f past : Nat → Int32} {ac : Int32} {post : Unit → Int32 → (Nat → Int32) → Prop} (hp : ∀ past' : Nat → Int32, (∀ j, j < 253 → past' j = past (j + 11)) → wjX12_notes_49 f post (ac - 1) past') : wlX12_notes_11 f post fu 0 ac past := by
  refine lp (σ := Nat → Int32) (fun n i s => wlX12_notes_11 f post n (nI i) ac s) (fun i s => (∀ j, j < i → s j = past (j + 11)) ∧ ∀ j, i ≤ j → s j = past j) 253 (fun n s h => ?_) (fun n i s hi h k => ?_) fu 0 _ (by decide) (by decide) ⟨(fun j hj => absurd hj (Nat.not_lt_zero j)), fun _ _ => rfl⟩
  · unfold wlX12_notes_11
    exact k1 (nI_le (a := 253) (Nat.le_refl _) (by decide)) (hp s h.1)
  · unfold wlX12_notes_11
    rw [show nI i + 11 = nI (i + 11) from nI_add i 11, nI_1, nI_clamp (show i < 2 ^ 31 by omega), nI_clamp (show i + 11 < 2 ^ 31 by omega)]
    refine k2 (nI_ge (b := 253) hi (by decide)) ⟨vp_in_nI (by omega) (by decide), vp_in_nI (by omega) (by decide), k _ ⟨fun j hj => ?_, fun j hj => ?_⟩⟩
    · by_cases e : j = i
      · subst e
        rw [upd_s, h.2 _ (by omega)]
      · rw [upd_n e]
        exact h.1 j (by omega)
    · rw [upd_n (by omega)]
      exact h.2 j (by omega)
def KC (q : Nat) (l : List AE) (acts : Nat → Int32) (a : AE) (nx kp : Int32) (ac : Nat → Int32) : Prop := nx = nI ((q + 1) % 24) ∧ kp = nI (min 24 (l.length + 1)) ∧ AC ac (11 * q) a ∧ ∀ j, j < 11 * q ∨ 11 * q + 11 ≤ j → ac j = acts j
def KM (l : List AE) (a : AE) (ma : Int32) (pa : Nat → Int32) : Prop := ma = nI (min 23 l.length + 1) ∧ AM pa (11 * min 23 l.length) a ∧ ∀ (i : Nat) (a' : AE), l[i]? = some a' → i < 23 → AM pa (11 * (min 23 l.length - 1 - i)) a'
theorem keep_c {q d w r : Nat} {l : List AE} (hq : q < 24) (hl : l.length ≤ 24) (hd : d ≤ 99) {ev : Bool} {acts lv me pu : Nat → Int32} {post : Unit → Int32 → Int32 → (Nat → Int32) → Prop} (hp : ∀ nx kp ac, KC q l acts (d, ev, w, r, lv d, me, pu) nx kp ac → post () nx kp ac) : wpX11_keepAct (nI q) (nI l.length) (nI d) ev (nI w) (nI r) acts lv me pu post := by
  unfold wpX11_keepAct
  rw [show nI q * 11 = nI (11 * q) by rw [show (11 : Int32) = nI 11 from rfl, pk_mul, Nat.mul_comm], nI_1 q, nI_1 l.length, mod24 (by omega)]
  have ekp : (if nI (l.length + 1) < 24 then nI (l.length + 1) else 24) = nI (min 24 (l.length + 1)) := by
    by_cases h : l.length + 1 < 24
    · rw [if_pos (show nI (l.length + 1) < (24 : Int32) from nI_lt (b := 24) h (by decide)), Nat.min_eq_right (by omega)]
    · rw [if_neg (show ¬ nI (l.length + 1) < (24 : Int32) from nI_nlt (b := 24) (by omega) (by omega)), Nat.min_eq_left (by omega)]
      rfl
  rw [ekp]
  refine keep_in (by omega) (by omega) (fun ac' g1 g2 g3 g4 g5 g6 g7 => hp _ _ _ ⟨rfl, rfl, ⟨g1, g2, g3, g4, g5, fun i hi => g6 i hi⟩, g7⟩)
theorem keep_m {d w r : Nat} {l : List AE} (hl : l.length ≤ 24) (hd : d ≤ 99) {ev : Bool} {f past lv me pu : Nat → Int32} (e2 : f 2 = nI r) (e3 : f 3 = nI w) (e4 : f 4 = bz ev) (e5 : f 5 = nI d) (e6 : lv d = f (24 + d)) (e7 : ∀ i, i < 3 → me i = f (11 + 6 * i) ∧ pu i = f (10 + 6 * i)) (hM : ∀ (i : Nat) (a' : AE), l[i]? = some a' → AM past (11 * (l.length - 1 - i)) a') {post : Unit → Int32 → (Nat → Int32) → Prop} (hp : ∀ ma pa, KM l (d, ev, w, r, lv d, me, pu) ma pa → post () ma pa) : wpX12_notes (nI l.length) past f post := by
  have fin : ∀ pa : Nat → Int32, (∀ (i : Nat) (a' : AE), l[i]? = some a' → i < 23 → AM pa (11 * (min 23 l.length - 1 - i)) a') → wjX12_notes_49 f post (nI (min 23 l.length)) pa := by
    intro pa hpa
    refine note_at (m := min 23 l.length) (d := d) (by omega) hd e5 (fun pa' g1 g2 g3 g4 g5 g6 g7 => hp _ _ ⟨rfl, ⟨g1.trans e2, g2.trans e3, g3.trans e4, g4.trans e5, g5.trans e6.symm, fun i hi => ⟨(g6 i hi).1.trans (e7 i hi).2.symm, (g6 i hi).2.trans (e7 i hi).1.symm⟩⟩, fun i a' h hi => ?_⟩)
    have hlt : i < l.length := (List.getElem?_eq_some_iff.mp h).1
    obtain ⟨s1, s2, s3, s4, s5, s6⟩ := hpa i a' h hi
    refine ⟨?_, ?_, ?_, ?_, ?_, fun j hj => ⟨?_, ?_⟩⟩
    · rw [g7 _ (by omega)]; exact s1
    · rw [g7 _ (by omega)]; exact s2
    · rw [g7 _ (by omega)]; exact s3
    · rw [g7 _ (by omega)]; exact s4
    · rw [g7 _ (by omega)]; exact s5
    · rw [g7 _ (by omega)]; exact (s6 j hj).1
    · rw [g7 _ (by omega)]; exact (s6 j hj).2
  unfold wpX12_notes
  refine ⟨fun h => ?_, fun h => ?_⟩
  · have hl2 : l.length ≠ 24 := fun e => h (by rw [e]; rfl)
    have e : min 23 l.length = l.length := by omega
    rw [e] at fin
    exact fin past (fun i a' g _ => hM i a' g)
  · have hl2 : l.length = 24 := (nI_eq (b := 24) (by omega) (by decide)).mp h
    have e : min 23 l.length = 23 := by omega
    rw [e] at fin
    refine shift_past (fun pa hpa => ?_)
    rw [h, show (24 : Int32) - 1 = nI 23 from rfl]
    refine fin pa (fun i a' g hi => ?_)
    have := hM i a' g
    rw [hl2] at this
    obtain ⟨s1, s2, s3, s4, s5, s6⟩ := this
    have k : ∀ c, c < 11 → pa (11 * (23 - 1 - i) + c) = past (11 * (24 - 1 - i) + c) := fun c hc => by
      rw [hpa _ (by omega)]
      congr 1
      omega
    refine ⟨(k 0 (by decide)).trans s1, (k 1 (by decide)).trans s2, (k 2 (by decide)).trans s3, (k 3 (by decide)).trans s4, (k 4 (by decide)).trans s5, fun j hj => ⟨?_, ?_⟩⟩
    · have := k (5 + j) (by omega)
      rw [← Nat.add_assoc, ← Nat.add_assoc] at this
      exact this.trans (s6 j hj).1
    · have := k (8 + j) (by omega)
      rw [← Nat.add_assoc, ← Nat.add_assoc] at this
      exact this.trans (s6 j hj).2
theorem keep_j {q n d w r : Nat} {l : List AE} {ev : Bool} {acts past : Nat → Int32} {lvd : Int32} {me pu : Nat → Int32} (hq : q < 24) (hl : l.length ≤ 24) (hd : d ≤ 99) (hw : w < 8) (hr : r < 8) (hz : ∀ i, n ≤ i → i < 3 → w.testBit i = false ∧ r.testBit i = false ∧ me i = 0 ∧ pu i = 0)
    (h6 : ∀ (i : Nat) (a : AE), l[i]? = some a → AC acts (11 * ((q + 23 - i) % 24)) a ∧ AM past (11 * (l.length - 1 - i)) a) (h7 : AL n l d lvd) {nx kp ma : Int32} {ac pa : Nat → Int32} (hC : KC q l acts (d, ev, w, r, lvd, me, pu) nx kp ac) (hM : KM l (d, ev, w, r, lvd, me, pu) ma pa) {d' : Nat} {x' : Int32} (hx : d = d' ∨ (d + 1 = d' ∧ x' = 0)) : AI nx kp ac ma pa true n d' x' := by
  obtain ⟨c1, c2, c3, c4⟩ := hC
  obtain ⟨m1, m2, m3⟩ := hM
  have hlen : ((d, ev, w, r, lvd, me, pu) :: l.take 23).length = min 23 l.length + 1 := by rw [List.length_cons, List.length_take]
  refine ⟨(q + 1) % 24, (d, ev, w, r, lvd, me, pu) :: l.take 23, Nat.mod_lt _ (by decide), by rw [hlen]; omega, c1, by rw [c2, hlen]; congr 1; omega, by rw [m1, hlen], ?_, ⟨⟨hd, hw, hr, hz, hx⟩, AL_take l 23 d lvd h7⟩, fun h => by cases h⟩
  intro i a h
  rw [hlen]
  cases i with
  | zero =>
    rw [List.getElem?_cons_zero] at h
    cases h
    rw [show 11 * (((q + 1) % 24 + 23 - 0) % 24) = 11 * q by omega, show 11 * (min 23 l.length + 1 - 1 - 0) = 11 * min 23 l.length by omega]
    exact ⟨c3, m2⟩
  | succ i =>
    rw [List.getElem?_cons_succ] at h
    have hi : i < (l.take 23).length := (List.getElem?_eq_some_iff.mp h).1
    rw [List.length_take] at hi
    rw [List.getElem?_take_of_lt (by omega)] at h
    obtain ⟨s1, -⟩ := h6 i a h
    rw [show 11 * (((q + 1) % 24 + 23 - (i + 1)) % 24) = 11 * ((q + 23 - i) % 24) by omega, show min 23 l.length + 1 - 1 - (i + 1) = min 23 l.length - 1 - i by omega]
    refine ⟨?_, m3 i a h (by omega)⟩
    obtain ⟨t1, t2, t3, t4, t5, t6⟩ := s1
    have ne : (q + 23 - i) % 24 ≠ q := by omega
    have hb : (q + 23 - i) % 24 < 24 := Nat.mod_lt _ (by decide)
    generalize (q + 23 - i) % 24 = z at ne hb t1 t2 t3 t4 t5 t6 ⊢
    refine ⟨?_, ?_, ?_, ?_, ?_, fun j hj => ⟨?_, ?_⟩⟩
    · rw [c4 _ (by omega)]; exact t1
    · rw [c4 _ (by omega)]; exact t2
    · rw [c4 _ (by omega)]; exact t3
    · rw [c4 _ (by omega)]; exact t4
    · rw [c4 _ (by omega)]; exact t5
    · rw [c4 _ (by omega)]; exact (t6 j hj).1
    · rw [c4 _ (by omega)]; exact (t6 j hj).2
