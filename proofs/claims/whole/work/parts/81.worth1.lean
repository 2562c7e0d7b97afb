-- worth
def mt (kd ch ga lo m : Nat) : Int := (on kd ch m : Int) * bI kd ga lo true + ((10 - on kd ch m : Nat) : Int) * bI kd ga lo false
def mx (a b : Int) : Int := if a < b then b else a
def wI (o : Nat) (G B A P : Int) : Nat → Int
  | 0 => 0
  | d + 1 => ((o : Int) * mx A (G * 10000 + wI o G B A P d) + ((10 - o : Nat) : Int) * mx A (B * 10000 + wI o G B A P d)) / 10 - P
def mH (o : Nat) (G B a D : Int) : Nat → Int
  | 0 => 0
  | d + 1 => (o : Int) * mx ((a + d * D) * 10 ^ d) (G * 10 ^ (d + 1) + mH o G B a D d) + ((10 - o : Nat) : Int) * mx ((a + d * D) * 10 ^ d) (B * 10 ^ (d + 1) + mH o G B a D d)
theorem o_cases {o : Nat} (h : o ≤ 10) : o = 0 ∨ o = 1 ∨ o = 2 ∨ o = 3 ∨ o = 4 ∨ o = 5 ∨ o = 6 ∨ o = 7 ∨ o = 8 ∨ o = 9 ∨ o = 10 := by omega
theorem mx_a {x y z c k : Int} (hc : 0 < c) : mx (c * x - k) (c * y - k) = c * mx x y - k := by
  unfold mx
  have h : c * x - k < c * y - k ↔ x < y := by
    rw [Int.sub_lt_sub_right_iff, Int.mul_lt_mul_left hc]
  by_cases q : x < y
  · rw [if_pos q, if_pos (h.mpr q)]
  · rw [if_neg q, if_neg (fun e => q (h.mp e))]
theorem w_rel {o : Nat} (ho : o ≤ 10) (G B a D : Int) : wI o G B (a * 1000) (D * 1000) 1 = 100 * (mH o G B a D 1 - D * 10) ∧ wI o G B (a * 1000) (D * 1000) 2 = 10 * (mH o G B a D 2 - 2 * D * 100) ∧ wI o G B (a * 1000) (D * 1000) 3 = mH o G B a D 3 - 3 * D * 1000 := by
  have h1 : wI o G B (a * 1000) (D * 1000) 1 = 100 * (mH o G B a D 1 - D * 10) := by
    simp only [wI, mH]
    have e1 : mx (a * 1000) (G * 10000 + 0) = 1000 * mx ((a + (0 : Nat) * D) * 10 ^ 0) (G * 10 ^ (0 + 1) + 0) := by
      have := mx_a (x := a) (y := G * 10) (z := 0) (c := 1000) (k := 0) (by decide)
      rw [show (1000 : Int) * a - 0 = a * 1000 by omega, show (1000 : Int) * (G * 10) - 0 = G * 10000 + 0 by omega] at this
      rw [this, show (a + ((0 : Nat) : Int) * D) * 10 ^ 0 = a by simp, show G * 10 ^ (0 + 1) + 0 = G * 10 by simp]
      omega
    have e2 : mx (a * 1000) (B * 10000 + 0) = 1000 * mx ((a + (0 : Nat) * D) * 10 ^ 0) (B * 10 ^ (0 + 1) + 0) := by
      have := mx_a (x := a) (y := B * 10) (z := 0) (c := 1000) (k := 0) (by decide)
      rw [show (1000 : Int) * a - 0 = a * 1000 by omega, show (1000 : Int) * (B * 10) - 0 = B * 10000 + 0 by omega] at this
      rw [this, show (a + ((0 : Nat) : Int) * D) * 10 ^ 0 = a by simp, show B * 10 ^ (0 + 1) + 0 = B * 10 by simp]
      omega
    rw [e1, e2]
    generalize mx ((a + (0 : Nat) * D) * 10 ^ 0) (G * 10 ^ (0 + 1) + 0) = x
    generalize mx ((a + (0 : Nat) * D) * 10 ^ 0) (B * 10 ^ (0 + 1) + 0) = y
    rcases o_cases ho with rfl | rfl | rfl | rfl | rfl | rfl | rfl | rfl | rfl | rfl | rfl <;> simp <;> omega
  have h2 : wI o G B (a * 1000) (D * 1000) 2 = 10 * (mH o G B a D 2 - 2 * D * 100) := by
    rw [show wI o G B (a * 1000) (D * 1000) 2 = ((o : Int) * mx (a * 1000) (G * 10000 + wI o G B (a * 1000) (D * 1000) 1) + ((10 - o : Nat) : Int) * mx (a * 1000) (B * 10000 + wI o G B (a * 1000) (D * 1000) 1)) / 10 - D * 1000 from rfl, h1, show mH o G B a D 2 = (o : Int) * mx ((a + (1 : Nat) * D) * 10 ^ 1) (G * 10 ^ (1 + 1) + mH o G B a D 1) + ((10 - o : Nat) : Int) * mx ((a + (1 : Nat) * D) * 10 ^ 1) (B * 10 ^ (1 + 1) + mH o G B a D 1) from rfl]
    generalize mH o G B a D 1 = h
    have e1 : ∀ G : Int, mx (a * 1000) (G * 10000 + 100 * (h - D * 10)) = 100 * mx ((a + (1 : Nat) * D) * 10 ^ 1) (G * 10 ^ (1 + 1) + h) - D * 1000 := by
      intro G
      have := mx_a (x := (a + D) * 10) (y := G * 100 + h) (z := 0) (c := 100) (k := D * 1000) (by decide)
      rw [show (100 : Int) * ((a + D) * 10) - D * 1000 = a * 1000 by omega, show (100 : Int) * (G * 100 + h) - D * 1000 = G * 10000 + 100 * (h - D * 10) by omega] at this
      rw [this, show (a + ((1 : Nat) : Int) * D) * 10 ^ 1 = (a + D) * 10 by simp, show G * 10 ^ (1 + 1) + h = G * 100 + h by simp]
    rw [e1 G, e1 B]
    generalize mx ((a + (1 : Nat) * D) * 10 ^ 1) (G * 10 ^ (1 + 1) + h) = x
    generalize mx ((a + (1 : Nat) * D) * 10 ^ 1) (B * 10 ^ (1 + 1) + h) = y
    rcases o_cases ho with rfl | rfl | rfl | rfl | rfl | rfl | rfl | rfl | rfl | rfl | rfl <;> simp <;> omega
  refine ⟨h1, h2, ?_⟩
  rw [show wI o G B (a * 1000) (D * 1000) 3 = ((o : Int) * mx (a * 1000) (G * 10000 + wI o G B (a * 1000) (D * 1000) 2) + ((10 - o : Nat) : Int) * mx (a * 1000) (B * 10000 + wI o G B (a * 1000) (D * 1000) 2)) / 10 - D * 1000 from rfl, h2, show mH o G B a D 3 = (o : Int) * mx ((a + (2 : Nat) * D) * 10 ^ 2) (G * 10 ^ (2 + 1) + mH o G B a D 2) + ((10 - o : Nat) : Int) * mx ((a + (2 : Nat) * D) * 10 ^ 2) (B * 10 ^ (2 + 1) + mH o G B a D 2) from rfl]
  generalize mH o G B a D 2 = h
  have e1 : ∀ G : Int, mx (a * 1000) (G * 10000 + 10 * (h - 2 * D * 100)) = 10 * mx ((a + (2 : Nat) * D) * 10 ^ 2) (G * 10 ^ (2 + 1) + h) - 2 * D * 1000 := by
    intro G
    have := mx_a (x := (a + 2 * D) * 100) (y := G * 1000 + h) (z := 0) (c := 10) (k := 2 * D * 1000) (by decide)
    rw [show (10 : Int) * ((a + 2 * D) * 100) - 2 * D * 1000 = a * 1000 by omega, show (10 : Int) * (G * 1000 + h) - 2 * D * 1000 = G * 10000 + 10 * (h - 2 * D * 100) by omega] at this
    rw [this, show (a + ((2 : Nat) : Int) * D) * 10 ^ 2 = (a + 2 * D) * 100 by simp, show G * 10 ^ (2 + 1) + h = G * 1000 + h by simp]
  rw [e1 G, e1 B]
  generalize mx ((a + (2 : Nat) * D) * 10 ^ 2) (G * 10 ^ (2 + 1) + h) = x
  generalize mx ((a + (2 : Nat) * D) * 10 ^ 2) (B * 10 ^ (2 + 1) + h) = y
  rcases o_cases ho with rfl | rfl | rfl | rfl | rfl | rfl | rfl | rfl | rfl | rfl | rfl <;> simp <;> omega
theorem mt_b {kd ch ga lo m : Nat} (hg : ga ≤ 99) (hl : lo ≤ 99) : -1980 ≤ mt kd ch ga lo m ∧ mt kd ch ga lo m ≤ 1980 := by
  unfold mt
  obtain ⟨g1, g2⟩ := bI_b (kd := kd) (b := true) hg hl
  obtain ⟨l1, l2⟩ := bI_b (kd := kd) (b := false) hg hl
  generalize bI kd ga lo true = G at *
  generalize bI kd ga lo false = B at *
  rcases o_cases (on_le kd ch m) with h | h | h | h | h | h | h | h | h | h | h <;> rw [h] <;> simp <;> omega
theorem w_bound {o : Nat} (ho : o ≤ 10) {G B A P W X : Int} (hX : 0 ≤ X) (hG : -198 ≤ G ∧ G ≤ 198) (hB : -198 ≤ B ∧ B ≤ 198) (hA : -1980000 ≤ A ∧ A ≤ 1980000) (hP : -1980000 ≤ P ∧ P ≤ 1980000) (hW : -X ≤ W ∧ W ≤ X) : -(X + 8000000) ≤ ((o : Int) * mx A (G * 10000 + W) + ((10 - o : Nat) : Int) * mx A (B * 10000 + W)) / 10 - P ∧ ((o : Int) * mx A (G * 10000 + W) + ((10 - o : Nat) : Int) * mx A (B * 10000 + W)) / 10 - P ≤ X + 8000000 := by
  have b1 : ∀ G : Int, -198 ≤ G ∧ G ≤ 198 → -(X + 1980000) ≤ mx A (G * 10000 + W) ∧ mx A (G * 10000 + W) ≤ X + 1980000 := by
    intro G hG
    unfold mx
    split <;> omega
  have x := b1 G hG
  have y := b1 B hB
  generalize mx A (G * 10000 + W) = x1 at x ⊢
  generalize mx A (B * 10000 + W) = y1 at y ⊢
  rcases o_cases ho with rfl | rfl | rfl | rfl | rfl | rfl | rfl | rfl | rfl | rfl | rfl <;> simp <;> omega
theorem wI_b {o : Nat} (ho : o ≤ 10) {G B A P : Int} (hG : -198 ≤ G ∧ G ≤ 198) (hB : -198 ≤ B ∧ B ≤ 198) (hA : -1980000 ≤ A ∧ A ≤ 1980000) (hP : -1980000 ≤ P ∧ P ≤ 1980000) : ∀ d : Nat, -((d : Int) * 8000000) ≤ wI o G B A P d ∧ wI o G B A P d ≤ (d : Int) * 8000000
  | 0 => by simp [wI]
  | d + 1 => by
    have h := wI_b ho hG hB hA hP d
    have := w_bound ho (X := (d : Int) * 8000000) (by omega) hG hB hA hP h
    rw [show (((d + 1 : Nat) : Int)) * 8000000 = (d : Int) * 8000000 + 8000000 by omega]
    exact this
theorem w_dv {o : Nat} (ho : o ≤ 10) {G B A W : Int} (hA : (10 : Int) ∣ A) (hW : (10 : Int) ∣ W) : (10 : Int) ∣ (o : Int) * mx A (G * 10000 + W) + ((10 - o : Nat) : Int) * mx A (B * 10000 + W) := by
  have b1 : ∀ G : Int, (10 : Int) ∣ mx A (G * 10000 + W) := by
    intro G
    unfold mx
    split <;> omega
  have x := b1 G
  have y := b1 B
  generalize mx A (G * 10000 + W) = x1 at x ⊢
  generalize mx A (B * 10000 + W) = y1 at y ⊢
  rcases o_cases ho with rfl | rfl | rfl | rfl | rfl | rfl | rfl | rfl | rfl | rfl | rfl <;> simp <;> omega
theorem mx_L {a b : Int} (ha : Rg a) (hb : Rg b) : (if iL a < iL b then iL b else iL a) = iL (mx a b) := by
  unfold mx
  by_cases h : a < b
  · rw [if_pos h, if_pos ((iL_lt ha hb).mpr h)]
  · rw [if_neg h, if_neg (fun e => h ((iL_lt ha hb).mp e))]
theorem w_L {o : Nat} (ho : o ≤ 10) {G B A P W : Int} (hG : -198 ≤ G ∧ G ≤ 198) (hB : -198 ≤ B ∧ B ≤ 198) (hA : -1980000 ≤ A ∧ A ≤ 1980000) (hW : -24000000 ≤ W ∧ W ≤ 24000000) (hA10 : (10 : Int) ∣ A) (hW10 : (10 : Int) ∣ W) :
    ((((nI o).toInt64 * (if iL A < ((jI G).toInt64 * 10000 + iL W) then ((jI G).toInt64 * 10000 + iL W) else iL A)) + ((nI (10 - o)).toInt64 * (if iL A < ((jI B).toInt64 * 10000 + iL W) then ((jI B).toInt64 * 10000 + iL W) else iL A))) / 10) - iL P = iL (((o : Int) * mx A (G * 10000 + W) + ((10 - o : Nat) : Int) * mx A (B * 10000 + W)) / 10 - P) := by
  have e4 : (10000 : Int64) = iL 10000 := rfl
  have e1 : (10 : Int64) = lN 10 := rfl
  rw [jI_L (by omega) (by omega), jI_L (by omega) (by omega), e4, iL_mul, iL_mul, iL_add, iL_add, mx_L ⟨by omega, by omega⟩ ⟨by omega, by omega⟩, mx_L ⟨by omega, by omega⟩ ⟨by omega, by omega⟩, nI_l (by omega), nI_l (by omega), ← iL_N (show o < 2 ^ 62 by omega), ← iL_N (show 10 - o < 2 ^ 62 by omega), iL_mul, iL_mul, iL_add, e1, iL_div _ (by decide) (by decide) (w_dv ho hA10 hW10), iL_sub]
  · rfl
  · have b1 : ∀ G : Int, -198 ≤ G ∧ G ≤ 198 → -30000000 ≤ mx A (G * 10000 + W) ∧ mx A (G * 10000 + W) ≤ 30000000 := by
      intro G hG
      unfold mx
      split <;> omega
    have x := b1 G hG
    have y := b1 B hB
    generalize mx A (G * 10000 + W) = x1 at x ⊢
    generalize mx A (B * 10000 + W) = y1 at y ⊢
    unfold Rg
    rcases o_cases ho with rfl | rfl | rfl | rfl | rfl | rfl | rfl | rfl | rfl | rfl | rfl <;> simp <;> omega
theorem mt_L {kd ch ga lo m : Nat} (hg : ga ≤ 99) (hl : lo ≤ 99) : (nI (wy kd ch m true)).toInt64 * (jI (bI kd ga lo true)).toInt64 + (nI (wy kd ch m false)).toInt64 * (jI (bI kd ga lo false)).toInt64 = iL (mt kd ch ga lo m) := by
  have g := bI_b (kd := kd) (b := true) hg hl
  have l := bI_b (kd := kd) (b := false) hg hl
  have y := on_le kd ch m
  rw [show wy kd ch m true = on kd ch m from rfl, show wy kd ch m false = 10 - on kd ch m from rfl, jI_L (by omega) (by omega), jI_L (by omega) (by omega), nI_l (by omega), nI_l (by omega), ← iL_N (show on kd ch m < 2 ^ 62 by omega), ← iL_N (show 10 - on kd ch m < 2 ^ 62 by omega), iL_mul, iL_mul, iL_add]
  rfl
theorem wI_10 {o : Nat} (ho : o ≤ 10) {G B a D : Int} {d : Nat} (hd : d < 3) : (10 : Int) ∣ wI o G B (a * 1000) (D * 1000) d := by
  obtain ⟨h1, h2, -⟩ := w_rel ho G B a D
  have : d = 0 ∨ d = 1 ∨ d = 2 := by omega
  rcases this with rfl | rfl | rfl
  · exact ⟨0, rfl⟩
  · rw [h1]; omega
  · rw [h2]; omega
theorem wc_1 {i ch ga lo n : Nat} (hch : ch ≤ 10) (hga : ga ≤ 99) (hlo : lo ≤ 99) (hn : n ≤ 3) {post : Int64 → Prop} (hp : post (iL (wI (on 1 ch 0) (bI 1 ga lo true) (bI 1 ga lo false) (mt 1 ch ga lo 1 * 1000) (mt 1 ch ga lo 0 * 1000) n))) : wpX3_worthOfRight_k1 (nI n) (1, nI i, nI ch, nI ga, nI lo) post := by
  have hb : ∀ (b : Bool) {q : Int32 → Prop}, q (jI (bI 1 ga lo b)) → wpX3_bringsBy_k1 b (1, nI i, nI ch, nI ga, nI lo) q := fun b q hq => (v_brings (kd := 1) (i := i) (ch := ch) (by decide) (by decide) (post := q) (b := b) (by rw [bF_j hga hlo]; exact hq)).1 rfl
  have hw : ∀ (m : Nat) (b : Bool) {q : Int32 → Prop}, m ≤ 1 → q (nI (wy 1 ch m b)) → wpX3_waysToGo_k1 (nI m) b (1, nI i, nI ch, nI ga, nI lo) q := fun m b q hm hq => (v_ways (kd := 1) (i := i) (ga := ga) (lo := lo) (by decide) (by decide) (post := q) (b := b) (m := nI m) (by rw [wy_n hch hm]; exact hq)).1 rfl
  have hmt : ∀ (m : Nat) {q : Int64 → Prop}, m ≤ 1 → q (iL (mt 1 ch ga lo m)) → wpX3_meanTenths_k1 (nI m) (1, nI i, nI ch, nI ga, nI lo) q := by
    intro m q hm hq
    unfold wpX3_meanTenths_k1
    refine hw m true hm (hb true (hw m false hm (hb false ?_)))
    rw [mt_L hga hlo]
    exact hq
  have m1 := mt_b (kd := 1) (ch := ch) (m := 1) hga hlo
  have m0 := mt_b (kd := 1) (ch := ch) (m := 0) hga hlo
  have g := bI_b (kd := 1) (b := true) hga hlo
  have l := bI_b (kd := 1) (b := false) hga hlo
  have bo := wI_b (on_le 1 ch 0) (A := mt 1 ch ga lo 1 * 1000) (P := mt 1 ch ga lo 0 * 1000) g l (by omega) (by omega)
  unfold wpX3_worthOfRight_k1 wpX3_mayUseRight_k1
  refine kt (hmt 1 (by decide) (hmt 0 (by decide) ?_))
  rw [show (1000 : Int64) = iL 1000 from rfl, iL_mul, iL_mul]
  refine lp (σ := Int64) (fun m d s => wlX3_worthOfRight_k1_36 (1, nI i, nI ch, nI ga, nI lo) post m (nI n) (iL (mt 1 ch ga lo 1 * 1000)) (iL (mt 1 ch ga lo 0 * 1000)) s (nI d)) (fun d s => s = iL (wI (on 1 ch 0) (bI 1 ga lo true) (bI 1 ga lo false) (mt 1 ch ga lo 1 * 1000) (mt 1 ch ga lo 0 * 1000) d)) n (fun m s h => ?_) (fun m d s hd h k => ?_) fu 0 _ (by omega) (by unfold fu; omega) rfl
  · subst h
    unfold wlX3_worthOfRight_k1_36
    exact k1 (nI_le (Nat.le_refl _) (by omega)) hp
  · subst h
    unfold wlX3_worthOfRight_k1_36
    refine k2 (nI_ge hd (by omega)) (hb true (hb false (hw 0 true (by decide) (hw 0 false (by decide) ?_))))
    rw [nI_1]
    have bd := bo d
    refine k _ (w_L (on_le 1 ch 0) g l (by omega) (by omega) (by omega) (wI_10 (on_le 1 ch 0) (by omega)))
theorem wc_2 {i ch ga lo n : Nat} (hch : ch ≤ 10) (hga : ga ≤ 99) (hlo : lo ≤ 99) (hn : n ≤ 3) {post : Int64 → Prop} (hp : post (iL (wI (on 2 ch 0) (bI 2 ga lo true) (bI 2 ga lo false) (mt 2 ch ga lo 1 * 1000) (mt 2 ch ga lo 0 * 1000) n))) : wpX3_worthOfRight_k2 (nI n) (2, nI i, nI ch, nI ga, nI lo) post := by
  have hb : ∀ (b : Bool) {q : Int32 → Prop}, q (jI (bI 2 ga lo b)) → wpX2_bringsBy_k2 b (2, nI i, nI ch, nI ga, nI lo) q := fun b q hq => (v_brings (kd := 2) (i := i) (ch := ch) (by decide) (by decide) (post := q) (b := b) (by rw [bF_j hga hlo]; exact hq)).2.1 rfl
  have hw : ∀ (m : Nat) (b : Bool) {q : Int32 → Prop}, m ≤ 1 → q (nI (wy 2 ch m b)) → wpX3_waysToGo_k2 (nI m) b (2, nI i, nI ch, nI ga, nI lo) q := fun m b q hm hq => (v_ways (kd := 2) (i := i) (ga := ga) (lo := lo) (by decide) (by decide) (post := q) (b := b) (m := nI m) (by rw [wy_n hch hm]; exact hq)).2.1 rfl
  have hmt : ∀ (m : Nat) {q : Int64 → Prop}, m ≤ 1 → q (iL (mt 2 ch ga lo m)) → wpX3_meanTenths_k2 (nI m) (2, nI i, nI ch, nI ga, nI lo) q := by
    intro m q hm hq
    unfold wpX3_meanTenths_k2
    refine hw m true hm (hb true (hw m false hm (hb false ?_)))
    rw [mt_L hga hlo]
    exact hq
  have m1 := mt_b (kd := 2) (ch := ch) (m := 1) hga hlo
  have m0 := mt_b (kd := 2) (ch := ch) (m := 0) hga hlo
  have g := bI_b (kd := 2) (b := true) hga hlo
  have l := bI_b (kd := 2) (b := false) hga hlo
  have bo := wI_b (on_le 2 ch 0) (A := mt 2 ch ga lo 1 * 1000) (P := mt 2 ch ga lo 0 * 1000) g l (by omega) (by omega)
  unfold wpX3_worthOfRight_k2 wpX3_mayUseRight_k2
  refine kt (hmt 1 (by decide) (hmt 0 (by decide) ?_))
  rw [show (1000 : Int64) = iL 1000 from rfl, iL_mul, iL_mul]
  refine lp (σ := Int64) (fun m d s => wlX3_worthOfRight_k2_36 (2, nI i, nI ch, nI ga, nI lo) post m (nI n) (iL (mt 2 ch ga lo 1 * 1000)) (iL (mt 2 ch ga lo 0 * 1000)) s (nI d)) (fun d s => s = iL (wI (on 2 ch 0) (bI 2 ga lo true) (bI 2 ga lo false) (mt 2 ch ga lo 1 * 1000) (mt 2 ch ga lo 0 * 1000) d)) n (fun m s h => ?_) (fun m d s hd h k => ?_) fu 0 _ (by omega) (by unfold fu; omega) rfl
  · subst h
    unfold wlX3_worthOfRight_k2_36
    exact k1 (nI_le (Nat.le_refl _) (by omega)) hp
  · subst h
    unfold wlX3_worthOfRight_k2_36
    refine k2 (nI_ge hd (by omega)) (hb true (hb false (hw 0 true (by decide) (hw 0 false (by decide) ?_))))
    rw [nI_1]
    have bd := bo d
    refine k _ (w_L (on_le 2 ch 0) g l (by omega) (by omega) (by omega) (wI_10 (on_le 2 ch 0) (by omega)))
theorem wc_3 {i ch ga lo n : Nat} (hch : ch ≤ 10) (hga : ga ≤ 99) (hlo : lo ≤ 99) (hn : n ≤ 3) {post : Int64 → Prop} (hp : post (iL (wI (on 3 ch 0) (bI 3 ga lo true) (bI 3 ga lo false) (mt 3 ch ga lo 1 * 1000) (mt 3 ch ga lo 0 * 1000) n))) : wpX3_worthOfRight_k3 (nI n) (3, nI i, nI ch, nI ga, nI lo) post := by
  have hb : ∀ (b : Bool) {q : Int32 → Prop}, q (jI (bI 3 ga lo b)) → wpX5_bringsBy_k3 b (3, nI i, nI ch, nI ga, nI lo) q := fun b q hq => (v_brings (kd := 3) (i := i) (ch := ch) (by decide) (by decide) (post := q) (b := b) (by rw [bF_j hga hlo]; exact hq)).2.2.1 rfl
  have hw : ∀ (m : Nat) (b : Bool) {q : Int32 → Prop}, m ≤ 1 → q (nI (wy 3 ch m b)) → wpX3_waysToGo_k3 (nI m) b (3, nI i, nI ch, nI ga, nI lo) q := fun m b q hm hq => (v_ways (kd := 3) (i := i) (ga := ga) (lo := lo) (by decide) (by decide) (post := q) (b := b) (m := nI m) (by rw [wy_n hch hm]; exact hq)).2.2.1 rfl
  have hmt : ∀ (m : Nat) {q : Int64 → Prop}, m ≤ 1 → q (iL (mt 3 ch ga lo m)) → wpX3_meanTenths_k3 (nI m) (3, nI i, nI ch, nI ga, nI lo) q := by
    intro m q hm hq
    unfold wpX3_meanTenths_k3
    refine hw m true hm (hb true (hw m false hm (hb false ?_)))
    rw [mt_L hga hlo]
    exact hq
  have m1 := mt_b (kd := 3) (ch := ch) (m := 1) hga hlo
  have m0 := mt_b (kd := 3) (ch := ch) (m := 0) hga hlo
  have g := bI_b (kd := 3) (b := true) hga hlo
  have l := bI_b (kd := 3) (b := false) hga hlo
  have bo := wI_b (on_le 3 ch 0) (A := mt 3 ch ga lo 1 * 1000) (P := mt 3 ch ga lo 0 * 1000) g l (by omega) (by omega)
  unfold wpX3_worthOfRight_k3 wpX3_mayUseRight_k3
  refine kt (hmt 1 (by decide) (hmt 0 (by decide) ?_))
  rw [show (1000 : Int64) = iL 1000 from rfl, iL_mul, iL_mul]
  refine lp (σ := Int64) (fun m d s => wlX3_worthOfRight_k3_36 (3, nI i, nI ch, nI ga, nI lo) post m (nI n) (iL (mt 3 ch ga lo 1 * 1000)) (iL (mt 3 ch ga lo 0 * 1000)) s (nI d)) (fun d s => s = iL (wI (on 3 ch 0) (bI 3 ga lo true) (bI 3 ga lo false) (mt 3 ch ga lo 1 * 1000) (mt 3 ch ga lo 0 * 1000) d)) n (fun m s h => ?_) (fun m d s hd h k => ?_) fu 0 _ (by omega) (by unfold fu; omega) rfl
  · subst h
    unfold wlX3_worthOfRight_k3_36
    exact k1 (nI_le (Nat.le_refl _) (by omega)) hp
  · subst h
    unfold wlX3_worthOfRight_k3_36
    refine k2 (nI_ge hd (by omega)) (hb true (hb false (hw 0 true (by decide) (hw 0 false (by decide) ?_))))
    rw [nI_1]
    have bd := bo d
    refine k _ (w_L (on_le 3 ch 0) g l (by omega) (by omega) (by omega) (wI_10 (on_le 3 ch 0) (by omega)))
theorem wc_5 {i ch ga lo n : Nat} (hch : ch ≤ 10) (hga : ga ≤ 99) (hlo : lo ≤ 99) (hn : n ≤ 3) {post : Int64 → Prop} (hp : post (iL (wI (on 5 ch 0) (bI 5 ga lo true) (bI 5 ga lo false) (mt 5 ch ga lo 1 * 1000) (mt 5 ch ga lo 0 * 1000) n))) : wpX3_worthOfRight_k5 (nI n) (5, nI i, nI ch, nI ga, nI lo) post := by
  have hb : ∀ (b : Bool) {q : Int32 → Prop}, q (jI (bI 5 ga lo b)) → wpX3_bringsBy_k5 b (5, nI i, nI ch, nI ga, nI lo) q := fun b q hq => (v_brings (kd := 5) (i := i) (ch := ch) (by decide) (by decide) (post := q) (b := b) (by rw [bF_j hga hlo]; exact hq)).2.2.2.2 rfl
  have hw : ∀ (m : Nat) (b : Bool) {q : Int32 → Prop}, m ≤ 1 → q (nI (wy 5 ch m b)) → wpX3_waysToGo_k5 (nI m) b (5, nI i, nI ch, nI ga, nI lo) q := fun m b q hm hq => (v_ways (kd := 5) (i := i) (ga := ga) (lo := lo) (by decide) (by decide) (post := q) (b := b) (m := nI m) (by rw [wy_n hch hm]; exact hq)).2.2.2.2 rfl
  have hmt : ∀ (m : Nat) {q : Int64 → Prop}, m ≤ 1 → q (iL (mt 5 ch ga lo m)) → wpX3_meanTenths_k5 (nI m) (5, nI i, nI ch, nI ga, nI lo) q := by
    intro m q hm hq
    unfold wpX3_meanTenths_k5
    refine hw m true hm (hb true (hw m false hm (hb false ?_)))
    rw [mt_L hga hlo]
    exact hq
  have m1 := mt_b (kd := 5) (ch := ch) (m := 1) hga hlo
  have m0 := mt_b (kd := 5) (ch := ch) (m := 0) hga hlo
  have g := bI_b (kd := 5) (b := true) hga hlo
  have l := bI_b (kd := 5) (b := false) hga hlo
  have bo := wI_b (on_le 5 ch 0) (A := mt 5 ch ga lo 1 * 1000) (P := mt 5 ch ga lo 0 * 1000) g l (by omega) (by omega)
  unfold wpX3_worthOfRight_k5 wpX6_mayUseRight_k5
  refine kt (hmt 1 (by decide) (hmt 0 (by decide) ?_))
  rw [show (1000 : Int64) = iL 1000 from rfl, iL_mul, iL_mul]
  refine lp (σ := Int64) (fun m d s => wlX3_worthOfRight_k5_36 (5, nI i, nI ch, nI ga, nI lo) post m (nI n) (iL (mt 5 ch ga lo 1 * 1000)) (iL (mt 5 ch ga lo 0 * 1000)) s (nI d)) (fun d s => s = iL (wI (on 5 ch 0) (bI 5 ga lo true) (bI 5 ga lo false) (mt 5 ch ga lo 1 * 1000) (mt 5 ch ga lo 0 * 1000) d)) n (fun m s h => ?_) (fun m d s hd h k => ?_) fu 0 _ (by omega) (by unfold fu; omega) rfl
  · subst h
    unfold wlX3_worthOfRight_k5_36
    exact k1 (nI_le (Nat.le_refl _) (by omega)) hp
  · subst h
    unfold wlX3_worthOfRight_k5_36
    refine k2 (nI_ge hd (by omega)) (hb true (hb false (hw 0 true (by decide) (hw 0 false (by decide) ?_))))
    rw [nI_1]
    have bd := bo d
    refine k _ (w_L (on_le 5 ch 0) g l (by omega) (by omega) (by omega) (wI_10 (on_le 5 ch 0) (by omega)))
theorem worth_c {kd i ch ga lo n : Nat} (h1 : 1 ≤ kd) (h5 : kd ≤ 5) (hch : ch ≤ 10) (hga : ga ≤ 99) (hlo : lo ≤ 99) (hn : n ≤ 3) {post : Int64 → Prop} (hp : post (if kd = 4 then 0 else iL (wI (on kd ch 0) (bI kd ga lo true) (bI kd ga lo false) (mt kd ch ga lo 1 * 1000) (mt kd ch ga lo 0 * 1000) n))) : wv_worthOfRight (nI n) (kd, nI i, nI ch, nI ga, nI lo) post := by
  unfold wv_worthOfRight
  rcases kind5 h1 h5 with rfl | rfl | rfl | rfl | rfl
  · exact ⟨fun _ => wc_1 hch hga hlo hn hp, (fun q => absurd (show (1 : Nat) = 2 from q) (by decide)), (fun q => absurd (show (1 : Nat) = 3 from q) (by decide)), (fun q => absurd (show (1 : Nat) = 4 from q) (by decide)), (fun q => absurd (show (1 : Nat) = 5 from q) (by decide))⟩
  · exact ⟨(fun q => absurd (show (2 : Nat) = 1 from q) (by decide)), fun _ => wc_2 hch hga hlo hn hp, (fun q => absurd (show (2 : Nat) = 3 from q) (by decide)), (fun q => absurd (show (2 : Nat) = 4 from q) (by decide)), (fun q => absurd (show (2 : Nat) = 5 from q) (by decide))⟩
  · exact ⟨(fun q => absurd (show (3 : Nat) = 1 from q) (by decide)), (fun q => absurd (show (3 : Nat) = 2 from q) (by decide)), fun _ => wc_3 hch hga hlo hn hp, (fun q => absurd (show (3 : Nat) = 4 from q) (by decide)), (fun q => absurd (show (3 : Nat) = 5 from q) (by decide))⟩
  · exact ⟨(fun q => absurd (show (4 : Nat) = 1 from q) (by decide)), (fun q => absurd (show (4 : Nat) = 2 from q) (by decide)), (fun q => absurd (show (4 : Nat) = 3 from q) (by decide)), fun _ => kf hp, (fun q => absurd (show (4 : Nat) = 5 from q) (by decide))⟩
  · exact ⟨(fun q => absurd (show (5 : Nat) = 1 from q) (by decide)), (fun q => absurd (show (5 : Nat) = 2 from q) (by decide)), (fun q => absurd (show (5 : Nat) = 3 from q) (by decide)), (fun q => absurd (show (5 : Nat) = 4 from q) (by decide)), fun _ => wc_5 hch hga hlo hn hp⟩
theorem power_m {n : Nat} (hn : n ≤ 18) {post : Int64 → Prop} (hp : post (lN (10 ^ n))) : wpX12_power (nI n) post := by
  unfold wpX12_power
  refine lp (σ := Int64) (fun m i s => wlX12_power_4 post m (nI n) s (nI i)) (fun i s => s = lN (10 ^ i)) n (fun m s h => ?_) (fun m i s hi h k => ?_) fu 0 _ (by omega) (by unfold fu; omega) rfl
  · subst h
    unfold wlX12_power_4
    exact k1 (nI_le (Nat.le_refl _) (by omega)) hp
  · subst h
    unfold wlX12_power_4
    rw [nI_1]
    refine k2 (nI_ge hi (by omega)) (k _ ?_)
    rw [show (10 : Int64) = lN 10 from rfl, lN_mul, Nat.pow_succ]
