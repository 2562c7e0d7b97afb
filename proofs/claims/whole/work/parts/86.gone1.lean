-- gone
abbrev St : Type := Int64 × Int32 × Bool × Int32 × Int32 × (Nat → Int32) × (Nat → Int32)
def clP (n : Nat) (kd ga lo : Nat → Nat) (we : Int32) (pur : Nat → Int32) : Nat → Int32 := fun i => if i < n then pur i + bF (kd i) (ga i) (lo i) (hb we i) else pur i
def gT (n : Nat) (kd ch : Nat → Nat) (s : St) : St := if s.2.2.1 = true then s else ((pdS kd ch s.2.2.2.2.2.1 n (s.1, 0)).1, s.2.1 + 1, true, (pdS kd ch s.2.2.2.2.2.1 n (s.1, 0)).2, s.2.2.2.2.1, s.2.2.2.2.2.1, s.2.2.2.2.2.2)
def gR (i : Nat) (s : St) : St := (s.1, s.2.1, false, 0, s.2.2.2.2.1 &&& (((1 : Int32) <<< (nI i &&& 31)) ^^^ (-1)), upd s.2.2.2.2.2.1 i (s.2.2.2.2.2.1 i + 1), s.2.2.2.2.2.2)
def gC (n : Nat) (kd ga lo : Nat → Nat) (s : St) : St := (s.1, s.2.1, false, 0, s.2.2.2.2.1, fl 3 0 s.2.2.2.2.2.1, clP n kd ga lo s.2.2.2.1 s.2.2.2.2.2.2)
def gI (n : Nat) (kd ch ga lo h : Nat → Nat) : Nat → St → St
  | 0, s => gC n kd ga lo s
  | k + 1, s => match fs (wP h kd (gT n kd ch s).2.2.2.2.1 (gT n kd ch s).2.2.2.1) n 0 with
    | some i => gI n kd ch ga lo h k (gR i (gT n kd ch s))
    | none => gC n kd ga lo (gT n kd ch s)
def gD (n : Nat) (kd ch ga lo h : Nat → Nat) : Nat → St → St
  | 0, s => s
  | d + 1, s => gI n kd ch ga lo h 4 (gD n kd ch ga lo h d s)
section GONE
variable {n : Nat} {A kd ch ga lo h : Nat → Nat}
theorem close_c' {pe : Pe} {people : Nat → Option Nat} (hn : n ≤ 3) (hc : PCl pe people n A kd ch ga lo) {ev : Bool} {we : Int32} {mem pur : Nat → Int32} {post : Unit → Bool → Int32 → (Nat → Int32) → (Nat → Int32) → Prop} (hp : post () false 0 (fl 3 0 mem) (clP n kd ga lo we pur)) : wpX9_closeDay (nI n) ev we mem people pur pe post := by
  refine close_c hn hc (fun pur' g1 g2 => ?_)
  have e : pur' = clP n kd ga lo we pur := funext fun i => by
    unfold clP
    by_cases hi : i < n
    · rw [if_pos hi, g1 i hi]
    · rw [if_neg hi, g2 i (by omega)]
  rw [e]
  exact hp
theorem inner_c {pe : Pe} {people : Nat → Option Nat} (hn : n ≤ 3) (hc : PCl pe people n A kd ch ga lo) {H : Nat → Int32} (hH : ∀ i, i < n → H i = nI (h i)) (hh : ∀ i, i < n → h i ≤ 2) {post : Int32 → Bool → Int32 → Int32 → (Nat → Int32) → (Nat → Int32) → Prop} {K : Int32 → Int64 → Int32 → Int32 → Bool → Int32 → Int32 → (Nat → Int32) → (Nat → Int32) → Prop} {l2 l7 : Int32} : ∀ (k fuel : Nat) (s : St), k ≤ 4 → k < fuel → (K l2 (gI n kd ch ga lo h k s).1 (gI n kd ch ga lo h k s).2.1 (l7 + 1) (gI n kd ch ga lo h k s).2.2.1 (gI n kd ch ga lo h k s).2.2.2.1 (gI n kd ch ga lo h k s).2.2.2.2.1 (gI n kd ch ga lo h k s).2.2.2.2.2.1 (gI n kd ch ga lo h k s).2.2.2.2.2.2) → wlX9_passDates_19 (nI n) H people pe post K fuel l2 s.1 s.2.1 l7 (nI (4 - k)) s.2.2.1 s.2.2.2.1 s.2.2.2.2.1 s.2.2.2.2.2.1 s.2.2.2.2.2.2 := by
  intro k
  induction k with
  | zero =>
    intro fuel s h1 h2 hp
    obtain ⟨f, rfl⟩ : ∃ f, fuel = f + 1 := ⟨fuel - 1, by omega⟩
    unfold wlX9_passDates_19 wjX9_passDates_78
    exact k1 (by decide) (close_c' hn hc hp)
  | succ k ih =>
    intro fuel s h1 h2 hp
    obtain ⟨f, rfl⟩ : ∃ f, fuel = f + 1 := ⟨fuel - 1, by omega⟩
    have core : ∀ t : St, gT n kd ch s = t → wjX9_passDates_43 (nI n) H people pe post K (wlX9_passDates_19 (nI n) H people pe post K f) l2 t.1 t.2.1 l7 (nI (4 - (k + 1))) t.2.2.1 t.2.2.2.1 t.2.2.2.2.1 t.2.2.2.2.2.1 t.2.2.2.2.2.2 := by
      intro t ht
      rw [gI, ht] at hp
      unfold wjX9_passDates_43
      refine first_c hn hc hH hh ?_
      rw [nI_1, show 4 - (k + 1) + 1 = 4 - k by omega]
      cases hf : fs (wP h kd t.2.2.2.2.1 t.2.2.2.1) n 0 with
      | none =>
        rw [hf] at hp
        unfold wjX9_passDates_78
        exact k2 (by decide) (close_c' hn hc hp)
      | some i =>
        rw [hf] at hp
        obtain ⟨-, hi, -⟩ := fs_some _ _ _ hf
        have v3 : vp_in (nI i) 3 := vp_in_nI (by omega) (by decide)
        refine k1 (nI_pos' (by omega)) ?_
        unfold wpX9_repeatDay
        rw [show oI (-1) (some i) = nI i from rfl, nI_clamp (show i < 2 ^ 31 by omega)]
        exact ⟨v3, v3, ih f (gR i t) (by omega) (by omega) hp⟩
    unfold wlX9_passDates_19
    refine k2 (nI_nlt (a := 3) (by omega) (by decide)) ⟨fun e => ?_, fun e => pass_c hn hc ?_⟩
    · have := core s (by unfold gT; rw [if_pos e])
      exact this
    · have := core _ (by unfold gT; rw [if_neg (by rw [e]; decide)])
      exact this
theorem dates_c {pe : Pe} {people : Nat → Option Nat} (hn : n ≤ 3) (hc : PCl pe people n A kd ch ga lo) {H : Nat → Int32} (hH : ∀ i, i < n → H i = nI (h i)) (hh : ∀ i, i < n → h i ≤ 2) {post : Int32 → Bool → Int32 → Int32 → (Nat → Int32) → (Nat → Int32) → Prop} {D : Nat} (hD : D ≤ 20) {seed : Int32} {s : St} (hs : s.1 = seed.toInt64) (hs2 : s.2.1 = 0) (hp : post (gD n kd ch ga lo h D s).2.1 (gD n kd ch ga lo h D s).2.2.1 (gD n kd ch ga lo h D s).2.2.2.1 (gD n kd ch ga lo h D s).2.2.2.2.1 (gD n kd ch ga lo h D s).2.2.2.2.2.1 (gD n kd ch ga lo h D s).2.2.2.2.2.2) : wpX9_passDates (nI D) seed (nI n) s.2.2.1 s.2.2.2.1 s.2.2.2.2.1 H people s.2.2.2.2.2.1 s.2.2.2.2.2.2 pe post := by
  unfold wpX9_passDates
  rw [← hs]
  have := lp (σ := St) (fun m d t => wlX9_passDates_10 (nI n) H people pe post m (nI D) t.1 t.2.1 (nI d) t.2.2.1 t.2.2.2.1 t.2.2.2.2.1 t.2.2.2.2.2.1 t.2.2.2.2.2.2) (fun d t => t = gD n kd ch ga lo h d s) D (fun m t q => ?_) (fun m d t hd q k => ?_) fu 0 s (by omega) (by unfold fu; omega) rfl
  · rw [hs2] at this
    exact this
  · subst q
    unfold wlX9_passDates_10
    exact k1 (nI_le (Nat.le_refl _) (by omega)) hp
  · subst q
    unfold wlX9_passDates_10
    refine k2 (nI_ge hd (by omega)) (inner_c hn hc hH hh 4 fu _ (by decide) (by decide) ?_)
    rw [nI_1]
    exact k _ rfl
def Rl (n : Nat) (kd ch ga lo : Nat → Nat) (f : Nat → Int32) (s : St) : Prop := f 1 = nI n ∧ f 2 = s.2.2.2.2.1 ∧ f 3 = s.2.2.2.1 ∧ f 4 = bz s.2.2.1 ∧ (∀ i, i < n → f (11 + 6 * i) = s.2.2.2.2.2.1 i ∧ f (10 + 6 * i) = s.2.2.2.2.2.2 i) ∧ PMo f n kd ch ga lo
def pc8 (r : Nat) : Nat := r % 2 + r / 2 % 2 + r / 4 % 2
theorem pc_dec : ∀ r, r < 8 → ∀ i, i < 3 → hb (nI r) i = true → pc8 (r &&& (7 - 2 ^ i)) < pc8 r := by
  unfold hb pc8
  decide +kernel
theorem nb_eq : ∀ r, r < 8 → ∀ i, i < 3 → nI r &&& (((1 : Int32) <<< (nI i &&& 31)) ^^^ (-1)) = nI (r &&& (7 - 2 ^ i)) ∧ r &&& (7 - 2 ^ i) < 8 := by decide +kernel
theorem gT_ri (s : St) : (gT n kd ch s).2.2.2.2.1 = s.2.2.2.2.1 := by
  unfold gT
  by_cases e : s.2.2.1 = true
  · rw [if_pos e]
  · rw [if_neg e]
theorem gI_ri (hn : n ≤ 3) : ∀ (k : Nat) (s : St), (∃ r, r < 8 ∧ s.2.2.2.2.1 = nI r) → ∃ r, r < 8 ∧ (gI n kd ch ga lo h k s).2.2.2.2.1 = nI r := by
  intro k
  induction k with
  | zero => exact fun s hs => hs
  | succ k ih =>
    intro s hs
    rw [gI]
    cases hf : fs (wP h kd (gT n kd ch s).2.2.2.2.1 (gT n kd ch s).2.2.2.1) n 0 with
    | none =>
      show ∃ r, r < 8 ∧ (gT n kd ch s).2.2.2.2.1 = nI r
      rw [gT_ri]
      exact hs
    | some i =>
      obtain ⟨-, hi, -⟩ := fs_some _ _ _ hf
      obtain ⟨r, hr, e⟩ := hs
      refine ih _ ⟨r &&& (7 - 2 ^ i), (nb_eq r hr i (by omega)).2, ?_⟩
      show (gT n kd ch s).2.2.2.2.1 &&& _ = _
      rw [gT_ri, e]
      exact (nb_eq r hr i (by omega)).1
theorem Rl_T (hn : n ≤ 3) {f : Nat → Int32} {s : St} (hR : Rl n kd ch ga lo f s) (hev : ¬ s.2.2.1 = true) {x : Int64} (hx : x = s.1) {post : Int64 → (Nat → Int32) → Prop} (hp : ∀ f', Rl n kd ch ga lo f' (gT n kd ch s) → post (gT n kd ch s).1 f') : wpX12_passes x f post := by
  obtain ⟨r1, r2, r3, r4, r5, r6⟩ := hR
  subst hx
  refine pass_m hn r1 r6 (mem := s.2.2.2.2.2.1) (fun i hi => (r5 i hi).1) (fun f' f3 f4 fo => ?_)
  have e : gT n kd ch s = ((pdS kd ch s.2.2.2.2.2.1 n (s.1, 0)).1, s.2.1 + 1, true, (pdS kd ch s.2.2.2.2.2.1 n (s.1, 0)).2, s.2.2.2.2.1, s.2.2.2.2.2.1, s.2.2.2.2.2.2) := by
    unfold gT
    rw [if_neg hev]
  rw [e] at hp
  refine hp f' ⟨(fo 1 (by decide) (by decide)).trans r1, (fo 2 (by decide) (by decide)).trans r2, f3, f4, fun i hi => ⟨(fo _ (by omega) (by omega)).trans (r5 i hi).1, (fo _ (by omega) (by omega)).trans (r5 i hi).2⟩, fun i hi => ?_⟩
  rw [fo _ (by omega) (by omega), fo _ (by omega) (by omega), fo _ (by omega) (by omega), fo _ (by omega) (by omega)]
  exact r6 i hi
theorem Rl_C (hn : n ≤ 3) {f : Nat → Int32} {s : St} (hR : Rl n kd ch ga lo f s) {post : Unit → (Nat → Int32) → Prop} (hp : ∀ f', Rl n kd ch ga lo f' (gC n kd ga lo s) → post () f') : wpX12_stands f post := by
  obtain ⟨r1, r2, r3, r4, r5, r6⟩ := hR
  refine stands_m hn r1 r6 (fun f' g1 g3 g4 go => hp f' ⟨?_, ?_, g3, g4, fun i hi => ⟨?_, ?_⟩, fun i hi => ?_⟩)
  · exact (go 1 (by decide) (by decide) (fun i hi => ⟨by omega, by omega⟩)).trans r1
  · exact (go 2 (by decide) (by decide) (fun i hi => ⟨by omega, by omega⟩)).trans r2
  · rw [(g1 i hi).2]
    exact (if_pos (show i < 3 by omega)).symm
  · rw [(g1 i hi).1, (r5 i hi).2, r3]
    exact (if_pos hi).symm
  · rw [go _ (by omega) (by omega) (fun i hi => ⟨by omega, by omega⟩), go _ (by omega) (by omega) (fun i hi => ⟨by omega, by omega⟩), go _ (by omega) (by omega) (fun i hi => ⟨by omega, by omega⟩), go _ (by omega) (by omega) (fun i hi => ⟨by omega, by omega⟩)]
    exact r6 i hi
theorem Rl_R (hn : n ≤ 3) {f : Nat → Int32} {s : St} {i : Nat} (hi : i < n) (hR : Rl n kd ch ga lo f s) {post : Unit → (Nat → Int32) → Prop} (hp : ∀ f', Rl n kd ch ga lo f' (gR i s) → post () f') : wpX12_againBy (nI i) f post := by
  obtain ⟨r1, r2, r3, r4, r5, r6⟩ := hR
  unfold wpX12_againBy
  have i5 : (6 : Int32) + 6 * nI i + 5 = nI (11 + 6 * i) := by rw [show (5 : Int32) = nI 5 from rfl, ix6a]; congr 1; omega
  have v5 : vp_in (nI (11 + 6 * i)) 124 := vp_in_nI (by omega) (by decide)
  rw [i5, nI_clamp (show 11 + 6 * i < 2 ^ 31 by omega)]
  refine ⟨v5, v5, hp _ ⟨?_, ?_, upd_s, ?_, fun j hj => ⟨?_, ?_⟩, fun j hj => ?_⟩⟩
  · rw [upd_n (by omega), upd_n (by omega), upd_n (by omega), upd_n (by omega), r1]
  · rw [upd_n (by omega), upd_n (by omega), upd_n (by omega), upd_s, r2]
    rfl
  · rw [upd_n (by omega), upd_s]
    rfl
  · show _ = upd s.2.2.2.2.2.1 i (s.2.2.2.2.2.1 i + 1) j
    by_cases e : j = i
    · subst e
      rw [upd_n (by omega), upd_n (by omega), upd_s, upd_s, upd_n (by omega), (r5 j hj).1]
    · rw [upd_n (by omega), upd_n (by omega), upd_n (by omega), upd_n (by omega), upd_n e, (r5 j hj).1]
  · rw [upd_n (by omega), upd_n (by omega), upd_n (by omega), upd_n (by omega), (r5 j hj).2]
    rfl
  · rw [upd_n (by omega), upd_n (by omega), upd_n (by omega), upd_n (by omega), upd_n (by omega), upd_n (by omega), upd_n (by omega), upd_n (by omega), upd_n (by omega), upd_n (by omega), upd_n (by omega), upd_n (by omega), upd_n (by omega), upd_n (by omega), upd_n (by omega), upd_n (by omega)]
    exact r6 j hj
theorem inner_m (hn : n ≤ 3) {H f0 : Nat → Int32} (hH : ∀ i, i < n → H i = nI (h i)) (hh : ∀ i, i < n → h i ≤ 2) {post : Unit → Int32 → (Nat → Int32) → Prop} {D d : Nat} (hd : d < D) (hD : D ≤ 20) : ∀ (k m : Nat) (s : St) (f : Nat → Int32), Rl n kd ch ga lo f s → (∃ r, r < 8 ∧ s.2.2.2.2.1 = nI r ∧ pc8 r < k) → (∀ m' f', m ≤ m' → Rl n kd ch ga lo f' (gI n kd ch ga lo h k s) → wlX12_goes_37 f0 H post m' (nI D) (gI n kd ch ga lo h k s).1 (nI (d + 1)) (gI n kd ch ga lo h k s).2.1 f') → wlX12_goes_37 f0 H post (m + k) (nI D) s.1 (nI d) s.2.1 f := by
  intro k
  induction k with
  | zero =>
    intro m s f hR hr
    obtain ⟨r, -, -, h0⟩ := hr
    omega
  | succ k ih =>
    intro m s f hR hr hp
    obtain ⟨r, hr8, hre, hrk⟩ := hr
    have core : ∀ (t : St) (g : Nat → Int32), gT n kd ch s = t → Rl n kd ch ga lo g t → wjX12_goes_71 f0 H post (wlX12_goes_37 f0 H post (m + k)) (nI D) t.1 (nI d) t.2.1 g := by
      intro t g ht hRt
      rw [gI, ht] at hp
      have tri : t.2.2.2.2.1 = nI r := by rw [← ht, gT_ri, hre]
      unfold wjX12_goes_71 wjX12_goes_125
      rw [hRt.2.1, hRt.2.2.1]
      refine first_m hn hRt.1 hRt.2.2.2.2.2 hH hh ?_
      cases hf : fs (wP h kd t.2.2.2.2.1 t.2.2.2.1) n 0 with
      | none =>
        rw [hf] at hp
        refine k1 rfl (Rl_C hn hRt (fun f' hf' => ?_))
        rw [nI_1]
        exact hp (m + k) f' (by omega) hf'
      | some i =>
        rw [hf] at hp
        obtain ⟨-, hi, hw⟩ := fs_some _ _ _ hf
        refine k2 (mN_ne (n := i) (by omega)) (Rl_R hn (by omega) hRt (fun f' hf' => ?_))
        have hbr : hb (nI r) i = true := by
          unfold wP at hw
          rw [tri] at hw
          simp only [Bool.and_eq_true] at hw
          exact hw.2.1
        refine ih m (gR i t) f' hf' ⟨r &&& (7 - 2 ^ i), (nb_eq r hr8 i (by omega)).2, ?_, ?_⟩ hp
        · show t.2.2.2.2.1 &&& _ = _
          rw [tri]
          exact (nb_eq r hr8 i (by omega)).1
        · have := pc_dec r hr8 i (by omega) hbr
          omega
    rw [show m + (k + 1) = (m + k) + 1 by omega]
    unfold wlX12_goes_37
    refine k2 (nI_ge hd (by omega)) ⟨fun e => ?_, fun e => ?_⟩
    · have hev : s.2.2.1 = true := by
        rw [hR.2.2.2.1] at e
        exact (bz_1 _).mp e
      exact core s f (by unfold gT; rw [if_pos hev]) hR
    · have hev : ¬ s.2.2.1 = true := by
        rw [hR.2.2.2.1] at e
        have := (bz_0 _).mp e
        rw [this]
        decide
      refine Rl_T hn hR hev rfl (fun f' hf' => ?_)
      have := core _ f' rfl hf'
      rw [show (gT n kd ch s).2.1 = s.2.1 + 1 by unfold gT; rw [if_neg hev]] at this
      exact this
theorem pc_le (r : Nat) : pc8 r < 4 := by unfold pc8; omega
theorem dates_m (hn : n ≤ 3) {H f0 : Nat → Int32} (hH : ∀ i, i < n → H i = nI (h i)) (hh : ∀ i, i < n → h i ≤ 2) {post : Unit → Int32 → (Nat → Int32) → Prop} {D : Nat} (hD : D ≤ 20) (s0 : St) : ∀ (rem d m : Nat) (f : Nat → Int32), d + rem = D → 4 * rem < m → Rl n kd ch ga lo f (gD n kd ch ga lo h d s0) → (∃ r, r < 8 ∧ (gD n kd ch ga lo h d s0).2.2.2.2.1 = nI r) → (∀ f', Rl n kd ch ga lo f' (gD n kd ch ga lo h D s0) → post () (gD n kd ch ga lo h D s0).2.1 f') → wlX12_goes_37 f0 H post m (nI D) (gD n kd ch ga lo h d s0).1 (nI d) (gD n kd ch ga lo h d s0).2.1 f := by
  intro rem
  induction rem with
  | zero =>
    intro d m f hd hm hR hr hp
    have : d = D := by omega
    subst this
    obtain ⟨m', rfl⟩ : ∃ m', m = m' + 1 := ⟨m - 1, by omega⟩
    unfold wlX12_goes_37
    exact k1 (nI_le (Nat.le_refl _) (by omega)) (hp f hR)
  | succ rem ih =>
    intro d m f hd hm hR hr hp
    obtain ⟨m0, rfl⟩ : ∃ m0, m = m0 + 4 := ⟨m - 4, by omega⟩
    obtain ⟨r, hr8, hre⟩ := hr
    refine inner_m hn hH hh (by omega) hD 4 m0 _ f hR ⟨r, hr8, hre, pc_le r⟩ (fun m' f' hm' hf' => ?_)
    exact ih (d + 1) m' f' (by omega) (by omega) hf' (gI_ri hn 4 _ ⟨r, hr8, hre⟩) hp
theorem goes_m (hn : n ≤ 3) {H f0 tr : Nat → Int32} (hH : ∀ i, i < n → H i = nI (h i)) (hh : ∀ i, i < n → h i ≤ 2) {post : Unit → Int32 → (Nat → Int32) → Prop} {D : Nat} (hD : D ≤ 20) {s0 : St} {seed lm : Int32} (hs : s0.1 = seed.toInt64) (hs2 : s0.2.1 = 0) (hR : ∀ f, (∀ j, j < 124 → f j = f0 j) → Rl n kd ch ga lo f s0) (hr : ∃ r, r < 8 ∧ s0.2.2.2.2.1 = nI r) (hp : ∀ f', Rl n kd ch ga lo f' (gD n kd ch ga lo h D s0) → post () (gD n kd ch ga lo h D s0).2.1 f') : wpX12_goes (nI D) seed lm tr f0 H post := by
  unfold wpX12_goes
  refine lp (σ := Nat → Int32) (fun m i s => wlX12_goes_2 f0 H post m (nI D) seed (nI i) lm s) (fun i s => ∀ j, j < i → s j = f0 j) 124 (fun m s q => ?_) (fun m i s hi q k => ?_) fu 0 tr (by decide) (by decide) (fun j hj => absurd hj (Nat.not_lt_zero j))
  · unfold wlX12_goes_2
    have := dates_m (ch := ch) hn (f0 := f0) hH hh hD s0 D 0 fu s (by omega) (by unfold fu; omega) (hR s q) hr hp
    refine k1 (nI_le (a := 124) (Nat.le_refl _) (by decide)) ?_
    rw [show gD n kd ch ga lo h 0 s0 = s0 from rfl, hs, hs2] at this
    exact this
  · unfold wlX12_goes_2
    have v : vp_in (nI i) 124 := vp_in_nI hi (by decide)
    rw [nI_clamp (show i < 2 ^ 31 by omega), nI_1]
    refine k2 (nI_ge (b := 124) hi (by decide)) ⟨v, v, k _ (fun j hj => ?_)⟩
    by_cases e : j = i
    · subst e
      exact upd_s
    · rw [upd_n e]
      exact q j (by omega)
end GONE
