-- the village that is read
def KK (len : Nat) (c : Nat → Nat) (k0 : Nat) : Nat → Nat
  | 0 => k0
  | j + 1 => (cc4 len c (KK len c k0 j + 1, 0)).1
def Gd (len : Nat) (c : Nat → Nat) (k0 j : Nat) : Prop := KK len c k0 j < len ∧ srt (bA len c (KK len c k0 j)) = true ∧ (cc4 len c (KK len c k0 j + 1, 0)).2 = 0
def En (len : Nat) (c : Nat → Nat) (k0 n : Nat) (e : Nat × Nat) : Prop :=
  (len ≤ KK len c k0 n ∧ e = (KK len c k0 n, 0)) ∨ (KK len c k0 n < len ∧ srt (bA len c (KK len c k0 n)) = false ∧ e = (KK len c k0 n, 1)) ∨ (KK len c k0 n < len ∧ srt (bA len c (KK len c k0 n)) = true ∧ n = 3 ∧ e = (KK len c k0 n, 3)) ∨ (KK len c k0 n < len ∧ srt (bA len c (KK len c k0 n)) = true ∧ n < 3 ∧ ¬ (cc4 len c (KK len c k0 n + 1, 0)).2 = 0 ∧ e = cc4 len c (KK len c k0 n + 1, 0))
def tP (len : Nat) (c : Nat → Nat) (k0 j : Nat) : PT := tF len c j (KK len c k0 j)
def ncF (nc : Nat → Option Nat) (q : Nat → Nat) : Nat → Nat → Option Nat
  | 0 => nc
  | n + 1 => va_up (ncF nc q n) n (some (q n))
def nsF (len : Nat) (c : Nat → Nat) (k0 : Nat) (q : Nat → Nat) (n : Nat) : List (Nat × PT) := (List.range n).map (fun j => (q j, tP len c k0 j))
section tape
variable {len : Nat} {c : Nat → Nat} {bytes : Nat → Int32} {k0 : Nat}
theorem KK_le (hl : len ≤ 60) (h0 : k0 ≤ len) : ∀ n, (∀ j, j < n → Gd len c k0 j) → KK len c k0 n ≤ len
  | 0, _ => h0
  | n + 1, h => (cc4_ok (st := (KK len c k0 n + 1, 0)) hl ⟨(h n (by omega)).1, Nat.zero_le _⟩).1
theorem lev_c (hl : len ≤ 60) (hc : ∀ k, k < len → c k < 256) (hb : ∀ k, k < 60 → bytes k = nI (c k)) {i : Nat} (hi : i < 3) (hk : KK len c k0 i ≤ len) {X : Prop} {Q : Int32 → Int32 → Prop} {Y : Int32 → Int32 → Prop} {Z : Nat → PT → Int32 → Int32 → Prop}
    (hE : ∀ e, En len c k0 i e → Q (nI e.1) (nI e.2)) (hZ : Gd len c k0 i → ∀ q, Z q (tP len c k0 i) (nI (KK len c k0 (i + 1))) 0) :
    (¬ (0 : Int32) = 0 → X) ∧ ((0 : Int32) = 0 → ((nI len ≤ nI (KK len c k0 i) → Q (nI (KK len c k0 i)) 0) ∧ (¬ nI len ≤ nI (KK len c k0 i) → wpX7_readPerson (nI i) (nI len) (nI (KK len c k0 i)) 0 bytes (fun r pl fl => (r = none → ((¬ fl = 0 → Q pl fl) ∧ (fl = 0 → Y pl fl))) ∧ (∀ (q : Nat) (tq : PT), r = some tq → Z q tq pl fl))))) := by
  refine k3 rfl ?_
  by_cases h : len ≤ KK len c k0 i
  · exact k1 (nI_le h (by omega)) (hE (KK len c k0 i, 0) (Or.inl ⟨h, rfl⟩))
  · have hlt : KK len c k0 i < len := by omega
    refine k2 (nI_ge hlt (by omega)) (person_c hl hc hb (by omega) hlt (fun s => ⟨fun _ => k4 (by decide) (hE (KK len c k0 i, 1) (Or.inr (Or.inl ⟨hlt, s, rfl⟩))), (fun q tq e => by cases e)⟩) (fun s z => absurd z (by omega)) (fun s z w => ⟨fun _ => k4 (nI_nz w (cc4_ok (st := (KK len c k0 i + 1, 0)) hl ⟨hlt, Nat.zero_le _⟩).2) (hE _ (Or.inr (Or.inr (Or.inr ⟨hlt, s, hi, w, rfl⟩)))), (fun q tq e => by cases e)⟩) (fun s z w => ⟨(fun e => by cases e), fun q tq e => ?_⟩))
    have : tF len c i (KK len c k0 i) = tq := Option.some.inj e
    subst this
    exact hZ ⟨hlt, s, w⟩ q
theorem lev3_c (hl : len ≤ 60) (hc : ∀ k, k < len → c k < 256) (hb : ∀ k, k < 60 → bytes k = nI (c k)) (hk : KK len c k0 3 ≤ len) {X : Prop} {Q : Int32 → Int32 → Prop} {Z : Nat → PT → Int32 → Int32 → Prop}
    (hE : ∀ e, En len c k0 3 e → Q (nI e.1) (nI e.2)) :
    (¬ (0 : Int32) = 0 → X) ∧ ((0 : Int32) = 0 → ((nI len ≤ nI (KK len c k0 3) → Q (nI (KK len c k0 3)) 0) ∧ (¬ nI len ≤ nI (KK len c k0 3) → wpX7_readPerson (nI 3) (nI len) (nI (KK len c k0 3)) 0 bytes (fun r pl fl => (r = none → Q pl fl) ∧ (∀ (q : Nat) (tq : PT), r = some tq → Z q tq pl fl))))) := by
  refine k3 rfl ?_
  by_cases h : len ≤ KK len c k0 3
  · exact k1 (nI_le h (by omega)) (hE (KK len c k0 3, 0) (Or.inl ⟨h, rfl⟩))
  · have hlt : KK len c k0 3 < len := by omega
    exact k2 (nI_ge hlt (by omega)) (person_c hl hc hb (by omega) hlt (fun s => ⟨fun _ => hE (KK len c k0 3, 1) (Or.inr (Or.inl ⟨hlt, s, rfl⟩)), (fun q tq e => by cases e)⟩) (fun s z => ⟨fun _ => hE (KK len c k0 3, 3) (Or.inr (Or.inr (Or.inl ⟨hlt, s, rfl, rfl⟩))), (fun q tq e => by cases e)⟩) (fun s z w => absurd z (by omega)) (fun s z w => absurd z (by omega)))
def st0 (len : Nat) (c : Nat → Nat) : Nat × Nat := sg len c 59 (sg len c 118 (0, 0))
theorem st0_ok : Ok len (st0 len c) := sg_ok (by omega) (sg_ok (by omega) ⟨Nat.zero_le _, Nat.zero_le _⟩)
theorem readVillage_c (hl : len ≤ 60) (hc : ∀ k, k < len → c k < 256) (hb : ∀ k, k < 60 → bytes k = nI (c k)) {pl fw : Int32} {nc : Nat → Option Nat} {post : Int32 → Int32 → Int32 → Int32 → (Nat → Option Nat) → (List (Nat × PT)) → Prop}
    (hF : ¬ (st0 len c).2 = 0 → post 0 0 (nI (st0 len c).1) (nI (st0 len c).2) nc [])
    (hG : (st0 len c).2 = 0 → ∀ n e, n ≤ 3 → (∀ j, j < n → Gd len c (st0 len c).1 j) → En len c (st0 len c).1 n e → ∀ q : Nat → Nat, post (nI n) 0 (nI e.1) (nI e.2) (ncF nc q n) (nsF len c (st0 len c).1 q n)) : wpX7_readVillage (nI len) pl fw bytes nc post := by
  unfold wpX7_readVillage
  refine sign_c hl hb (x := 118) (st := (0, 0)) ⟨Nat.zero_le _, Nat.zero_le _⟩ ?_
  refine sign_c hl hb (x := 59) (sg_ok (by omega) ⟨Nat.zero_le _, Nat.zero_le _⟩) ?_
  have ok0 : Ok len (st0 len c) := st0_ok
  by_cases h0 : (st0 len c).2 = 0
  · have e0 : sg len c 59 (sg len c 118 (0, 0)) = (KK len c (st0 len c).1 0, 0) := Prod.ext rfl h0
    rw [e0]
    have G := hG h0
    have ok1 : (st0 len c).1 ≤ len := ok0.1
    generalize (st0 len c).1 = k0 at G ok1 ⊢
    have kk0 : KK len c k0 0 ≤ len := ok1
    refine lev_c hl hc hb (i := 0) (by omega) kk0 (Q := fun pl fl => post 0 0 pl fl nc []) (fun e he => G 0 e (by omega) (fun j hj => absurd hj (Nat.not_lt_zero j)) he (fun _ => 0)) (fun g0 q0 => ?_)
    have gg0 : ∀ j, j < 1 → Gd len c k0 j := fun j hj => by
      have : j = 0 := by omega
      rw [this]
      exact g0
    refine lev_c hl hc hb (i := 1) (by omega) (KK_le hl kk0 1 gg0) (Q := fun pl fl => post 1 0 pl fl (va_up nc 0 (some q0)) [(q0, tP len c k0 0)]) (fun e he => G 1 e (by omega) gg0 he (fun _ => q0)) (fun g1 q1 => ?_)
    have gg1 : ∀ j, j < 2 → Gd len c k0 j := fun j hj => by
      by_cases z : j = 1
      · rw [z]
        exact g1
      · exact gg0 j (by omega)
    refine lev_c hl hc hb (i := 2) (by omega) (KK_le hl kk0 2 gg1) (Q := fun pl fl => post 2 0 pl fl (va_up (va_up nc 0 (some q0)) 1 (some q1)) [(q0, tP len c k0 0), (q1, tP len c k0 1)]) (fun e he => G 2 e (by omega) gg1 he (fun j => if j = 0 then q0 else q1)) (fun g2 q2 => ?_)
    have gg2 : ∀ j, j < 3 → Gd len c k0 j := fun j hj => by
      by_cases z : j = 2
      · rw [z]
        exact g2
      · exact gg1 j (by omega)
    exact lev3_c hl hc hb (KK_le hl kk0 3 gg2) (Q := fun pl fl => post 3 0 pl fl (va_up (va_up (va_up nc 0 (some q0)) 1 (some q1)) 2 (some q2)) [(q0, tP len c k0 0), (q1, tP len c k0 1), (q2, tP len c k0 2)]) (fun e he => G 3 e (by omega) gg2 he (fun j => if j = 0 then q0 else if j = 1 then q1 else q2))
  · exact k4 (nI_nz h0 ok0.2) (hF h0)
-- rights at first
def RR (kd : Nat → Nat) : Nat → Nat
  | 0 => 0
  | n + 1 => if kd n = 5 then RR kd n else RR kd n + 2 ^ n
theorem RR_lt (kd : Nat → Nat) : ∀ n, RR kd n < 2 ^ n
  | 0 => Nat.zero_lt_one
  | n + 1 => by
    have := RR_lt kd n
    rw [RR, Nat.pow_succ]
    by_cases h : kd n = 5
    · rw [if_pos h]
      omega
    · rw [if_neg h]
      omega
theorem RR_c {k1 k2 : Nat → Nat} : ∀ n, (∀ j, j < n → k1 j = k2 j) → RR k1 n = RR k2 n
  | 0, _ => rfl
  | n + 1, h => by rw [RR, RR, h n (by omega), RR_c n (fun j hj => h j (by omega))]
theorem or_R : ∀ i, i < 3 → ∀ r, r < 8 → (!(decide (r < 2 ^ i)) || decide (nI r ||| ((1 : Int32) <<< (nI i &&& 31)) = nI (r + 2 ^ i))) = true := by
  decide +kernel
theorem or_r {i r : Nat} (hi : i < 3) (hr : r < 2 ^ i) : nI r ||| ((1 : Int32) <<< (nI i &&& 31)) = nI (r + 2 ^ i) := by
  have h8 : 2 ^ i ≤ 2 ^ 3 := Nat.pow_le_pow_right (by decide) (by omega)
  have h := or_R i hi r (by omega)
  rw [decide_eq_true hr] at h
  simpa using h
-- the reference
def kdF (len : Nat) (c : Nat → Nat) (k0 j : Nat) : Nat := kindS (bA len c (KK len c k0 j))
def chF (len : Nat) (c : Nat → Nat) (k0 j : Nat) : Nat := (cc1 len c (KK len c k0 j + 1, 0)).1
def gaF (len : Nat) (c : Nat → Nat) (k0 j : Nat) : Nat := (cc2 len c (KK len c k0 j + 1, 0)).1
def loF (len : Nat) (c : Nat → Nat) (k0 j : Nat) : Nat := (cc3 len c (KK len c k0 j + 1, 0)).1
def DR (len : Nat) (c : Nat → Nat) (k0 n : Nat) (d : Nat → Int32) : Prop :=
  d 0 = 1 ∧ d 1 = nI n ∧ d 2 = nI (RR (kdF len c k0) n) ∧ (∀ j, j < n → d (6 + 6 * j) = nI (kdF len c k0 j) ∧ d (7 + 6 * j) = nI (chF len c k0 j) ∧ d (8 + 6 * j) = nI (gaF len c k0 j) ∧ d (9 + 6 * j) = nI (loF len c k0 j)) ∧
  (∀ k, 3 ≤ k → k < 6 → d k = 0) ∧ (∀ k, 24 ≤ k → k < 124 → d k = 0) ∧ (∀ j, j < 3 → d (10 + 6 * j) = 0 ∧ d (11 + 6 * j) = 0)
theorem DR_s {n : Nat} (hn : n < 3) {d d' : Nat → Int32} (h : DR len c k0 n d) (hd : DN len c n (KK len c k0 n) d d') : DR len c k0 (n + 1) d' := by
  obtain ⟨a0, a1, a2, a3, a4, a5, a6⟩ := h
  obtain ⟨b0, b1, b2, b3, b4, b5, b6⟩ := hd
  refine ⟨?_, b5, ?_, fun j hj => ?_, fun k h1 h2 => ?_, fun k h1 h2 => ?_, fun j hj => ⟨?_, ?_⟩⟩
  · rw [b6 0 (by omega) (by omega) (by omega) (by omega) (by omega) (by omega), a0]
  · rw [b4, a2, RR]
    by_cases q : kindS (bA len c (KK len c k0 n)) = 5
    · rw [if_pos q, if_pos (show kdF len c k0 n = 5 from q)]
    · rw [if_neg q, if_neg (show ¬ kdF len c k0 n = 5 from q), or_r hn (RR_lt _ n)]
  · by_cases e : j = n
    · subst e
      exact ⟨b0, b1, b2, b3⟩
    · obtain ⟨c1, c2, c3, c4⟩ := a3 j (by omega)
      refine ⟨?_, ?_, ?_, ?_⟩
      · rw [b6 _ (by omega) (by omega) (by omega) (by omega) (by omega) (by omega), c1]
      · rw [b6 _ (by omega) (by omega) (by omega) (by omega) (by omega) (by omega), c2]
      · rw [b6 _ (by omega) (by omega) (by omega) (by omega) (by omega) (by omega), c3]
      · rw [b6 _ (by omega) (by omega) (by omega) (by omega) (by omega) (by omega), c4]
  · rw [b6 _ (by omega) (by omega) (by omega) (by omega) (by omega) (by omega), a4 k h1 h2]
  · rw [b6 _ (by omega) (by omega) (by omega) (by omega) (by omega) (by omega), a5 k h1 h2]
  · rw [b6 _ (by omega) (by omega) (by omega) (by omega) (by omega) (by omega), (a6 j hj).1]
  · rw [b6 _ (by omega) (by omega) (by omega) (by omega) (by omega) (by omega), (a6 j hj).2]
section ref
variable {post : Int32 → Int32 → Int32 → Int32 → Int32 → Int32 → Int32 → Int32 → Int32 → (Nat → Int32) → (Nat → Int32) → Prop} {now d : Nat → Int32} {acts fk fk0 aft start tok val : Int32}
theorem end_f {f p : Nat} (hp60 : p ≤ 60) (hp : post (-1000100 - nI p) 0 fk (nI p) aft start tok val acts d now) : wlX12_village_89 bytes post (f + 1) (nI len) fk (nI p) aft start tok val acts d now := by
  unfold wlX12_village_89 wjX12_village_121 wjX12_village_142
  exact well_f hp60 (kf' (well_f hp60 (kf' (well_f hp60 (kf hp)))))
theorem end_t (hp : ∀ now' : Nat → Int32, (∀ k, k < 124 → now' k = d k) → post (now' 1) 0 fk (-1) aft start tok val 0 d now') : wjX12_village_142 bytes post (nI len) fk (-1) aft start tok val acts d now := by
  unfold wjX12_village_142
  refine well_t (kt ?_)
  refine lp (σ := Nat → Int32) (fun m k s => wlX12_village_164 bytes post m (nI k) 0 fk (-1) aft start tok val acts d s) (fun k s => ∀ j, j < k → s j = d j) 124 (fun m s q => ?_) (fun m k s hk q kk => ?_) fu 0 now (by decide) (by decide) (fun j hj => absurd hj (Nat.not_lt_zero j))
  · unfold wlX12_village_164
    exact k1 (nI_le (a := 124) (Nat.le_refl _) (by decide)) (hp s q)
  · unfold wlX12_village_164
    have v : vp_in (nI k) 124 := vp_in_nI hk (by decide)
    rw [nI_clamp (show k < 2 ^ 31 by omega), nI_1]
    refine k2 (nI_ge (b := 124) hk (by decide)) ⟨v, v, kk _ (fun j hj => ?_)⟩
    by_cases e : j = k
    · rw [e, upd_s]
    · rw [upd_n e]
      exact q j (by omega)
theorem loop_m89 (hl : len ≤ 60) (hc : ∀ k, k < len → c k < 256) (hb : ∀ k, k < 60 → bytes k = nI (c k)) (h0 : k0 ≤ len) {n : Nat} {e : Nat × Nat} (hn : n ≤ 3) (hg : ∀ j, j < n → Gd len c k0 j) (hE : En len c k0 n e) (hR : RMs len c (k0, 0) fk0 fk0 (-1) aft start tok val) (hd : DR len c k0 0 d)
    (hp0 : e.2 = 0 → ∀ fp aft' start' tok' val' d' now', DR len c k0 n d' → (∀ k, k < 124 → now' k = d' k) → post (now' 1) 0 fk0 fp aft' start' tok' val' 0 d' now')
    (hp1 : ¬ e.2 = 0 → ∀ fp aft' start' tok' val' d', post (-1000100 - nI e.1) 0 (nI e.2) fp aft' start' tok' val' acts d' now) : wlX12_village_89 bytes post fu (nI len) fk0 (-1) aft start tok val acts d now := by
  show wlX12_village_89 bytes post (999 + 1) (nI len) fk0 (-1) aft start tok val acts d now
  refine lp (σ := Int32 × Int32 × Int32 × Int32 × (Nat → Int32)) (fun m i s => wlX12_village_89 bytes post (m + 1) (nI len) fk0 (-1) s.1 s.2.1 s.2.2.1 s.2.2.2.1 acts s.2.2.2.2 now) (fun i s => RMs len c (KK len c k0 i, 0) fk0 fk0 (-1) s.1 s.2.1 s.2.2.1 s.2.2.2.1 ∧ DR len c k0 i s.2.2.2.2) n (fun m s q => ?_) (fun m i s hi q kk => ?_) 999 0 (aft, start, tok, val, d) (Nat.zero_le _) (by omega) ⟨hR, hd⟩
  · obtain ⟨s1, s2, s3, s4, s5⟩ := s
    have q1 : RMs len c (KK len c k0 n, 0) fk0 fk0 (-1) s1 s2 s3 s4 := q.1
    have q2 : DR len c k0 n s5 := q.2
    show wlX12_village_89 bytes post (m + 1 + 1) (nI len) fk0 (-1) s1 s2 s3 s4 acts s5 now
    have r3 : s2 = nI (KK len c k0 n) := (q1.1 rfl).2.2.1
    have r4 : TK len c (KK len c k0 n) s3 s4 s1 := (q1.1 rfl).2.2.2
    have hk := KK_le hl h0 n hg
    rcases hE with ⟨g1, rfl⟩ | ⟨g1, g2, rfl⟩ | ⟨g1, g2, g3, rfl⟩ | ⟨g1, g2, g3, g4, rfl⟩
    · have hr : run len c (KK len c k0 n) = 0 := run_0 hl (fg_out g1)
      have ht := (r4.1 hr).2.1
      rw [bA_out g1, show tkc (-1) = 0 by decide] at ht
      have ht : s3 = 0 := ht
      subst ht
      unfold wlX12_village_89 wjX12_village_121
      refine well_t (kt' (k4 (by decide) (well_t (kt' (k1 rfl (end_t (fun now' hnow => hp0 rfl _ _ _ _ _ _ _ q2 hnow)))))))
    · have hck := hc _ g1
      have tn : ¬ s3 = 0 := by
        by_cases hr : run len c (KK len c k0 n) = 0
        · rw [show s3 = _ from (r4.1 hr).2.1, tkc_0, bA_in g1]
          exact fun z => z (nI_pos' (by omega))
        · rcases TK_num r4 (by omega) with z | z
          · rw [show s3 = _ from z]
            decide
          · rw [show s3 = _ from z]
            decide
      have out : wjX12_village_121 bytes post (nI len) fk0 (-1) s1 s2 s3 s4 acts s5 now := by
        unfold wjX12_village_121 wpX12_takes wjX12_village_142
        refine well_t (kt' (k2 tn (well_t (kt (kf ?_)))))
        rw [show s2 = _ from r3]
        exact well_f (by omega) (kf (hp1 (show ¬ (1 : Nat) = 0 by decide) _ _ _ _ _ _))
      unfold wlX12_village_89
      refine well_t (kt' ⟨fun _ => out, fun z => kind_m ?_⟩)
      have hr : run len c (KK len c k0 n) = 0 := by
        by_cases hr : run len c (KK len c k0 n) = 0
        · exact hr
        · rcases TK_num r4 (by omega) with w | w
          · rw [show s3 = _ from w] at z
            exact absurd z (by decide)
          · rw [show s3 = _ from w] at z
            exact absurd z (by decide)
      rw [show s4 = _ from (r4.1 hr).1, g2]
      rw [if_neg (by decide)]
      rw [← (r4.1 hr).1]
      exact k1 (by decide) out
    · obtain ⟨y, hy, ey⟩ := srt_l g2
      obtain ⟨t1, t2, t3⟩ := TK_1 hl (x := y) (by omega) (by omega) ey r4
      have kb := kindS_b s4
      unfold wlX12_village_89
      refine well_t (kt' (k3 (show s3 = 1 from t2.trans (tkc_s g2)) (kind_m ?_)))
      rw [show s4 = _ from t1, g2, if_pos rfl, ← t1]
      refine k2 (nI_nle kb.1 (by omega)) (person_m hl hc hb hn g1 g2 q1 q2.2.1 (fun _ aft' start' tok' val' => ?_) (fun z => absurd z (by omega)) (fun z => absurd z (by omega)))
      exact end_f (by omega) (hp1 (show ¬ (3 : Nat) = 0 by decide) _ _ _ _ _ _)
    · obtain ⟨y, hy, ey⟩ := srt_l g2
      obtain ⟨t1, t2, t3⟩ := TK_1 hl (x := y) (by omega) (by omega) ey r4
      have kb := kindS_b s4
      have ok4 := cc4_ok (c := c) (st := (KK len c k0 n + 1, 0)) hl ⟨g1, Nat.zero_le _⟩
      have ok41 := ok4.1
      unfold wlX12_village_89
      refine well_t (kt' (k3 (show s3 = 1 from t2.trans (tkc_s g2)) (kind_m ?_)))
      rw [show s4 = _ from t1, g2, if_pos rfl, ← t1]
      refine k2 (nI_nle kb.1 (by omega)) (person_m hl hc hb hn g1 g2 q1 q2.2.1 (fun z => absurd z (by omega)) (fun _ _ aft' start' tok' val' => ?_) (fun _ z => absurd z g4))
      exact end_f (by omega) (hp1 g4 _ _ _ _ _ _)
  · obtain ⟨s1, s2, s3, s4, s5⟩ := s
    have q1 : RMs len c (KK len c k0 i, 0) fk0 fk0 (-1) s1 s2 s3 s4 := q.1
    have q2 : DR len c k0 i s5 := q.2
    show wlX12_village_89 bytes post (m + 1 + 1) (nI len) fk0 (-1) s1 s2 s3 s4 acts s5 now
    have r3 : s2 = nI (KK len c k0 i) := (q1.1 rfl).2.2.1
    have r4 : TK len c (KK len c k0 i) s3 s4 s1 := (q1.1 rfl).2.2.2
    obtain ⟨g1, g2, g3⟩ := hg i hi
    obtain ⟨y, hy, ey⟩ := srt_l g2
    obtain ⟨t1, t2, t3⟩ := TK_1 hl (x := y) (by omega) (by omega) ey r4
    have kb := kindS_b s4
    unfold wlX12_village_89
    refine well_t (kt' (k3 (show s3 = 1 from t2.trans (tkc_s g2)) (kind_m ?_)))
    rw [show s4 = _ from t1, g2, if_pos rfl, ← t1]
    refine k2 (nI_nle kb.1 (by omega)) (person_m hl hc hb (by omega) g1 g2 q1 q2.2.1 (fun z => absurd z (by omega)) (fun _ z => absurd g3 z) (fun _ _ aft' start' tok' val' d' hR' hD' => kk (aft', start', tok', val', d') ⟨?_, DR_s (by omega) q2 hD'⟩))
    have e4 : cc4 len c (KK len c k0 i + 1, 0) = (KK len c k0 (i + 1), 0) := Prod.ext rfl g3
    rw [e4] at hR'
    exact hR'
theorem village_m (hl : len ≤ 60) (hc : ∀ k, k < len → c k < 256) (hb : ∀ k, k < 60 → bytes k = nI (c k)) {w_fp w_at w_st w_tok w_val : Int32}
    (h : ∀ aft start tok val d, RMs len c (st0 len c) fk0 (if (st0 len c).2 = 0 then fk0 else nI (st0 len c).2) (if (st0 len c).2 = 0 then -1 else nI (st0 len c).1) aft start tok val → DR len c (st0 len c).1 0 d → wlX12_village_89 bytes post fu (nI len) (if (st0 len c).2 = 0 then fk0 else nI (st0 len c).2) (if (st0 len c).2 = 0 then -1 else nI (st0 len c).1) aft start tok val acts d now) : wpX12_village (nI len) fk0 w_fp w_at w_st w_tok w_val acts d bytes now post := by
  unfold wpX12_village
  refine lp (σ := Nat → Int32) (fun m k s => wlX12_village_2 bytes post m (nI k) (nI len) fk0 w_fp w_at w_st w_tok w_val acts s now) (fun k s => ∀ j, j < k → s j = 0) 124 (fun m s q => ?_) (fun m k s hk q kk => ?_) fu 0 d (by decide) (by decide) (fun j hj => absurd hj (Nat.not_lt_zero j))
  · unfold wlX12_village_2
    refine k1 (nI_le (a := 124) (Nat.le_refl _) (by decide)) (adv_m hl hc hb (k := 0) (by omega) (fun tok val aft hT => ?_))
    have hR : RMs len c (0, 0) fk0 fk0 (-1) aft (nI 0) tok val := ⟨fun _ => ⟨rfl, rfl, rfl, hT⟩, fun z => absurd rfl z⟩
    have hd0 : DR len c (st0 len c).1 0 (upd s 0 1) := by
      refine ⟨upd_s, ?_, ?_, fun j hj => absurd hj (Nat.not_lt_zero j), fun k h1 h2 => ?_, fun k h1 h2 => ?_, fun j hj => ⟨?_, ?_⟩⟩
      · rw [upd_n (by omega), q 1 (by omega)]
        rfl
      · rw [upd_n (by omega), q 2 (by omega)]
        rfl
      · rw [upd_n (by omega), q k (by omega)]
      · rw [upd_n (by omega), q k (by omega)]
      · rw [upd_n (by omega), q _ (by omega)]
      · rw [upd_n (by omega), q _ (by omega)]
    have go : ∀ b : Bool, (b = true ↔ bA len c 0 = nI 118) → wjX12_village_65 bytes post b (nI len) fk0 (-1) aft (nI 0) tok val acts (upd s 0 1) now := by
      intro b hB
      unfold wjX12_village_65 wjX12_village_84
      refine take_s hl hc hb (x := 118) (st := (0, 0)) (by omega) (by omega) ⟨Nat.zero_le _, Nat.zero_le _⟩ hR (fun _ => hB) (fun v fk1 fp1 aft1 start1 tok1 val1 hR1 => ?_)
      refine sign_m hl hc hb (t := 4) (x := 59) (Or.inl ⟨rfl, rfl⟩) (sg_ok (by omega) ⟨Nat.zero_le _, Nat.zero_le _⟩) hR1 (fun w fk2 fp2 aft2 start2 tok2 val2 hR2 => ?_)
      have hR2 : RMs len c (st0 len c) fk0 fk2 fp2 aft2 start2 tok2 val2 := hR2
      have e1 : fk2 = (if (st0 len c).2 = 0 then fk0 else nI (st0 len c).2) := by
        by_cases z : (st0 len c).2 = 0
        · rw [if_pos z]
          exact (hR2.1 z).1
        · rw [if_neg z]
          exact (hR2.2 z).1
      have e2 : fp2 = (if (st0 len c).2 = 0 then -1 else nI (st0 len c).1) := by
        by_cases z : (st0 len c).2 = 0
        · rw [if_pos z]
          exact (hR2.1 z).2.1
        · rw [if_neg z]
          exact (hR2.2 z).2
      rw [e1, e2] at hR2 ⊢
      exact h _ _ _ _ _ hR2 hd0
    have no : ¬ (tok = 1 ∧ val = 118) → wjX12_village_64 bytes post (nI len) fk0 (-1) aft (nI 0) tok val acts (upd s 0 1) now := by
      intro hno
      unfold wjX12_village_64
      refine go false ⟨(fun z => by cases z), fun z => absurd ?_ hno⟩
      obtain ⟨t1, t2, t3⟩ := TK_1 hl (x := 118) (by omega) (by omega) z hT
      rw [z] at t1 t2
      exact ⟨t2.trans (by decide), t1⟩
    refine ⟨fun z => no (fun w => z w.1), fun z => ⟨fun y => no (fun w => y w.2), fun y => go true ⟨fun _ => ?_, fun _ => rfl⟩⟩⟩
    have hr : run len c 0 = 0 := by
      by_cases hr : run len c 0 = 0
      · exact hr
      · rcases TK_num hT (by omega) with w | w
        · rw [w] at z
          exact absurd z (by decide)
        · rw [w] at z
          exact absurd z (by decide)
    rw [← (hT.1 hr).1, y]
    rfl
  · unfold wlX12_village_2
    rw [nI_clamp (show k < 2 ^ 31 by omega), nI_1]
    refine k2 (nI_ge (b := 124) hk (by decide)) ⟨vp_in_nI hk (by decide), kk _ (fun j hj => ?_)⟩
    by_cases e : j = k
    · rw [e, upd_s]
    · rw [upd_n e]
      exact q j (by omega)
end ref
end tape
