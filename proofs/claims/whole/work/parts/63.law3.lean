/-! THE CLAIM OUT OF ONE WALK OF THE LAW'S BODY. Your part is whole_start (and what it stands on); all else here is the same for every law, but numbers. -/
def R_law : String := "LivedAgainLaw"
def lw_P (b : Addr) (xs : List Int32) (args : Array Value) (s : State) : Prop := args = #[.ref b] ∧ s.IntsAt b xs ∧ xs.length ≤ 384 ∧ (Jvm.Cond.and given_1 narrow_1).before args s = true
def lw_Q (_ : Array Value) (s : State) (o : Outcome) (t : State) : Prop := o = .returned (some (.int 1)) ∧ Framed s o t [] 600000 7302249
def lw_Z (below : List Frame) (a : Array Value) (s : State) : State → Prop := fun t => ∃ o, t.status = .running ∧ Ended t below o ∧ lw_Q a s o t
/-- the law's own end, with 1 on the stack, nothing written that was there before, its room as the claim has it -/
theorem lw_ret {p : Program} {l : Launch} {e : Env} {s : State} {m : MethodId} {below : List Frame} {meth : Method} {c : Code} {b : Nat} (hx : p.tables.exec = Jvm.exec) (hb : c.code = code) (hr : meth.sig.returnType = ret) (hlocks : meth.locks = false) {pc : Nat} {H : Heap} {ls : Array Slot} (hdg : decode code pc = .ok (.ireturn, 1)) : W p l e room_1 s m #[Value.ref b] below meth c H [] 600000 7302249 (lw_Z below #[Value.ref b] s) (F0 m pc ls [.int 1]) := by
  intro T hT X
  obtain ⟨fs, hret, hrun, hended, hW, hframe⟩ := X.leave (v := some (.int 1)) (hlocks := hlocks) (fun h => by rw [hr] at h; cases h)
  have hmeth' : T.vm.method? m = some meth := X.method'
  refine ⟨T.setFrames fs, ?_, .returned (some (.int 1)), hrun, hended, rfl, ⟨_, rfl⟩, hW, hframe⟩
  jvm_step X.here [X.here.top, hx, hb, hdg, hmeth', hr, ret, narrow_b1]
  (try refine ⟨rfl, ?_⟩); (try refine ⟨rfl, ?_⟩)
  first | (intro acts; rw [hret _ acts rfl rfl rfl]) | rw [hret _ _ rfl rfl rfl]
  exact Steps.refl _
/-- what holds at the law's entry: the machine, the code, the tables' words (any of lw_tbl by 'hts w (by decide +kernel)'), the script of L ints xs at the cell b, what the Statement gives of the start (any of its parts by flat_of_before) -/
def lw_At (p : Program) (s : State) (m : MethodId) (meth : Method) (c : Code) (b L : Nat) (xs : Nat → Int32) : Prop :=
  p.tables.exec = Jvm.exec ∧ c.code = code ∧ meth.sig.returnType = ret ∧ c.maxLocals = 4 ∧ s.vm.findClass R_law = some m.cls ∧ (∀ w ∈ lw_tbl, w.before #[Value.ref b] s = true) ∧ va_X b L xs s s.heap ∧ b < s.heap.size ∧ meth.locks = false ∧ (Jvm.Cond.and given_1 narrow_1).before #[Value.ref b] s = true
def PuAll (Inv : CS → MS → NS → Prop) : Prop := Pu_row Inv ∧ Pu_set Inv ∧ Pu_copy Inv ∧ Pu_drop Inv ∧ Pu_feed Inv ∧ Pu_village Inv ∧ Pu_fault Inv ∧ Pu_live Inv ∧ Pu_again Inv ∧ Pu_stand Inv ∧ Pu_will Inv ∧ Pu_undo Inv ∧ Pu_person Inv ∧ Pu_lives Inv ∧ Pu_lived Inv ∧ Pu_mean Inv ∧ Pu_best Inv ∧ Pu_rests Inv ∧ Pu_worth Inv ∧ Pu_knows Inv ∧ Pu_often Inv ∧ Pu_gone Inv ∧ Pu_image_0 Inv ∧ Pu_image_1 Inv ∧ Pu_image_o Inv ∧ Pu_restore_0 Inv ∧ Pu_restore_1 Inv ∧ Pu_restore_o Inv ∧ Pu_kind Inv ∧ Pu_as Inv ∧ Pu_ask Inv ∧ Pu_trace Inv ∧ Pu_count Inv ∧ Pu_status Inv
set_option maxHeartbeats 8000000 in
set_option maxRecDepth 100000 in
/-- the law's loop, at its head with k calls done -/
theorem law_loop {p : Program} {l : Launch} {e : Env} {s : State} {m : MethodId} {below : List Frame} {meth : Method} {c : Code} {D : va_G} {cy : Nat → ClassId} {b L : Nat} {xs : Nat → Int32} {ad rr : Nat → Nat} {Inv : CS → MS → NS → Prop} (C : Cx p s m #[Value.ref b] meth c (miL meth) D cy) (hX : va_X b L xs s s.heap) (hbl : b < s.heap.size) (hL : L ≤ 384) (hpu : PuAll Inv) :
    ∀ (n k : Nat), k ≤ 64 → L < 6 * k + 6 * n → ∀ (S : CS) (M : MS) (ns : NS), Inv S M ns → NSok ns → ∀ (H : Heap) (locs : List Loc), va_P D CL (LW cy ad rr S M ++ nsW ns) H → va_D (fun q : Nat => s.heap.size ≤ q) (LW cy ad rr S M ++ nsW ns) → va_S (fun q : Nat => s.heap.size ≤ q) s.heap H locs → ∀ ls : Array Slot, lv_has ls 4 [(0, .ref b), (1, .ref (ad 0)), (2, .ref (ad 1)), (3, .int (nI (6 * k)))] → W p l e room_1 s m #[Value.ref b] below meth c H locs (63 + 4 * k) (2703 + 16 * k) (lw_Z below #[Value.ref b] s) (F0 m 18 ls []) := by
  obtain ⟨hx, hb, hr, hml, hown, hts, hK, hlk, hnm⟩ := id C
  have hb : c.code = cL_law := hb
  have hbA : ¬ (fun q : Nat => s.heap.size ≤ q) b := Nat.not_le.mpr hbl
  have hsix : ∀ k : Nat, k ≤ 64 → ((nI L - 6 < nI (6 * k)) ↔ L < 6 * k + 6) := by
    intro k hk
    rw [Int32.lt_iff_toInt_lt, show (6 : Int32) = nI 6 from rfl, pk_sub_toInt (by omega) (by omega), nI_toInt (by omega)]
    omega
  intro n
  induction n with
  | zero =>
    intro k hk hn S M ns hV hns H locs hP hD hS ls hl
    refine lv_iload_n hx hb dL_law_18 rfl (lv_at hl 3 rfl) ?_
    refine lv_aload_n hx hb dL_law_19 rfl (lv_at hl 0 rfl) ?_
    refine va_slen hx hb hX hbl hbA hS dL_law_20 ?_
    refine lv_bipush (v := 6) hx hb dL_law_21 (by decide) ?_
    refine lv_isub hx hb dL_law_23 ?_
    refine lv_icmp_gt (tgt := 1162) hx hb dL_law_24 (by decide) (fun c_ => ?_) (fun c_ => absurd ((hsix k hk).mpr (by omega)) c_)
    refine lv_iconst (v := 1) hx hb dL_law_1162 (by decide) ?_
    refine va_forget (fun q hq => hS.2.2 q hq) ?_
    refine W.widen (k := 600000) (n := 7302249) (by omega) (by omega) ?_
    exact lw_ret hx hb hr hlk dL_law_1163
  | succ n ih =>
    intro k hk hn S M ns hV hns H locs hP hD hS ls hl
    refine lv_iload_n hx hb dL_law_18 rfl (lv_at hl 3 rfl) ?_
    refine lv_aload_n hx hb dL_law_19 rfl (lv_at hl 0 rfl) ?_
    refine va_slen hx hb hX hbl hbA hS dL_law_20 ?_
    refine lv_bipush (v := 6) hx hb dL_law_21 (by decide) ?_
    refine lv_isub hx hb dL_law_23 ?_
    refine lv_icmp_gt (tgt := 1162) hx hb dL_law_24 (by decide) (fun c_ => ?_) (fun c_ => ?_)
    · refine lv_iconst (v := 1) hx hb dL_law_1162 (by decide) ?_
      refine va_forget (fun q hq => hS.2.2 q hq) ?_
      refine W.widen (k := 600000) (n := 7302249) (by omega) (by omega) ?_
      exact lw_ret hx hb hr hlk dL_law_1163
    have hj : 6 * k + 6 ≤ L := by
      rcases Nat.lt_or_ge L (6 * k + 6) with h | h
      · exact absurd ((hsix k hk).mpr h) c_
      · exact h
    have KK : ∀ (S2 : CS) (M2 : MS) (ns2 : NS) (H2 : Heap) (locs2 : List Loc), Inv S2 M2 ns2 → NSok ns2 → va_P D CL (LW cy ad rr S2 M2 ++ nsW ns2) H2 → va_D (fun q : Nat => s.heap.size ≤ q) (LW cy ad rr S2 M2 ++ nsW ns2) → va_S (fun q : Nat => s.heap.size ≤ q) s.heap H2 locs2 → W p l e room_1 s m #[Value.ref b] below meth c H2 locs2 (63 + 4 * k + 4) (2703 + 16 * k + 16) (lw_Z below #[Value.ref b] s) (F0 m 1156 ls []) := by
      intro S2 M2 ns2 H2 locs2 hV2 hns2 hP2 hD2 hS2
      refine lv_iinc (v := nI (6 * (k + 1))) (lv' := [(3, .int (nI (6 * (k + 1)))), (0, .ref b), (1, .ref (ad 0)), (2, .ref (ad 1))]) hx hb dL_law_1156 hl (k := 3) rfl (by rw [show Int32.ofInt 6 = nI 6 from rfl, nI_add]; rfl) (by decide) rfl (fun ls hl => ?_)
      refine lv_goto (tgt := 18) hx hb dL_law_1159 (by decide) ?_
      refine W.widen (k := 63 + 4 * (k + 1)) (n := 2703 + 16 * (k + 1)) (by omega) (by omega) ?_
      exact ih (k + 1) (by omega) (by omega) S2 M2 ns2 hV2 hns2 H2 locs2 hP2 hD2 hS2 ls (lv_sub hl [1, 2, 3, 0] rfl)
    refine lv_aload_n hx hb dL_law_27 rfl (lv_at hl 0 rfl) ?_
    refine lv_iload_n hx hb dL_law_28 rfl (lv_at hl 3 rfl) ?_
    refine l_sld (j := 6 * k) hx hb hX hbl hbA hS rfl (by omega) hL dL_law_29 ?_
    refine lv_bipush (v := 31) hx hb dL_law_30 (by decide) ?_
    refine lv_iand hx hb dL_law_32 ?_
    refine lv_topi (fun v hv => ?_)
    have hc4 : 63 + 4 * k + 4 ≤ 600000 := by omega
    have hs16 : 2703 + 16 * k + 16 ≤ 7302249 := by omega
    by_cases cs_0 : v = 0
    · refine lv_tableIn (tgt := 168) hx hb dL_law_33 (by rw [cs_0]; decide) (by rw [cs_0]; decide) (by rw [cs_0]; rfl) (by decide) ?_
      exact lc_row C hX hbl hL (hpu.1) (6 * k) hj hc4 hs16 S M ns hV hns _ _ ls hP hD hS hl KK
    · by_cases cs_1 : v = 1
      · refine lv_tableIn (tgt := 211) hx hb dL_law_33 (by rw [cs_1]; decide) (by rw [cs_1]; decide) (by rw [cs_1]; rfl) (by decide) ?_
        exact lc_set C hX hbl hL (hpu.2.1) (6 * k) hj hc4 hs16 S M ns hV hns _ _ ls hP hD hS hl KK
      · by_cases cs_2 : v = 2
        · refine lv_tableIn (tgt := 254) hx hb dL_law_33 (by rw [cs_2]; decide) (by rw [cs_2]; decide) (by rw [cs_2]; rfl) (by decide) ?_
          exact lc_copy C hX hbl hL (hpu.2.2.1) (6 * k) hj hc4 hs16 S M ns hV hns _ _ ls hP hD hS hl KK
        · by_cases cs_3 : v = 3
          · refine lv_tableIn (tgt := 317) hx hb dL_law_33 (by rw [cs_3]; decide) (by rw [cs_3]; decide) (by rw [cs_3]; rfl) (by decide) ?_
            exact lc_drop C hX hbl hL (hpu.2.2.2.1) (6 * k) hj hc4 hs16 S M ns hV hns _ _ ls hP hD hS hl KK
          · by_cases cs_4 : v = 4
            · refine lv_tableIn (tgt := 340) hx hb dL_law_33 (by rw [cs_4]; decide) (by rw [cs_4]; decide) (by rw [cs_4]; rfl) (by decide) ?_
              exact lc_feed C hX hbl hL (hpu.2.2.2.2.1) (6 * k) hj hc4 hs16 S M ns hV hns _ _ ls hP hD hS hl KK
            · by_cases cs_5 : v = 5
              · refine lv_tableIn (tgt := 363) hx hb dL_law_33 (by rw [cs_5]; decide) (by rw [cs_5]; decide) (by rw [cs_5]; rfl) (by decide) ?_
                exact lc_village C hX hbl hL (hpu.2.2.2.2.2.1) (6 * k) hj hc4 hs16 S M ns hV hns _ _ ls hP hD hS hl KK
              · by_cases cs_6 : v = 6
                · refine lv_tableIn (tgt := 376) hx hb dL_law_33 (by rw [cs_6]; decide) (by rw [cs_6]; decide) (by rw [cs_6]; rfl) (by decide) ?_
                  exact lc_fault C hX hbl hL (hpu.2.2.2.2.2.2.1) (6 * k) hj hc4 hs16 S M ns hV hns _ _ ls hP hD hS hl KK
                · by_cases cs_7 : v = 7
                  · refine lv_tableIn (tgt := 389) hx hb dL_law_33 (by rw [cs_7]; decide) (by rw [cs_7]; decide) (by rw [cs_7]; rfl) (by decide) ?_
                    exact lc_live C hX hbl hL (hpu.2.2.2.2.2.2.2.1) (6 * k) hj hc4 hs16 S M ns hV hns _ _ ls hP hD hS hl KK
                  · by_cases cs_8 : v = 8
                    · refine lv_tableIn (tgt := 412) hx hb dL_law_33 (by rw [cs_8]; decide) (by rw [cs_8]; decide) (by rw [cs_8]; rfl) (by decide) ?_
                      exact lc_again C hX hbl hL (hpu.2.2.2.2.2.2.2.2.1) (6 * k) hj hc4 hs16 S M ns hV hns _ _ ls hP hD hS hl KK
                    · by_cases cs_9 : v = 9
                      · refine lv_tableIn (tgt := 435) hx hb dL_law_33 (by rw [cs_9]; decide) (by rw [cs_9]; decide) (by rw [cs_9]; rfl) (by decide) ?_
                        exact lc_stand C hX hbl hL (hpu.2.2.2.2.2.2.2.2.2.1) (6 * k) hj hc4 hs16 S M ns hV hns _ _ ls hP hD hS hl KK
                      · by_cases cs_10 : v = 10
                        · refine lv_tableIn (tgt := 448) hx hb dL_law_33 (by rw [cs_10]; decide) (by rw [cs_10]; decide) (by rw [cs_10]; rfl) (by decide) ?_
                          exact lc_will C hX hbl hL (hpu.2.2.2.2.2.2.2.2.2.2.1) (6 * k) hj hc4 hs16 S M ns hV hns _ _ ls hP hD hS hl KK
                        · by_cases cs_11 : v = 11
                          · refine lv_tableIn (tgt := 481) hx hb dL_law_33 (by rw [cs_11]; decide) (by rw [cs_11]; decide) (by rw [cs_11]; rfl) (by decide) ?_
                            exact lc_undo C hX hbl hL (hpu.2.2.2.2.2.2.2.2.2.2.2.1) (6 * k) hj hc4 hs16 S M ns hV hns _ _ ls hP hD hS hl KK
                          · by_cases cs_12 : v = 12
                            · refine lv_tableIn (tgt := 494) hx hb dL_law_33 (by rw [cs_12]; decide) (by rw [cs_12]; decide) (by rw [cs_12]; rfl) (by decide) ?_
                              exact lc_person C hX hbl hL (hpu.2.2.2.2.2.2.2.2.2.2.2.2.1) (6 * k) hj hc4 hs16 S M ns hV hns _ _ ls hP hD hS hl KK
                            · by_cases cs_13 : v = 13
                              · refine lv_tableIn (tgt := 527) hx hb dL_law_33 (by rw [cs_13]; decide) (by rw [cs_13]; decide) (by rw [cs_13]; rfl) (by decide) ?_
                                exact lc_lives C hX hbl hL (hpu.2.2.2.2.2.2.2.2.2.2.2.2.2.1) (6 * k) hj hc4 hs16 S M ns hV hns _ _ ls hP hD hS hl KK
                              · by_cases cs_14 : v = 14
                                · refine lv_tableIn (tgt := 550) hx hb dL_law_33 (by rw [cs_14]; decide) (by rw [cs_14]; decide) (by rw [cs_14]; rfl) (by decide) ?_
                                  exact lc_lived C hX hbl hL (hpu.2.2.2.2.2.2.2.2.2.2.2.2.2.2.1) (6 * k) hj hc4 hs16 S M ns hV hns _ _ ls hP hD hS hl KK
                                · by_cases cs_15 : v = 15
                                  · refine lv_tableIn (tgt := 610) hx hb dL_law_33 (by rw [cs_15]; decide) (by rw [cs_15]; decide) (by rw [cs_15]; rfl) (by decide) ?_
                                    exact lc_mean C hX hbl hL (hpu.2.2.2.2.2.2.2.2.2.2.2.2.2.2.2.1) (6 * k) hj hc4 hs16 S M ns hV hns _ _ ls hP hD hS hl KK
                                  · by_cases cs_16 : v = 16
                                    · refine lv_tableIn (tgt := 670) hx hb dL_law_33 (by rw [cs_16]; decide) (by rw [cs_16]; decide) (by rw [cs_16]; rfl) (by decide) ?_
                                      exact lc_best C hX hbl hL (hpu.2.2.2.2.2.2.2.2.2.2.2.2.2.2.2.2.1) (6 * k) hj hc4 hs16 S M ns hV hns _ _ ls hP hD hS hl KK
                                    · by_cases cs_17 : v = 17
                                      · refine lv_tableIn (tgt := 703) hx hb dL_law_33 (by rw [cs_17]; decide) (by rw [cs_17]; decide) (by rw [cs_17]; rfl) (by decide) ?_
                                        exact lc_rests C hX hbl hL (hpu.2.2.2.2.2.2.2.2.2.2.2.2.2.2.2.2.2.1) (6 * k) hj hc4 hs16 S M ns hV hns _ _ ls hP hD hS hl KK
                                      · by_cases cs_18 : v = 18
                                        · refine lv_tableIn (tgt := 726) hx hb dL_law_33 (by rw [cs_18]; decide) (by rw [cs_18]; decide) (by rw [cs_18]; rfl) (by decide) ?_
                                          exact lc_worth C hX hbl hL (hpu.2.2.2.2.2.2.2.2.2.2.2.2.2.2.2.2.2.2.1) (6 * k) hj hc4 hs16 S M ns hV hns _ _ ls hP hD hS hl KK
                                        · by_cases cs_19 : v = 19
                                          · refine lv_tableIn (tgt := 786) hx hb dL_law_33 (by rw [cs_19]; decide) (by rw [cs_19]; decide) (by rw [cs_19]; rfl) (by decide) ?_
                                            exact lc_knows C hX hbl hL (hpu.2.2.2.2.2.2.2.2.2.2.2.2.2.2.2.2.2.2.2.1) (6 * k) hj hc4 hs16 S M ns hV hns _ _ ls hP hD hS hl KK
                                          · by_cases cs_20 : v = 20
                                            · refine lv_tableIn (tgt := 856) hx hb dL_law_33 (by rw [cs_20]; decide) (by rw [cs_20]; decide) (by rw [cs_20]; rfl) (by decide) ?_
                                              exact lc_often C hX hbl hL (hpu.2.2.2.2.2.2.2.2.2.2.2.2.2.2.2.2.2.2.2.2.1) (6 * k) hj hc4 hs16 S M ns hV hns _ _ ls hP hD hS hl KK
                                            · by_cases cs_21 : v = 21
                                              · refine lv_tableIn (tgt := 909) hx hb dL_law_33 (by rw [cs_21]; decide) (by rw [cs_21]; decide) (by rw [cs_21]; rfl) (by decide) ?_
                                                exact lc_gone C hX hbl hL (hpu.2.2.2.2.2.2.2.2.2.2.2.2.2.2.2.2.2.2.2.2.2.1) (6 * k) hj hc4 hs16 S M ns hV hns _ _ ls hP hD hS hl KK
                                              · by_cases cs_22 : v = 22
                                                · refine lv_tableIn (tgt := 962) hx hb dL_law_33 (by rw [cs_22]; decide) (by rw [cs_22]; decide) (by rw [cs_22]; rfl) (by decide) ?_
                                                  by_cases h0 : xs (6 * k + 1) = 0
                                                  · exact lc_image_0 C hX hbl hL (hpu.2.2.2.2.2.2.2.2.2.2.2.2.2.2.2.2.2.2.2.2.2.2.1) (6 * k) hj h0 hc4 hs16 S M ns hV hns _ _ ls hP hD hS hl KK
                                                  · by_cases h1 : xs (6 * k + 1) = 1
                                                    · exact lc_image_1 C hX hbl hL (hpu.2.2.2.2.2.2.2.2.2.2.2.2.2.2.2.2.2.2.2.2.2.2.2.1) (6 * k) hj h1 hc4 hs16 S M ns hV hns _ _ ls hP hD hS hl KK
                                                    · exact lc_image_o C hX hbl hL (hpu.2.2.2.2.2.2.2.2.2.2.2.2.2.2.2.2.2.2.2.2.2.2.2.2.1) (6 * k) hj h0 h1 hc4 hs16 S M ns hV hns _ _ ls hP hD hS hl KK
                                                · by_cases cs_23 : v = 23
                                                  · refine lv_tableIn (tgt := 985) hx hb dL_law_33 (by rw [cs_23]; decide) (by rw [cs_23]; decide) (by rw [cs_23]; rfl) (by decide) ?_
                                                    by_cases h0 : xs (6 * k + 1) = 0
                                                    · exact lc_restore_0 C hX hbl hL (hpu.2.2.2.2.2.2.2.2.2.2.2.2.2.2.2.2.2.2.2.2.2.2.2.2.2.1) (6 * k) hj h0 hc4 hs16 S M ns hV hns _ _ ls hP hD hS hl KK
                                                    · by_cases h1 : xs (6 * k + 1) = 1
                                                      · exact lc_restore_1 C hX hbl hL (hpu.2.2.2.2.2.2.2.2.2.2.2.2.2.2.2.2.2.2.2.2.2.2.2.2.2.2.1) (6 * k) hj h1 hc4 hs16 S M ns hV hns _ _ ls hP hD hS hl KK
                                                      · exact lc_restore_o C hX hbl hL (hpu.2.2.2.2.2.2.2.2.2.2.2.2.2.2.2.2.2.2.2.2.2.2.2.2.2.2.2.1) (6 * k) hj h0 h1 hc4 hs16 S M ns hV hns _ _ ls hP hD hS hl KK
                                                  · by_cases cs_24 : v = 24
                                                    · refine lv_tableIn (tgt := 1008) hx hb dL_law_33 (by rw [cs_24]; decide) (by rw [cs_24]; decide) (by rw [cs_24]; rfl) (by decide) ?_
                                                      exact lc_kind C hX hbl hL (hpu.2.2.2.2.2.2.2.2.2.2.2.2.2.2.2.2.2.2.2.2.2.2.2.2.2.2.2.2.1) (6 * k) hj hc4 hs16 S M ns hV hns _ _ ls hP hD hS hl KK
                                                    · by_cases cs_25 : v = 25
                                                      · refine lv_tableIn (tgt := 1031) hx hb dL_law_33 (by rw [cs_25]; decide) (by rw [cs_25]; decide) (by rw [cs_25]; rfl) (by decide) ?_
                                                        exact lc_as C hX hbl hL (hpu.2.2.2.2.2.2.2.2.2.2.2.2.2.2.2.2.2.2.2.2.2.2.2.2.2.2.2.2.2.1) (6 * k) hj hc4 hs16 S M ns hV hns _ _ ls hP hD hS hl KK
                                                      · by_cases cs_26 : v = 26
                                                        · refine lv_tableIn (tgt := 1064) hx hb dL_law_33 (by rw [cs_26]; decide) (by rw [cs_26]; decide) (by rw [cs_26]; rfl) (by decide) ?_
                                                          exact lc_ask C hX hbl hL (hpu.2.2.2.2.2.2.2.2.2.2.2.2.2.2.2.2.2.2.2.2.2.2.2.2.2.2.2.2.2.2.1) (6 * k) hj hc4 hs16 S M ns hV hns _ _ ls hP hD hS hl KK
                                                        · by_cases cs_27 : v = 27
                                                          · refine lv_tableIn (tgt := 1097) hx hb dL_law_33 (by rw [cs_27]; decide) (by rw [cs_27]; decide) (by rw [cs_27]; rfl) (by decide) ?_
                                                            exact lc_trace C hX hbl hL (hpu.2.2.2.2.2.2.2.2.2.2.2.2.2.2.2.2.2.2.2.2.2.2.2.2.2.2.2.2.2.2.2.1) (6 * k) hj hc4 hs16 S M ns hV hns _ _ ls hP hD hS hl KK
                                                          · by_cases cs_28 : v = 28
                                                            · refine lv_tableIn (tgt := 1120) hx hb dL_law_33 (by rw [cs_28]; decide) (by rw [cs_28]; decide) (by rw [cs_28]; rfl) (by decide) ?_
                                                              exact lc_count C hX hbl hL (hpu.2.2.2.2.2.2.2.2.2.2.2.2.2.2.2.2.2.2.2.2.2.2.2.2.2.2.2.2.2.2.2.2.1) (6 * k) hj hc4 hs16 S M ns hV hns _ _ ls hP hD hS hl KK
                                                            · by_cases cs_29 : v = 29
                                                              · refine lv_tableIn (tgt := 1143) hx hb dL_law_33 (by rw [cs_29]; decide) (by rw [cs_29]; decide) (by rw [cs_29]; rfl) (by decide) ?_
                                                                exact lc_status C hX hbl hL (hpu.2.2.2.2.2.2.2.2.2.2.2.2.2.2.2.2.2.2.2.2.2.2.2.2.2.2.2.2.2.2.2.2.2) (6 * k) hj hc4 hs16 S M ns hV hns _ _ ls hP hD hS hl KK
                                                              · refine lv_tableOut (tgt := 1156) hx hb dL_law_33 (sw_out (x := v) 30 (by decide) (fun k9 h9 => match k9, h9 with | 0, _ => cs_0 | 1, _ => cs_1 | 2, _ => cs_2 | 3, _ => cs_3 | 4, _ => cs_4 | 5, _ => cs_5 | 6, _ => cs_6 | 7, _ => cs_7 | 8, _ => cs_8 | 9, _ => cs_9 | 10, _ => cs_10 | 11, _ => cs_11 | 12, _ => cs_12 | 13, _ => cs_13 | 14, _ => cs_14 | 15, _ => cs_15 | 16, _ => cs_16 | 17, _ => cs_17 | 18, _ => cs_18 | 19, _ => cs_19 | 20, _ => cs_20 | 21, _ => cs_21 | 22, _ => cs_22 | 23, _ => cs_23 | 24, _ => cs_24 | 25, _ => cs_25 | 26, _ => cs_26 | 27, _ => cs_27 | 28, _ => cs_28 | 29, _ => cs_29 | k9 + 30, h9 => absurd h9 (by omega))) (by decide) ?_
                                                                refine W.widen (k := 63 + 4 * k + 4) (n := 2703 + 16 * k + 16) (by omega) (by omega) ?_
                                                                exact KK S M ns _ _ hV hns hP hD hS
theorem kw_start {s : State} {b : Nat} (hts : ∀ w ∈ lw_tbl, w.before #[Value.ref b] s = true) (hgv : (Jvm.Cond.and given_1 narrow_1).before #[Value.ref b] s = true) : ∃ (D : va_G) (cy : Nat → ClassId), KW D cy s := by
  have htb : ∀ w ∈ TB, w.before #[Value.ref b] s = true := fun w hw => hts w (TB_in w hw)
  obtain ⟨c0, i0, k0⟩ := u_known (C := RX0) (T := TX0) (N := 4) (n := 4) htb inTX0 (htb _ t2_77)
  obtain ⟨c1, i1, k1⟩ := u_known (C := RX1) (T := TX1) (N := 6) (n := 6) htb inTX1 (htb _ t1_127)
  obtain ⟨c2, i2, k2⟩ := u_known (C := RX2) (T := TX2) (N := 4) (n := 4) htb inTX2 (htb _ t2_104)
  obtain ⟨c3, i3, k3⟩ := u_known (C := RX4) (T := TX4) (N := 3) (n := 3) htb inTX4 (htb _ t1_27)
  obtain ⟨c4, i4, k4⟩ := u_known (C := RX5) (T := TX5) (N := 4) (n := 4) htb inTX5 (htb _ t2_115)
  obtain ⟨c5, i5, k5⟩ := u_known (C := RX6) (T := TX6) (N := 4) (n := 4) htb inTX6 (htb _ t2_137)
  obtain ⟨c6, i6, k6⟩ := u_known (C := RX7) (T := TX7) (N := 5) (n := 5) htb inTX7 (htb _ t1_49)
  obtain ⟨c7, i7, k7⟩ := u_known (C := RX8) (T := TX8) (N := 4) (n := 4) htb inTX8 (htb _ t1_157)
  obtain ⟨c8, i8, k8⟩ := u_known (C := RX9) (T := TX9) (N := 10) (n := 10) htb inTX9 (htb _ t1_77)
  obtain ⟨c9, i9, k9⟩ := u_known (C := RX10) (T := TX10) (N := 4) (n := 4) htb inTX10 (htb _ t2_126)
  obtain ⟨c10, i10, k10⟩ := u_known (C := RX11) (T := TX11) (N := 12) (n := 12) htb inTX11 (htb _ t1_19)
  obtain ⟨c11, i11, k11⟩ := u_known (C := RX12) (T := TX12) (N := 27) (n := 27) htb inTX12 (htb _ t4_118)
  obtain ⟨aI, kI, pI, fI, gI, hI⟩ := Cond.arrayClass_spec (htb _ t1_47)
  obtain ⟨aJ, kJ, pJ, fJ, gJ, hJ⟩ := Cond.arrayClass_spec (htb _ t1_155)
  obtain ⟨aZ, kZ, pZ, fZ, gZ, hZ⟩ := Cond.arrayClass_spec (htb _ t4_206)
  have oP := hts _ t1_55
  have oV := hts _ t1_125
  have oA := hts _ t1_33
  obtain ⟨pP, aP, kP, fP, -, gP, hP, eP⟩ := Cond.arrayOver_spec oP
  obtain ⟨pV, aV, kV, fV, -, gV, hV, eV⟩ := Cond.arrayOver_spec oV
  obtain ⟨pA, aA, kA, fA, -, gA, hA, eA⟩ := Jvm.Stand.arrayOver_specB oA
  refine ⟨(fun k => if k = 0 then c0 else if k = 1 then c1 else if k = 2 then c2 else if k = 3 then c3 else if k = 4 then c4 else if k = 5 then c5 else if k = 6 then c6 else if k = 7 then c7 else if k = 8 then c8 else if k = 9 then c9 else if k = 10 then c10 else c11, fun k => if k = 0 then i0 else if k = 1 then i1 else if k = 2 then i2 else if k = 3 then i3 else if k = 4 then i4 else if k = 5 then i5 else if k = 6 then i6 else if k = 7 then i7 else if k = 8 then i8 else if k = 9 then i9 else if k = 10 then i10 else i11), (fun k => if k = 0 then aI else if k = 1 then aJ else if k = 2 then aZ else if k = 3 then aP else if k = 4 then aV else aA), ⟨fun k q hq => ?_, fun k q hq => ?_⟩, fun q hq => ?_, fun q hq => ?_, fun x hx => ?_, fun q hq => ?_, fun C hC => ?_, oA⟩
  · match k, hq with
    | 0, hq => cases hq; exact k0
    | 1, hq => cases hq; exact k1
    | 2, hq => cases hq; exact k2
    | 3, hq => cases hq; exact k3
    | 4, hq => cases hq; exact k4
    | 5, hq => cases hq; exact k5
    | 6, hq => cases hq; exact k6
    | 7, hq => cases hq; exact k7
    | 8, hq => cases hq; exact k8
    | 9, hq => cases hq; exact k9
    | 10, hq => cases hq; exact k10
    | 11, hq => cases hq; exact k11
    | k + 12, hq => simp [CL] at hq
  · match k, hq with
    | 0, hq => cases hq; exact ⟨fun n z => ⟨fun k h => (by cases h), kI, gI, pI, hI⟩, fI⟩
    | 1, hq => cases hq; exact ⟨fun n z => ⟨fun k h => (by cases h), kJ, gJ, pJ, hJ⟩, fJ⟩
    | 2, hq => cases hq; exact ⟨fun n z => ⟨fun k h => (by cases h), kZ, gZ, pZ, hZ⟩, fZ⟩
    | 3, hq => cases hq; exact ⟨fun n z => ⟨fun k h => (by cases h), kP, gP, pP, hP⟩, kP, pP, gP, hP, fP, eP⟩
    | 4, hq => cases hq; exact ⟨fun n z => ⟨fun k h => (by cases h), kV, gV, pV, hV⟩, kV, pV, gV, hV, fV, eV⟩
    | 5, hq => cases hq; exact ⟨fun n z => ⟨fun k h => (by cases h), kA, gA, pA, hA⟩, eA⟩
    | k + 6, hq => simp [TYS] at hq
  · simp only [NWs, List.mem_cons, List.not_mem_nil, or_false] at hq
    rcases hq with rfl | rfl | rfl | rfl | rfl | rfl | rfl | rfl
    · exact va_Nw.of rfl (hts _ t6_21)
    · exact va_Nw.of rfl (hts _ t6_22)
    · exact va_Nw.of rfl (hts _ t6_23)
    · exact va_Nw.of rfl (hts _ t6_24)
    · exact va_Nw.of rfl (hts _ t6_25)
    · exact va_Nw.of rfl (hts _ t6_26)
    · exact va_Nw.of rfl (hts _ t6_27)
    · exact va_Nw.of rfl (hts _ t6_28)
  · have hs := flat_of_before _ hgv
    simp only [NCs, List.mem_cons, List.not_mem_nil, or_false] at hq
    rcases hq with rfl | rfl | rfl | rfl | rfl | rfl | rfl | rfl | rfl | rfl | rfl | rfl | rfl | rfl | rfl | rfl | rfl
    · exact va_Nc.of (hs (.not (.castable "LivedAgain$Farmer" "LivedAgain$Gambler")) (by decide +kernel))
    · exact va_Nc.of (hs (.not (.castable "LivedAgain$Farmer" "LivedAgain$Saint")) (by decide +kernel))
    · exact va_Nc.of (hs (.not (.castable "LivedAgain$Farmer" "LivedAgain$Widow")) (by decide +kernel))
    · exact va_Nc.of (hs (.not (.castable "LivedAgain$Farmer" "LivedAgain$Stranger")) (by decide +kernel))
    · exact va_Nc.of (hs (.not (.castable "LivedAgain$Gambler" "LivedAgain$Saint")) (by decide +kernel))
    · exact va_Nc.of (hs (.not (.castable "LivedAgain$Gambler" "LivedAgain$Widow")) (by decide +kernel))
    · exact va_Nc.of (hs (.not (.castable "LivedAgain$Gambler" "LivedAgain$Stranger")) (by decide +kernel))
    · exact va_Nc.of (hs (.not (.castable "LivedAgain$Saint" "LivedAgain$Gambler")) (by decide +kernel))
    · exact va_Nc.of (hs (.not (.castable "LivedAgain$Saint" "LivedAgain$Widow")) (by decide +kernel))
    · exact va_Nc.of (hs (.not (.castable "LivedAgain$Saint" "LivedAgain$Stranger")) (by decide +kernel))
    · exact va_Nc.of (hs (.not (.castable "LivedAgain$Widow" "LivedAgain$Farmer")) (by decide +kernel))
    · exact va_Nc.of (hs (.not (.castable "LivedAgain$Widow" "LivedAgain$Gambler")) (by decide +kernel))
    · exact va_Nc.of (hs (.not (.castable "LivedAgain$Widow" "LivedAgain$Saint")) (by decide +kernel))
    · exact va_Nc.of (hs (.not (.castable "LivedAgain$Widow" "LivedAgain$Stranger")) (by decide +kernel))
    · exact va_Nc.of (hs (.not (.castable "LivedAgain$Stranger" "LivedAgain$Farmer")) (by decide +kernel))
    · exact va_Nc.of (hs (.not (.castable "LivedAgain$Stranger" "LivedAgain$Gambler")) (by decide +kernel))
    · exact va_Nc.of (hs (.not (.castable "LivedAgain$Stranger" "LivedAgain$Saint")) (by decide +kernel))
  · simp only [NDs, List.mem_cons, List.not_mem_nil, or_false] at hx
    rcases hx with rfl | rfl
    · exact va_Nw.of rfl (hts _ t3_29)
    · exact va_Nw.of rfl (hts _ t4_7)
  · simp only [NMs, List.mem_cons, List.not_mem_nil, or_false] at hq
    rcases hq with rfl | rfl | rfl | rfl
    · exact va_Nw.of rfl (hts _ t1_50)
    · exact va_Nw.of rfl (hts _ t1_78)
    · exact va_Nw.of rfl (hts _ t1_128)
    · exact va_Nw.of rfl (hts _ t1_158)
  · simp only [NOs, List.mem_cons, List.not_mem_nil, or_false] at hC
    rcases hC with rfl | rfl
    · exact va_AO.of oP
    · exact va_AO.of oV
