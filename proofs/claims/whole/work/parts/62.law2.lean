set_option maxHeartbeats 8000000 in
set_option maxRecDepth 100000 in
theorem lc_best {p : Program} {l : Launch} {e : Env} {s : State} {m : MethodId} {below : List Frame} {meth : Method} {c : Code} {D : va_G} {cy : Nat → ClassId} {b L : Nat} {xs : Nat → Int32} {ad rr : Nat → Nat} {Q : State → Prop} {Inv : CS → MS → NS → Prop} (C : Cx p s m #[Value.ref b] meth c (miL meth) D cy) (hX : va_X b L xs s s.heap) (hbl : b < s.heap.size) (hL : L ≤ 384) (hpu : Pu_best Inv) (j : Nat) (hj : j + 6 ≤ L) {cells slots : Nat} (hc4 : cells + 4 ≤ 600000) (hs16 : slots + 16 ≤ 7302249) (S : CS) (M : MS) (ns : NS) (hV : Inv S M ns) (hns : NSok ns) (H : Heap) (locs : List Loc) (ls : Array Slot) (hP : va_P D CL (LW cy ad rr S M ++ nsW ns) H) (hD : va_D (fun q : Nat => s.heap.size ≤ q) (LW cy ad rr S M ++ nsW ns)) (hS : va_S (fun q : Nat => s.heap.size ≤ q) s.heap H locs) (hl : lv_has ls 4 [(0, .ref b), (1, .ref (ad 0)), (2, .ref (ad 1)), (3, .int (nI j))]) (kk : ∀ (S2 : CS) (M2 : MS) (ns2 : NS) (H2 : Heap) (locs2 : List Loc), Inv S2 M2 ns2 → NSok ns2 → va_P D CL (LW cy ad rr S2 M2 ++ nsW ns2) H2 → va_D (fun q : Nat => s.heap.size ≤ q) (LW cy ad rr S2 M2 ++ nsW ns2) → va_S (fun q : Nat => s.heap.size ≤ q) s.heap H2 locs2 → W p l e room_1 s m #[Value.ref b] below meth c H2 locs2 (cells + 4) (slots + 16) Q (F0 m 1156 ls [])) : W p l e room_1 s m #[Value.ref b] below meth c H locs cells slots Q (F0 m 670 ls []) := by
  obtain ⟨hx, hb, hr, hml, hown, hts, hK, hlk, hnm⟩ := id C
  have hb : c.code = cL_law := hb
  have hA : ∀ q : Nat, s.heap.size ≤ q → (fun q : Nat => s.heap.size ≤ q) q := fun _ h => h
  have hbA : ¬ (fun q : Nat => s.heap.size ≤ q) b := Nat.not_le.mpr hbl
  have hc0 : cells ≤ 600000 := by omega
  have hs0 : slots ≤ 7302249 := by omega
  have hF := hpu S M ns hV (xs (j + 1)) (xs (j + 2))
  refine lv_aload_n hx hb dL_law_670 rfl (lv_at hl 1 rfl) ?_
  refine lv_aload_n hx hb dL_law_671 rfl (lv_at hl 0 rfl) ?_
  refine lv_iload_n hx hb dL_law_672 rfl (lv_at hl 3 rfl) ?_
  refine lv_iconst (v := 1) hx hb dL_law_673 (by decide) ?_
  refine lv_iadd hx hb dL_law_674 ?_
  refine l_sld (j := j + 1) hx hb hX hbl hbA hS (nI_add j 1) (by omega) hL dL_law_675 ?_
  refine lv_aload_n hx hb dL_law_676 rfl (lv_at hl 0 rfl) ?_
  refine lv_iload_n hx hb dL_law_677 rfl (lv_at hl 3 rfl) ?_
  refine lv_iconst (v := 2) hx hb dL_law_678 (by decide) ?_
  refine lv_iadd hx hb dL_law_679 ?_
  refine l_sld (j := j + 2) hx hb hX hbl hbA hS (nI_add j 2) (by omega) hL dL_law_680 ?_
  refine cV_tt (T := nsW ns) (As := [.int (xs (j + 1)), .int (xs (j + 2))]) (wr := pick (LW cy ad rr S M) [1, 3, 5, 6, 8, 9, 11, 13, 14, 16, 17, 18, 19, 20, 21, 22, 23, 24, 25, 26, 27, 28, 29, 30, 31, 32, 37, 38, 39, 40, 41, 42, 43, 44, 45, 46, 47, 48, 49, 50, 51, 52, 53, 54]) C hA hP hD hS mfX11_best t3_137 t3_138 t3_136 (ccX11_best l D cy (pN ns) (ad 0) (ad 4) (ad 15) (ad 2) (ad 12) (ad 10) (ad 7) (ad 33) (ad 34) (ad 35) (ad 36) rr (.ref (ad 3)) (.ref (ad 5)) (.ref (ad 6)) (.ref (ad 8)) (.ref (ad 9)) (.ref (ad 16)) (.ref (ad 17)) (.ref (ad 18)) (.ref (ad 11)) (.ref (ad 37)) S.1.1 S.1.2.1 S.1.2.2.1 S.1.2.2.2 S.2.2.2.1.1 S.2.2.2.1.2.1 S.2.2.2.1.2.2.1 S.2.2.2.1.2.2.2.1 S.2.2.2.1.2.2.2.2.1 S.2.2.2.1.2.2.2.2.2.1 S.2.2.2.1.2.2.2.2.2.2.1 S.2.1.2.2 S.2.1.1 S.2.2.2.2.2.2.2.1.1 S.2.2.2.2.2.2.2.1.2.1 S.2.2.2.2.2.2.2.1.2.2.1 S.2.2.2.2.2.2.2.1.2.2.2.1 S.2.2.2.2.2.2.2.1.2.2.2.2.1 (xs (j + 1)) (xs (j + 2)) _ hF) [0, 4, 15, 2, 12, 10, 7, 33, 34, 35, 36, 55, 56, 57, 58, 59, 60, 61, 62] [1, 3, 5, 6, 8, 9, 11, 13, 14, 16, 17, 18, 19, 20, 21, 22, 23, 24, 25, 26, 27, 28, 29, 30, 31, 32, 37, 38, 39, 40, 41, 42, 43, 44, 45, 46, 47, 48, 49, 50, 51, 52, 53, 54] rfl rfl (by decide) (by decide) (by decide) (po_tail hP hD hns [0, 4, 15, 2, 12, 10, 7, 33, 34, 35, 36, 55, 56, 57, 58, 59, 60, 61, 62] rfl) 0 10 rfl rfl rfl rfl hl.1 rfl (Nat.le_of_ble_eq_true rfl) dL_law_681 ⟨Nat.le_of_ble_eq_true rfl, Nat.le_of_ble_eq_true rfl⟩ ⟨hc0, hs0⟩ ?_
  rintro r w1 H locs ⟨w_x_latestFinding, w_x_foretelling_habits, w_x_foretelling_byLives, w_x_foretelling_brought, w_x_foretelling_reached, rfl, hF⟩ hP - hS
  have hP : va_P D CL (LW cy ad rr ((S.1.1, S.1.2.1, S.1.2.2.1, w_x_latestFinding), S.2.1, S.2.2.1, S.2.2.2.1, S.2.2.2.2.1, S.2.2.2.2.2.1, S.2.2.2.2.2.2.1, (S.2.2.2.2.2.2.2.1.1, w_x_foretelling_habits, w_x_foretelling_byLives, w_x_foretelling_brought, w_x_foretelling_reached, S.2.2.2.2.2.2.2.1.2.2.2.2.2), S.2.2.2.2.2.2.2.2.1, S.2.2.2.2.2.2.2.2.2) M ++ nsW ns) H := inpl_P [0, 4, 15, 2, 12, 10, 7, 33, 34, 35, 36, 55, 56, 57, 58, 59, 60, 61, 62] [1, 3, 5, 6, 8, 9, 11, 13, 14, 16, 17, 18, 19, 20, 21, 22, 23, 24, 25, 26, 27, 28, 29, 30, 31, 32, 37, 38, 39, 40, 41, 42, 43, 44, 45, 46, 47, 48, 49, 50, 51, 52, 53, 54] 63 rfl (by decide +kernel) rfl rfl hP
  have hD : va_D (fun q : Nat => s.heap.size ≤ q) (LW cy ad rr ((S.1.1, S.1.2.1, S.1.2.2.1, w_x_latestFinding), S.2.1, S.2.2.1, S.2.2.2.1, S.2.2.2.2.1, S.2.2.2.2.2.1, S.2.2.2.2.2.2.1, (S.2.2.2.2.2.2.2.1.1, w_x_foretelling_habits, w_x_foretelling_byLives, w_x_foretelling_brought, w_x_foretelling_reached, S.2.2.2.2.2.2.2.1.2.2.2.2.2), S.2.2.2.2.2.2.2.2.1, S.2.2.2.2.2.2.2.2.2) M ++ nsW ns) := LW_D hD
  refine W.eq (g2 := F0 m 684 ls [.int r]) rfl ?_
  refine lv_aload_n hx hb dL_law_684 rfl (lv_at hl 2 rfl) ?_
  refine lv_aload_n hx hb dL_law_685 rfl (lv_at hl 0 rfl) ?_
  refine lv_iload_n hx hb dL_law_686 rfl (lv_at hl 3 rfl) ?_
  refine lv_iconst (v := 1) hx hb dL_law_687 (by decide) ?_
  refine lv_iadd hx hb dL_law_688 ?_
  refine l_sld (j := j + 1) hx hb hX hbl hbA hS (nI_add j 1) (by omega) hL dL_law_689 ?_
  refine lv_aload_n hx hb dL_law_690 rfl (lv_at hl 0 rfl) ?_
  refine lv_iload_n hx hb dL_law_691 rfl (lv_at hl 3 rfl) ?_
  refine lv_iconst (v := 2) hx hb dL_law_692 (by decide) ?_
  refine lv_iadd hx hb dL_law_693 ?_
  refine l_sld (j := j + 2) hx hb hX hbl hbA hS (nI_add j 2) (by omega) hL dL_law_694 ?_
  refine cV_tt (T := nsW ns) (As := [.int (xs (j + 1)), .int (xs (j + 2))]) (wr := pick (LW cy ad rr ((S.1.1, S.1.2.1, S.1.2.2.1, w_x_latestFinding), S.2.1, S.2.2.1, S.2.2.2.1, S.2.2.2.2.1, S.2.2.2.2.2.1, S.2.2.2.2.2.2.1, (S.2.2.2.2.2.2.2.1.1, w_x_foretelling_habits, w_x_foretelling_byLives, w_x_foretelling_brought, w_x_foretelling_reached, S.2.2.2.2.2.2.2.1.2.2.2.2.2), S.2.2.2.2.2.2.2.2.1, S.2.2.2.2.2.2.2.2.2) M) [0, 2, 3, 4, 5, 6, 7, 8, 9, 10, 11, 12, 13, 14, 15, 16, 17, 18, 19, 20, 21, 22, 23, 24, 25, 26, 27, 28, 29, 30, 31, 32, 33, 34, 35, 36, 37, 38, 42, 43, 45, 46, 47, 48, 49, 50, 55, 56, 57, 58, 59, 60, 61, 62]) C hA hP hD hS mfX12_best t5_159 t5_160 t5_158 (ccX12_best l D cy (ad 1) (ad 44) (ad 39) (ad 40) (ad 54) (ad 41) (ad 51) (ad 52) (ad 53) (.ref (ad 42)) (.ref (ad 43)) (.ref (ad 45)) (.ref (ad 46)) (.ref (ad 47)) (.ref (ad 48)) (.ref (ad 49)) (.ref (ad 50)) M.1.1 M.1.2.1 M.1.2.2.1 M.1.2.2.2.1 M.1.2.2.2.2.1 M.1.2.2.2.2.2.1 M.1.2.2.2.2.2.2.1 M.1.2.2.2.2.2.2.2.1 M.1.2.2.2.2.2.2.2.2.1 M.1.2.2.2.2.2.2.2.2.2.1 M.1.2.2.2.2.2.2.2.2.2.2 M.2.1.2.2.2.2.2.1 M.2.1.1 M.2.1.2.1 M.2.1.2.2.2.2.2.2.2.2.2.2.2.2 M.2.1.2.2.1 M.2.2.1 M.2.2.2.1 M.2.2.2.2 (xs (j + 1)) (xs (j + 2)) _ hF) [1, 44, 39, 40, 54, 41, 51, 52, 53] [0, 2, 3, 4, 5, 6, 7, 8, 9, 10, 11, 12, 13, 14, 15, 16, 17, 18, 19, 20, 21, 22, 23, 24, 25, 26, 27, 28, 29, 30, 31, 32, 33, 34, 35, 36, 37, 38, 42, 43, 45, 46, 47, 48, 49, 50, 55, 56, 57, 58, 59, 60, 61, 62] rfl rfl (by decide) (by decide) (by decide) PO.np 1 11 rfl rfl rfl rfl hl.1 rfl (Nat.le_of_ble_eq_true rfl) dL_law_695 ⟨Nat.le_of_ble_eq_true rfl, Nat.le_of_ble_eq_true rfl⟩ ⟨hc0, hs0⟩ ?_
  rintro r2 w1 H locs ⟨w_m_status, w_m_habit, w_m_comes, w_m_standing, w_m_brought, rfl, hF⟩ hP - hS
  have hP : va_P D CL (LW cy ad rr ((S.1.1, S.1.2.1, S.1.2.2.1, w_x_latestFinding), S.2.1, S.2.2.1, S.2.2.2.1, S.2.2.2.2.1, S.2.2.2.2.2.1, S.2.2.2.2.2.2.1, (S.2.2.2.2.2.2.2.1.1, w_x_foretelling_habits, w_x_foretelling_byLives, w_x_foretelling_brought, w_x_foretelling_reached, S.2.2.2.2.2.2.2.1.2.2.2.2.2), S.2.2.2.2.2.2.2.2.1, S.2.2.2.2.2.2.2.2.2) ((w_m_status, M.1.2.1, M.1.2.2.1, M.1.2.2.2.1, M.1.2.2.2.2.1, M.1.2.2.2.2.2.1, M.1.2.2.2.2.2.2.1, M.1.2.2.2.2.2.2.2.1, M.1.2.2.2.2.2.2.2.2.1, M.1.2.2.2.2.2.2.2.2.2.1, M.1.2.2.2.2.2.2.2.2.2.2), (M.2.1.1, M.2.1.2.1, M.2.1.2.2.1, M.2.1.2.2.2.1, M.2.1.2.2.2.2.1, M.2.1.2.2.2.2.2.1, M.2.1.2.2.2.2.2.2.1, M.2.1.2.2.2.2.2.2.2.1, M.2.1.2.2.2.2.2.2.2.2.1, M.2.1.2.2.2.2.2.2.2.2.2.1, M.2.1.2.2.2.2.2.2.2.2.2.2.1, M.2.1.2.2.2.2.2.2.2.2.2.2.2.1, w_m_habit), (w_m_comes, w_m_standing, w_m_brought)) ++ nsW ns) H := inpl_P [1, 44, 39, 40, 54, 41, 51, 52, 53] [0, 2, 3, 4, 5, 6, 7, 8, 9, 10, 11, 12, 13, 14, 15, 16, 17, 18, 19, 20, 21, 22, 23, 24, 25, 26, 27, 28, 29, 30, 31, 32, 33, 34, 35, 36, 37, 38, 42, 43, 45, 46, 47, 48, 49, 50, 55, 56, 57, 58, 59, 60, 61, 62] 63 rfl (by decide +kernel) rfl rfl hP
  have hD : va_D (fun q : Nat => s.heap.size ≤ q) (LW cy ad rr ((S.1.1, S.1.2.1, S.1.2.2.1, w_x_latestFinding), S.2.1, S.2.2.1, S.2.2.2.1, S.2.2.2.2.1, S.2.2.2.2.2.1, S.2.2.2.2.2.2.1, (S.2.2.2.2.2.2.2.1.1, w_x_foretelling_habits, w_x_foretelling_byLives, w_x_foretelling_brought, w_x_foretelling_reached, S.2.2.2.2.2.2.2.1.2.2.2.2.2), S.2.2.2.2.2.2.2.2.1, S.2.2.2.2.2.2.2.2.2) ((w_m_status, M.1.2.1, M.1.2.2.1, M.1.2.2.2.1, M.1.2.2.2.2.1, M.1.2.2.2.2.2.1, M.1.2.2.2.2.2.2.1, M.1.2.2.2.2.2.2.2.1, M.1.2.2.2.2.2.2.2.2.1, M.1.2.2.2.2.2.2.2.2.2.1, M.1.2.2.2.2.2.2.2.2.2.2), (M.2.1.1, M.2.1.2.1, M.2.1.2.2.1, M.2.1.2.2.2.1, M.2.1.2.2.2.2.1, M.2.1.2.2.2.2.2.1, M.2.1.2.2.2.2.2.2.1, M.2.1.2.2.2.2.2.2.2.1, M.2.1.2.2.2.2.2.2.2.2.1, M.2.1.2.2.2.2.2.2.2.2.2.1, M.2.1.2.2.2.2.2.2.2.2.2.2.1, M.2.1.2.2.2.2.2.2.2.2.2.2.2.1, w_m_habit), (w_m_comes, w_m_standing, w_m_brought)) ++ nsW ns) := LW_D hD
  refine W.eq (g2 := F0 m 698 ls [.int r2, .int r]) rfl ?_
  refine lv_icmp_eq (tgt := 1156) hx hb dL_law_698 (by decide) (fun _ => ?_) (fun c9 => absurd hF.1 c9)
  refine W.widen (k := cells + 4) (n := slots + 16) (Nat.le_add_right _ 4) (Nat.le_add_right _ 16) ?_
  exact kk ((S.1.1, S.1.2.1, S.1.2.2.1, w_x_latestFinding), S.2.1, S.2.2.1, S.2.2.2.1, S.2.2.2.2.1, S.2.2.2.2.2.1, S.2.2.2.2.2.2.1, (S.2.2.2.2.2.2.2.1.1, w_x_foretelling_habits, w_x_foretelling_byLives, w_x_foretelling_brought, w_x_foretelling_reached, S.2.2.2.2.2.2.2.1.2.2.2.2.2), S.2.2.2.2.2.2.2.2.1, S.2.2.2.2.2.2.2.2.2) ((w_m_status, M.1.2.1, M.1.2.2.1, M.1.2.2.2.1, M.1.2.2.2.2.1, M.1.2.2.2.2.2.1, M.1.2.2.2.2.2.2.1, M.1.2.2.2.2.2.2.2.1, M.1.2.2.2.2.2.2.2.2.1, M.1.2.2.2.2.2.2.2.2.2.1, M.1.2.2.2.2.2.2.2.2.2.2), (M.2.1.1, M.2.1.2.1, M.2.1.2.2.1, M.2.1.2.2.2.1, M.2.1.2.2.2.2.1, M.2.1.2.2.2.2.2.1, M.2.1.2.2.2.2.2.2.1, M.2.1.2.2.2.2.2.2.2.1, M.2.1.2.2.2.2.2.2.2.2.1, M.2.1.2.2.2.2.2.2.2.2.2.1, M.2.1.2.2.2.2.2.2.2.2.2.2.1, M.2.1.2.2.2.2.2.2.2.2.2.2.2.1, w_m_habit), (w_m_comes, w_m_standing, w_m_brought)) ns _ _ hF.2 hns hP hD hS

set_option maxHeartbeats 8000000 in
set_option maxRecDepth 100000 in
theorem lc_rests {p : Program} {l : Launch} {e : Env} {s : State} {m : MethodId} {below : List Frame} {meth : Method} {c : Code} {D : va_G} {cy : Nat → ClassId} {b L : Nat} {xs : Nat → Int32} {ad rr : Nat → Nat} {Q : State → Prop} {Inv : CS → MS → NS → Prop} (C : Cx p s m #[Value.ref b] meth c (miL meth) D cy) (hX : va_X b L xs s s.heap) (hbl : b < s.heap.size) (hL : L ≤ 384) (hpu : Pu_rests Inv) (j : Nat) (hj : j + 6 ≤ L) {cells slots : Nat} (hc4 : cells + 4 ≤ 600000) (hs16 : slots + 16 ≤ 7302249) (S : CS) (M : MS) (ns : NS) (hV : Inv S M ns) (hns : NSok ns) (H : Heap) (locs : List Loc) (ls : Array Slot) (hP : va_P D CL (LW cy ad rr S M ++ nsW ns) H) (hD : va_D (fun q : Nat => s.heap.size ≤ q) (LW cy ad rr S M ++ nsW ns)) (hS : va_S (fun q : Nat => s.heap.size ≤ q) s.heap H locs) (hl : lv_has ls 4 [(0, .ref b), (1, .ref (ad 0)), (2, .ref (ad 1)), (3, .int (nI j))]) (kk : ∀ (S2 : CS) (M2 : MS) (ns2 : NS) (H2 : Heap) (locs2 : List Loc), Inv S2 M2 ns2 → NSok ns2 → va_P D CL (LW cy ad rr S2 M2 ++ nsW ns2) H2 → va_D (fun q : Nat => s.heap.size ≤ q) (LW cy ad rr S2 M2 ++ nsW ns2) → va_S (fun q : Nat => s.heap.size ≤ q) s.heap H2 locs2 → W p l e room_1 s m #[Value.ref b] below meth c H2 locs2 (cells + 4) (slots + 16) Q (F0 m 1156 ls [])) : W p l e room_1 s m #[Value.ref b] below meth c H locs cells slots Q (F0 m 703 ls []) := by
  obtain ⟨hx, hb, hr, hml, hown, hts, hK, hlk, hnm⟩ := id C
  have hb : c.code = cL_law := hb
  have hA : ∀ q : Nat, s.heap.size ≤ q → (fun q : Nat => s.heap.size ≤ q) q := fun _ h => h
  have hbA : ¬ (fun q : Nat => s.heap.size ≤ q) b := Nat.not_le.mpr hbl
  have hc0 : cells ≤ 600000 := by omega
  have hs0 : slots ≤ 7302249 := by omega
  have hF := hpu S M ns hV (xs (j + 1))
  refine lv_aload_n hx hb dL_law_703 rfl (lv_at hl 1 rfl) ?_
  refine lv_aload_n hx hb dL_law_704 rfl (lv_at hl 0 rfl) ?_
  refine lv_iload_n hx hb dL_law_705 rfl (lv_at hl 3 rfl) ?_
  refine lv_iconst (v := 1) hx hb dL_law_706 (by decide) ?_
  refine lv_iadd hx hb dL_law_707 ?_
  refine l_sld (j := j + 1) hx hb hX hbl hbA hS (nI_add j 1) (by omega) hL dL_law_708 ?_
  refine cV_tt (T := nsW ns) (As := [.int (xs (j + 1))]) (wr := pick (LW cy ad rr S M) [1, 2, 3, 5, 6, 8, 9, 10, 11, 12, 13, 14, 16, 17, 18, 19, 20, 21, 22, 23, 24, 25, 26, 27, 28, 29, 30, 31, 32, 38, 39, 40, 41, 42, 43, 44, 45, 46, 47, 48, 49, 50, 51, 52, 53, 54, 55, 56, 57, 58, 59, 60, 61, 62]) C hA hP hD hS mfX11_rests t3_146 t3_147 t3_145 (ccX11_rests l D cy (pN ns) (ad 0) (ad 4) (ad 7) (ad 37) (ad 34) (ad 35) (ad 36) (ad 15) (ad 33) (.ref (ad 2)) (.ref (ad 3)) (.ref (ad 5)) (.ref (ad 6)) (.ref (ad 8)) (.ref (ad 9)) (.ref (ad 16)) (.ref (ad 17)) (.ref (ad 18)) S.1.1 S.1.2.1 S.1.2.2.1 S.1.2.2.2 S.2.2.2.1.1 S.2.2.2.1.2.1 S.2.2.2.1.2.2.1 S.2.2.2.1.2.2.2.1 S.2.2.2.1.2.2.2.2.1 S.2.2.2.1.2.2.2.2.2.1 S.2.2.2.2.2.2.2.1.1 S.2.2.2.2.2.2.2.1.2.2.2.2.2 S.2.2.2.2.2.2.2.1.2.2.1 S.2.2.2.2.2.2.2.1.2.2.2.1 S.2.2.2.2.2.2.2.1.2.2.2.2.1 S.2.2.2.1.2.2.2.2.2.2.1 S.2.2.2.2.2.2.2.1.2.1 (xs (j + 1)) _ hF) [0, 4, 7, 37, 34, 35, 36, 15, 33] [1, 2, 3, 5, 6, 8, 9, 10, 11, 12, 13, 14, 16, 17, 18, 19, 20, 21, 22, 23, 24, 25, 26, 27, 28, 29, 30, 31, 32, 38, 39, 40, 41, 42, 43, 44, 45, 46, 47, 48, 49, 50, 51, 52, 53, 54, 55, 56, 57, 58, 59, 60, 61, 62] rfl rfl (by decide) (by decide) (by decide) (po_tail hP hD hns [0, 4, 7, 37, 34, 35, 36, 15, 33] rfl) 0 10 rfl rfl rfl rfl hl.1 rfl (Nat.le_of_ble_eq_true rfl) dL_law_709 ⟨Nat.le_of_ble_eq_true rfl, Nat.le_of_ble_eq_true rfl⟩ ⟨hc0, hs0⟩ ?_
  rintro r w1 H locs ⟨w_x_foretelling_firstRest, w_x_foretelling_means, w_x_foretelling_byLives, w_x_foretelling_brought, w_x_foretelling_reached, w_x_foretelling_habits, rfl, hF⟩ hP - hS
  have hP : va_P D CL (LW cy ad rr (S.1, S.2.1, S.2.2.1, S.2.2.2.1, S.2.2.2.2.1, S.2.2.2.2.2.1, S.2.2.2.2.2.2.1, (w_x_foretelling_firstRest, w_x_foretelling_habits, w_x_foretelling_byLives, w_x_foretelling_brought, w_x_foretelling_reached, w_x_foretelling_means), S.2.2.2.2.2.2.2.2.1, S.2.2.2.2.2.2.2.2.2) M ++ nsW ns) H := inpl_P [0, 4, 7, 37, 34, 35, 36, 15, 33] [1, 2, 3, 5, 6, 8, 9, 10, 11, 12, 13, 14, 16, 17, 18, 19, 20, 21, 22, 23, 24, 25, 26, 27, 28, 29, 30, 31, 32, 38, 39, 40, 41, 42, 43, 44, 45, 46, 47, 48, 49, 50, 51, 52, 53, 54, 55, 56, 57, 58, 59, 60, 61, 62] 63 rfl (by decide +kernel) rfl rfl hP
  have hD : va_D (fun q : Nat => s.heap.size ≤ q) (LW cy ad rr (S.1, S.2.1, S.2.2.1, S.2.2.2.1, S.2.2.2.2.1, S.2.2.2.2.2.1, S.2.2.2.2.2.2.1, (w_x_foretelling_firstRest, w_x_foretelling_habits, w_x_foretelling_byLives, w_x_foretelling_brought, w_x_foretelling_reached, w_x_foretelling_means), S.2.2.2.2.2.2.2.2.1, S.2.2.2.2.2.2.2.2.2) M ++ nsW ns) := LW_D hD
  refine W.eq (g2 := F0 m 712 ls [.int r]) rfl ?_
  refine lv_aload_n hx hb dL_law_712 rfl (lv_at hl 2 rfl) ?_
  refine lv_aload_n hx hb dL_law_713 rfl (lv_at hl 0 rfl) ?_
  refine lv_iload_n hx hb dL_law_714 rfl (lv_at hl 3 rfl) ?_
  refine lv_iconst (v := 1) hx hb dL_law_715 (by decide) ?_
  refine lv_iadd hx hb dL_law_716 ?_
  refine l_sld (j := j + 1) hx hb hX hbl hbA hS (nI_add j 1) (by omega) hL dL_law_717 ?_
  refine cV_tt (T := nsW ns) (As := [.int (xs (j + 1))]) (wr := pick (LW cy ad rr (S.1, S.2.1, S.2.2.1, S.2.2.2.1, S.2.2.2.2.1, S.2.2.2.2.2.1, S.2.2.2.2.2.2.1, (w_x_foretelling_firstRest, w_x_foretelling_habits, w_x_foretelling_byLives, w_x_foretelling_brought, w_x_foretelling_reached, w_x_foretelling_means), S.2.2.2.2.2.2.2.2.1, S.2.2.2.2.2.2.2.2.2) M) [0, 2, 3, 4, 5, 6, 7, 8, 9, 10, 11, 12, 13, 14, 15, 16, 17, 18, 19, 20, 21, 22, 23, 24, 25, 26, 27, 28, 29, 30, 31, 32, 33, 34, 35, 36, 37, 38, 39, 40, 41, 42, 43, 45, 46, 47, 48, 49, 50, 55, 56, 57, 58, 59, 60, 61, 62]) C hA hP hD hS mfX12_rests t5_167 t5_168 t5_166 (ccX12_rests l D cy (ad 1) (ad 44) (ad 54) (ad 51) (ad 52) (ad 53) (.ref (ad 39)) (.ref (ad 40)) (.ref (ad 41)) (.ref (ad 42)) (.ref (ad 43)) (.ref (ad 45)) (.ref (ad 46)) (.ref (ad 47)) (.ref (ad 48)) (.ref (ad 49)) (.ref (ad 50)) M.1.1 M.1.2.1 M.1.2.2.1 M.1.2.2.2.1 M.1.2.2.2.2.1 M.1.2.2.2.2.2.1 M.1.2.2.2.2.2.2.1 M.1.2.2.2.2.2.2.2.1 M.1.2.2.2.2.2.2.2.2.1 M.1.2.2.2.2.2.2.2.2.2.1 M.1.2.2.2.2.2.2.2.2.2.2 M.2.1.2.2.2.2.2.1 M.2.1.2.2.2.2.2.2.2.2.2.2.2.2 M.2.2.1 M.2.2.2.1 M.2.2.2.2 (xs (j + 1)) _ hF) [1, 44, 54, 51, 52, 53] [0, 2, 3, 4, 5, 6, 7, 8, 9, 10, 11, 12, 13, 14, 15, 16, 17, 18, 19, 20, 21, 22, 23, 24, 25, 26, 27, 28, 29, 30, 31, 32, 33, 34, 35, 36, 37, 38, 39, 40, 41, 42, 43, 45, 46, 47, 48, 49, 50, 55, 56, 57, 58, 59, 60, 61, 62] rfl rfl (by decide) (by decide) (by decide) PO.np 1 11 rfl rfl rfl rfl hl.1 rfl (Nat.le_of_ble_eq_true rfl) dL_law_718 ⟨Nat.le_of_ble_eq_true rfl, Nat.le_of_ble_eq_true rfl⟩ ⟨hc0, hs0⟩ ?_
  rintro r2 w1 H locs ⟨w_m_habit, w_m_comes, w_m_standing, w_m_brought, rfl, hF⟩ hP - hS
  have hP : va_P D CL (LW cy ad rr (S.1, S.2.1, S.2.2.1, S.2.2.2.1, S.2.2.2.2.1, S.2.2.2.2.2.1, S.2.2.2.2.2.2.1, (w_x_foretelling_firstRest, w_x_foretelling_habits, w_x_foretelling_byLives, w_x_foretelling_brought, w_x_foretelling_reached, w_x_foretelling_means), S.2.2.2.2.2.2.2.2.1, S.2.2.2.2.2.2.2.2.2) (M.1, (M.2.1.1, M.2.1.2.1, M.2.1.2.2.1, M.2.1.2.2.2.1, M.2.1.2.2.2.2.1, M.2.1.2.2.2.2.2.1, M.2.1.2.2.2.2.2.2.1, M.2.1.2.2.2.2.2.2.2.1, M.2.1.2.2.2.2.2.2.2.2.1, M.2.1.2.2.2.2.2.2.2.2.2.1, M.2.1.2.2.2.2.2.2.2.2.2.2.1, M.2.1.2.2.2.2.2.2.2.2.2.2.2.1, w_m_habit), (w_m_comes, w_m_standing, w_m_brought)) ++ nsW ns) H := inpl_P [1, 44, 54, 51, 52, 53] [0, 2, 3, 4, 5, 6, 7, 8, 9, 10, 11, 12, 13, 14, 15, 16, 17, 18, 19, 20, 21, 22, 23, 24, 25, 26, 27, 28, 29, 30, 31, 32, 33, 34, 35, 36, 37, 38, 39, 40, 41, 42, 43, 45, 46, 47, 48, 49, 50, 55, 56, 57, 58, 59, 60, 61, 62] 63 rfl (by decide +kernel) rfl rfl hP
  have hD : va_D (fun q : Nat => s.heap.size ≤ q) (LW cy ad rr (S.1, S.2.1, S.2.2.1, S.2.2.2.1, S.2.2.2.2.1, S.2.2.2.2.2.1, S.2.2.2.2.2.2.1, (w_x_foretelling_firstRest, w_x_foretelling_habits, w_x_foretelling_byLives, w_x_foretelling_brought, w_x_foretelling_reached, w_x_foretelling_means), S.2.2.2.2.2.2.2.2.1, S.2.2.2.2.2.2.2.2.2) (M.1, (M.2.1.1, M.2.1.2.1, M.2.1.2.2.1, M.2.1.2.2.2.1, M.2.1.2.2.2.2.1, M.2.1.2.2.2.2.2.1, M.2.1.2.2.2.2.2.2.1, M.2.1.2.2.2.2.2.2.2.1, M.2.1.2.2.2.2.2.2.2.2.1, M.2.1.2.2.2.2.2.2.2.2.2.1, M.2.1.2.2.2.2.2.2.2.2.2.2.1, M.2.1.2.2.2.2.2.2.2.2.2.2.2.1, w_m_habit), (w_m_comes, w_m_standing, w_m_brought)) ++ nsW ns) := LW_D hD
  refine W.eq (g2 := F0 m 721 ls [.int r2, .int r]) rfl ?_
  refine lv_icmp_eq (tgt := 1156) hx hb dL_law_721 (by decide) (fun _ => ?_) (fun c9 => absurd hF.1 c9)
  refine W.widen (k := cells + 4) (n := slots + 16) (Nat.le_add_right _ 4) (Nat.le_add_right _ 16) ?_
  exact kk (S.1, S.2.1, S.2.2.1, S.2.2.2.1, S.2.2.2.2.1, S.2.2.2.2.2.1, S.2.2.2.2.2.2.1, (w_x_foretelling_firstRest, w_x_foretelling_habits, w_x_foretelling_byLives, w_x_foretelling_brought, w_x_foretelling_reached, w_x_foretelling_means), S.2.2.2.2.2.2.2.2.1, S.2.2.2.2.2.2.2.2.2) (M.1, (M.2.1.1, M.2.1.2.1, M.2.1.2.2.1, M.2.1.2.2.2.1, M.2.1.2.2.2.2.1, M.2.1.2.2.2.2.2.1, M.2.1.2.2.2.2.2.2.1, M.2.1.2.2.2.2.2.2.2.1, M.2.1.2.2.2.2.2.2.2.2.1, M.2.1.2.2.2.2.2.2.2.2.2.1, M.2.1.2.2.2.2.2.2.2.2.2.2.1, M.2.1.2.2.2.2.2.2.2.2.2.2.2.1, w_m_habit), (w_m_comes, w_m_standing, w_m_brought)) ns _ _ hF.2 hns hP hD hS

set_option maxHeartbeats 8000000 in
set_option maxRecDepth 100000 in
theorem lc_worth {p : Program} {l : Launch} {e : Env} {s : State} {m : MethodId} {below : List Frame} {meth : Method} {c : Code} {D : va_G} {cy : Nat → ClassId} {b L : Nat} {xs : Nat → Int32} {ad rr : Nat → Nat} {Q : State → Prop} {Inv : CS → MS → NS → Prop} (C : Cx p s m #[Value.ref b] meth c (miL meth) D cy) (hX : va_X b L xs s s.heap) (hbl : b < s.heap.size) (hL : L ≤ 384) (hpu : Pu_worth Inv) (j : Nat) (hj : j + 6 ≤ L) {cells slots : Nat} (hc4 : cells + 4 ≤ 600000) (hs16 : slots + 16 ≤ 7302249) (S : CS) (M : MS) (ns : NS) (hV : Inv S M ns) (hns : NSok ns) (H : Heap) (locs : List Loc) (ls : Array Slot) (hP : va_P D CL (LW cy ad rr S M ++ nsW ns) H) (hD : va_D (fun q : Nat => s.heap.size ≤ q) (LW cy ad rr S M ++ nsW ns)) (hS : va_S (fun q : Nat => s.heap.size ≤ q) s.heap H locs) (hl : lv_has ls 4 [(0, .ref b), (1, .ref (ad 0)), (2, .ref (ad 1)), (3, .int (nI j))]) (kk : ∀ (S2 : CS) (M2 : MS) (ns2 : NS) (H2 : Heap) (locs2 : List Loc), Inv S2 M2 ns2 → NSok ns2 → va_P D CL (LW cy ad rr S2 M2 ++ nsW ns2) H2 → va_D (fun q : Nat => s.heap.size ≤ q) (LW cy ad rr S2 M2 ++ nsW ns2) → va_S (fun q : Nat => s.heap.size ≤ q) s.heap H2 locs2 → W p l e room_1 s m #[Value.ref b] below meth c H2 locs2 (cells + 4) (slots + 16) Q (F0 m 1156 ls [])) : W p l e room_1 s m #[Value.ref b] below meth c H locs cells slots Q (F0 m 726 ls []) := by
  obtain ⟨hx, hb, hr, hml, hown, hts, hK, hlk, hnm⟩ := id C
  have hb : c.code = cL_law := hb
  have hA : ∀ q : Nat, s.heap.size ≤ q → (fun q : Nat => s.heap.size ≤ q) q := fun _ h => h
  have hbA : ¬ (fun q : Nat => s.heap.size ≤ q) b := Nat.not_le.mpr hbl
  have hc0 : cells ≤ 600000 := by omega
  have hs0 : slots ≤ 7302249 := by omega
  by_cases hz : xs (j + 3) = 0
  · have hF := hpu S M ns hV (xs (j + 1)) (xs (j + 2)) false
    refine lv_aload_n hx hb dL_law_726 rfl (lv_at hl 1 rfl) ?_
    refine lv_aload_n hx hb dL_law_727 rfl (lv_at hl 0 rfl) ?_
    refine lv_iload_n hx hb dL_law_728 rfl (lv_at hl 3 rfl) ?_
    refine lv_iconst (v := 1) hx hb dL_law_729 (by decide) ?_
    refine lv_iadd hx hb dL_law_730 ?_
    refine l_sld (j := j + 1) hx hb hX hbl hbA hS (nI_add j 1) (by omega) hL dL_law_731 ?_
    refine lv_aload_n hx hb dL_law_732 rfl (lv_at hl 0 rfl) ?_
    refine lv_iload_n hx hb dL_law_733 rfl (lv_at hl 3 rfl) ?_
    refine lv_iconst (v := 2) hx hb dL_law_734 (by decide) ?_
    refine lv_iadd hx hb dL_law_735 ?_
    refine l_sld (j := j + 2) hx hb hX hbl hbA hS (nI_add j 2) (by omega) hL dL_law_736 ?_
    refine lv_aload_n hx hb dL_law_737 rfl (lv_at hl 0 rfl) ?_
    refine lv_iload_n hx hb dL_law_738 rfl (lv_at hl 3 rfl) ?_
    refine lv_iconst (v := 3) hx hb dL_law_739 (by decide) ?_
    refine lv_iadd hx hb dL_law_740 ?_
    refine l_sld (j := j + 3) hx hb hX hbl hbA hS (nI_add j 3) (by omega) hL dL_law_741 ?_
    refine lv_if_eq (tgt := 749) hx hb dL_law_742 (by decide) (fun _ => ?_) (fun c9 => absurd hz c9)
    refine lv_iconst (v := 0) hx hb dL_law_749 (by decide) ?_
    refine cV_r (As := [.int (xs (j + 1)), .int (xs (j + 2)), .int (bz false)]) C mfX11_worth t3_166 t3_167 t3_165 (ccX11_worth l D cy (pN ns) (ad 0) (ad 4) (ad 15) (.ref (ad 2)) (.ref (ad 3)) (.ref (ad 5)) (.ref (ad 6)) (.ref (ad 7)) (.ref (ad 8)) (.ref (ad 9)) (.ref (ad 16)) (.ref (ad 17)) (.ref (ad 18)) S.1.1 S.1.2.1 S.1.2.2.1 S.1.2.2.2 S.2.2.2.1.1 S.2.2.2.1.2.1 S.2.2.2.1.2.2.1 S.2.2.2.1.2.2.2.1 S.2.2.2.1.2.2.2.2.1 S.2.2.2.1.2.2.2.2.2.1 S.2.2.2.1.2.2.2.2.2.2.1 (xs (j + 1)) (xs (j + 2)) false _ hF) rfl rfl (hP.left.sub [0, 4, 15] rfl) (pr_tail hP hD hns) hP.left 0 10 rfl rfl rfl rfl hl.1 rfl (Nat.le_of_ble_eq_true rfl) dL_law_750 ⟨Nat.le_of_ble_eq_true rfl, Nat.le_of_ble_eq_true rfl⟩ ⟨hc0, hs0⟩ ?_
    intro r hF
    refine W.eq (g2 := F0 m 753 ls [.long r]) rfl ?_
    refine lv_aload_n hx hb dL_law_753 rfl (lv_at hl 2 rfl) ?_
    refine lv_aload_n hx hb dL_law_754 rfl (lv_at hl 0 rfl) ?_
    refine lv_iload_n hx hb dL_law_755 rfl (lv_at hl 3 rfl) ?_
    refine lv_iconst (v := 1) hx hb dL_law_756 (by decide) ?_
    refine lv_iadd hx hb dL_law_757 ?_
    refine l_sld (j := j + 1) hx hb hX hbl hbA hS (nI_add j 1) (by omega) hL dL_law_758 ?_
    refine lv_aload_n hx hb dL_law_759 rfl (lv_at hl 0 rfl) ?_
    refine lv_iload_n hx hb dL_law_760 rfl (lv_at hl 3 rfl) ?_
    refine lv_iconst (v := 2) hx hb dL_law_761 (by decide) ?_
    refine lv_iadd hx hb dL_law_762 ?_
    refine l_sld (j := j + 2) hx hb hX hbl hbA hS (nI_add j 2) (by omega) hL dL_law_763 ?_
    refine lv_aload_n hx hb dL_law_764 rfl (lv_at hl 0 rfl) ?_
    refine lv_iload_n hx hb dL_law_765 rfl (lv_at hl 3 rfl) ?_
    refine lv_iconst (v := 3) hx hb dL_law_766 (by decide) ?_
    refine lv_iadd hx hb dL_law_767 ?_
    refine l_sld (j := j + 3) hx hb hX hbl hbA hS (nI_add j 3) (by omega) hL dL_law_768 ?_
    refine lv_if_eq (tgt := 776) hx hb dL_law_769 (by decide) (fun _ => ?_) (fun c9 => absurd hz c9)
    refine lv_iconst (v := 0) hx hb dL_law_776 (by decide) ?_
    refine cV_r (As := [.int (xs (j + 1)), .int (xs (j + 2)), .int (bz false)]) C mfX12_worth t5_179 t5_180 t5_178 (ccX12_worth l D cy (ad 1) (ad 44) (.ref (ad 39)) (.ref (ad 40)) (.ref (ad 41)) (.ref (ad 42)) (.ref (ad 43)) (.ref (ad 45)) (.ref (ad 46)) (.ref (ad 47)) (.ref (ad 48)) (.ref (ad 49)) (.ref (ad 50)) (.ref (ad 51)) (.ref (ad 52)) (.ref (ad 53)) (.ref (ad 54)) M.1.1 M.1.2.1 M.1.2.2.1 M.1.2.2.2.1 M.1.2.2.2.2.1 M.1.2.2.2.2.2.1 M.1.2.2.2.2.2.2.1 M.1.2.2.2.2.2.2.2.1 M.1.2.2.2.2.2.2.2.2.1 M.1.2.2.2.2.2.2.2.2.2.1 M.1.2.2.2.2.2.2.2.2.2.2 M.2.1.2.2.2.2.2.1 (xs (j + 1)) (xs (j + 2)) false _ hF) rfl rfl (hP.left.sub [1, 44] rfl) PR.np hP.left 1 11 rfl rfl rfl rfl hl.1 rfl (Nat.le_of_ble_eq_true rfl) dL_law_777 ⟨Nat.le_of_ble_eq_true rfl, Nat.le_of_ble_eq_true rfl⟩ ⟨hc0, hs0⟩ ?_
    intro r2 hF
    refine W.eq (g2 := F0 m 780 ls [.long r2, .long r]) rfl ?_
    refine W.lcmp hx hb dL_law_780 ?_
    refine lv_if_eq (tgt := 1156) hx hb dL_law_781 (by decide) (fun _ => ?_) (fun c9 => absurd ((lg_cmp_eq _ _).mpr hF.1) c9)
    refine W.widen (k := cells + 4) (n := slots + 16) (Nat.le_add_right _ 4) (Nat.le_add_right _ 16) ?_
    exact kk S M ns _ _ hF.2 hns hP hD hS
  · have hF := hpu S M ns hV (xs (j + 1)) (xs (j + 2)) true
    refine lv_aload_n hx hb dL_law_726 rfl (lv_at hl 1 rfl) ?_
    refine lv_aload_n hx hb dL_law_727 rfl (lv_at hl 0 rfl) ?_
    refine lv_iload_n hx hb dL_law_728 rfl (lv_at hl 3 rfl) ?_
    refine lv_iconst (v := 1) hx hb dL_law_729 (by decide) ?_
    refine lv_iadd hx hb dL_law_730 ?_
    refine l_sld (j := j + 1) hx hb hX hbl hbA hS (nI_add j 1) (by omega) hL dL_law_731 ?_
    refine lv_aload_n hx hb dL_law_732 rfl (lv_at hl 0 rfl) ?_
    refine lv_iload_n hx hb dL_law_733 rfl (lv_at hl 3 rfl) ?_
    refine lv_iconst (v := 2) hx hb dL_law_734 (by decide) ?_
    refine lv_iadd hx hb dL_law_735 ?_
    refine l_sld (j := j + 2) hx hb hX hbl hbA hS (nI_add j 2) (by omega) hL dL_law_736 ?_
    refine lv_aload_n hx hb dL_law_737 rfl (lv_at hl 0 rfl) ?_
    refine lv_iload_n hx hb dL_law_738 rfl (lv_at hl 3 rfl) ?_
    refine lv_iconst (v := 3) hx hb dL_law_739 (by decide) ?_
    refine lv_iadd hx hb dL_law_740 ?_
    refine l_sld (j := j + 3) hx hb hX hbl hbA hS (nI_add j 3) (by omega) hL dL_law_741 ?_
    refine lv_if_eq (tgt := 749) hx hb dL_law_742 (by decide) (fun c9 => absurd c9 hz) (fun _ => ?_)
    refine lv_iconst (v := 1) hx hb dL_law_745 (by decide) ?_
    refine lv_goto (tgt := 750) hx hb dL_law_746 (by decide) ?_
    refine cV_r (As := [.int (xs (j + 1)), .int (xs (j + 2)), .int (bz true)]) C mfX11_worth t3_166 t3_167 t3_165 (ccX11_worth l D cy (pN ns) (ad 0) (ad 4) (ad 15) (.ref (ad 2)) (.ref (ad 3)) (.ref (ad 5)) (.ref (ad 6)) (.ref (ad 7)) (.ref (ad 8)) (.ref (ad 9)) (.ref (ad 16)) (.ref (ad 17)) (.ref (ad 18)) S.1.1 S.1.2.1 S.1.2.2.1 S.1.2.2.2 S.2.2.2.1.1 S.2.2.2.1.2.1 S.2.2.2.1.2.2.1 S.2.2.2.1.2.2.2.1 S.2.2.2.1.2.2.2.2.1 S.2.2.2.1.2.2.2.2.2.1 S.2.2.2.1.2.2.2.2.2.2.1 (xs (j + 1)) (xs (j + 2)) true _ hF) rfl rfl (hP.left.sub [0, 4, 15] rfl) (pr_tail hP hD hns) hP.left 0 10 rfl rfl rfl rfl hl.1 rfl (Nat.le_of_ble_eq_true rfl) dL_law_750 ⟨Nat.le_of_ble_eq_true rfl, Nat.le_of_ble_eq_true rfl⟩ ⟨hc0, hs0⟩ ?_
    intro r hF
    refine W.eq (g2 := F0 m 753 ls [.long r]) rfl ?_
    refine lv_aload_n hx hb dL_law_753 rfl (lv_at hl 2 rfl) ?_
    refine lv_aload_n hx hb dL_law_754 rfl (lv_at hl 0 rfl) ?_
    refine lv_iload_n hx hb dL_law_755 rfl (lv_at hl 3 rfl) ?_
    refine lv_iconst (v := 1) hx hb dL_law_756 (by decide) ?_
    refine lv_iadd hx hb dL_law_757 ?_
    refine l_sld (j := j + 1) hx hb hX hbl hbA hS (nI_add j 1) (by omega) hL dL_law_758 ?_
    refine lv_aload_n hx hb dL_law_759 rfl (lv_at hl 0 rfl) ?_
    refine lv_iload_n hx hb dL_law_760 rfl (lv_at hl 3 rfl) ?_
    refine lv_iconst (v := 2) hx hb dL_law_761 (by decide) ?_
    refine lv_iadd hx hb dL_law_762 ?_
    refine l_sld (j := j + 2) hx hb hX hbl hbA hS (nI_add j 2) (by omega) hL dL_law_763 ?_
    refine lv_aload_n hx hb dL_law_764 rfl (lv_at hl 0 rfl) ?_
    refine lv_iload_n hx hb dL_law_765 rfl (lv_at hl 3 rfl) ?_
    refine lv_iconst (v := 3) hx hb dL_law_766 (by decide) ?_
    refine lv_iadd hx hb dL_law_767 ?_
    refine l_sld (j := j + 3) hx hb hX hbl hbA hS (nI_add j 3) (by omega) hL dL_law_768 ?_
    refine lv_if_eq (tgt := 776) hx hb dL_law_769 (by decide) (fun c9 => absurd c9 hz) (fun _ => ?_)
    refine lv_iconst (v := 1) hx hb dL_law_772 (by decide) ?_
    refine lv_goto (tgt := 777) hx hb dL_law_773 (by decide) ?_
    refine cV_r (As := [.int (xs (j + 1)), .int (xs (j + 2)), .int (bz true)]) C mfX12_worth t5_179 t5_180 t5_178 (ccX12_worth l D cy (ad 1) (ad 44) (.ref (ad 39)) (.ref (ad 40)) (.ref (ad 41)) (.ref (ad 42)) (.ref (ad 43)) (.ref (ad 45)) (.ref (ad 46)) (.ref (ad 47)) (.ref (ad 48)) (.ref (ad 49)) (.ref (ad 50)) (.ref (ad 51)) (.ref (ad 52)) (.ref (ad 53)) (.ref (ad 54)) M.1.1 M.1.2.1 M.1.2.2.1 M.1.2.2.2.1 M.1.2.2.2.2.1 M.1.2.2.2.2.2.1 M.1.2.2.2.2.2.2.1 M.1.2.2.2.2.2.2.2.1 M.1.2.2.2.2.2.2.2.2.1 M.1.2.2.2.2.2.2.2.2.2.1 M.1.2.2.2.2.2.2.2.2.2.2 M.2.1.2.2.2.2.2.1 (xs (j + 1)) (xs (j + 2)) true _ hF) rfl rfl (hP.left.sub [1, 44] rfl) PR.np hP.left 1 11 rfl rfl rfl rfl hl.1 rfl (Nat.le_of_ble_eq_true rfl) dL_law_777 ⟨Nat.le_of_ble_eq_true rfl, Nat.le_of_ble_eq_true rfl⟩ ⟨hc0, hs0⟩ ?_
    intro r2 hF
    refine W.eq (g2 := F0 m 780 ls [.long r2, .long r]) rfl ?_
    refine W.lcmp hx hb dL_law_780 ?_
    refine lv_if_eq (tgt := 1156) hx hb dL_law_781 (by decide) (fun _ => ?_) (fun c9 => absurd ((lg_cmp_eq _ _).mpr hF.1) c9)
    refine W.widen (k := cells + 4) (n := slots + 16) (Nat.le_add_right _ 4) (Nat.le_add_right _ 16) ?_
    exact kk S M ns _ _ hF.2 hns hP hD hS

set_option maxHeartbeats 8000000 in
set_option maxRecDepth 100000 in
theorem lc_knows {p : Program} {l : Launch} {e : Env} {s : State} {m : MethodId} {below : List Frame} {meth : Method} {c : Code} {D : va_G} {cy : Nat → ClassId} {b L : Nat} {xs : Nat → Int32} {ad rr : Nat → Nat} {Q : State → Prop} {Inv : CS → MS → NS → Prop} (C : Cx p s m #[Value.ref b] meth c (miL meth) D cy) (hX : va_X b L xs s s.heap) (hbl : b < s.heap.size) (hL : L ≤ 384) (hpu : Pu_knows Inv) (j : Nat) (hj : j + 6 ≤ L) {cells slots : Nat} (hc4 : cells + 4 ≤ 600000) (hs16 : slots + 16 ≤ 7302249) (S : CS) (M : MS) (ns : NS) (hV : Inv S M ns) (hns : NSok ns) (H : Heap) (locs : List Loc) (ls : Array Slot) (hP : va_P D CL (LW cy ad rr S M ++ nsW ns) H) (hD : va_D (fun q : Nat => s.heap.size ≤ q) (LW cy ad rr S M ++ nsW ns)) (hS : va_S (fun q : Nat => s.heap.size ≤ q) s.heap H locs) (hl : lv_has ls 4 [(0, .ref b), (1, .ref (ad 0)), (2, .ref (ad 1)), (3, .int (nI j))]) (kk : ∀ (S2 : CS) (M2 : MS) (ns2 : NS) (H2 : Heap) (locs2 : List Loc), Inv S2 M2 ns2 → NSok ns2 → va_P D CL (LW cy ad rr S2 M2 ++ nsW ns2) H2 → va_D (fun q : Nat => s.heap.size ≤ q) (LW cy ad rr S2 M2 ++ nsW ns2) → va_S (fun q : Nat => s.heap.size ≤ q) s.heap H2 locs2 → W p l e room_1 s m #[Value.ref b] below meth c H2 locs2 (cells + 4) (slots + 16) Q (F0 m 1156 ls [])) : W p l e room_1 s m #[Value.ref b] below meth c H locs cells slots Q (F0 m 786 ls []) := by
  obtain ⟨hx, hb, hr, hml, hown, hts, hK, hlk, hnm⟩ := id C
  have hb : c.code = cL_law := hb
  have hA : ∀ q : Nat, s.heap.size ≤ q → (fun q : Nat => s.heap.size ≤ q) q := fun _ h => h
  have hbA : ¬ (fun q : Nat => s.heap.size ≤ q) b := Nat.not_le.mpr hbl
  have hc0 : cells ≤ 600000 := by omega
  have hs0 : slots ≤ 7302249 := by omega
  by_cases hz : xs (j + 4) = 0
  · have hF := hpu S M ns hV (xs (j + 1)) (xs (j + 2)) (xs (j + 3)) false
    refine lv_aload_n hx hb dL_law_786 rfl (lv_at hl 1 rfl) ?_
    refine lv_aload_n hx hb dL_law_787 rfl (lv_at hl 0 rfl) ?_
    refine lv_iload_n hx hb dL_law_788 rfl (lv_at hl 3 rfl) ?_
    refine lv_iconst (v := 1) hx hb dL_law_789 (by decide) ?_
    refine lv_iadd hx hb dL_law_790 ?_
    refine l_sld (j := j + 1) hx hb hX hbl hbA hS (nI_add j 1) (by omega) hL dL_law_791 ?_
    refine lv_aload_n hx hb dL_law_792 rfl (lv_at hl 0 rfl) ?_
    refine lv_iload_n hx hb dL_law_793 rfl (lv_at hl 3 rfl) ?_
    refine lv_iconst (v := 2) hx hb dL_law_794 (by decide) ?_
    refine lv_iadd hx hb dL_law_795 ?_
    refine l_sld (j := j + 2) hx hb hX hbl hbA hS (nI_add j 2) (by omega) hL dL_law_796 ?_
    refine lv_aload_n hx hb dL_law_797 rfl (lv_at hl 0 rfl) ?_
    refine lv_iload_n hx hb dL_law_798 rfl (lv_at hl 3 rfl) ?_
    refine lv_iconst (v := 3) hx hb dL_law_799 (by decide) ?_
    refine lv_iadd hx hb dL_law_800 ?_
    refine l_sld (j := j + 3) hx hb hX hbl hbA hS (nI_add j 3) (by omega) hL dL_law_801 ?_
    refine lv_aload_n hx hb dL_law_802 rfl (lv_at hl 0 rfl) ?_
    refine lv_iload_n hx hb dL_law_803 rfl (lv_at hl 3 rfl) ?_
    refine lv_iconst (v := 4) hx hb dL_law_804 (by decide) ?_
    refine lv_iadd hx hb dL_law_805 ?_
    refine l_sld (j := j + 4) hx hb hX hbl hbA hS (nI_add j 4) (by omega) hL dL_law_806 ?_
    refine lv_if_eq (tgt := 814) hx hb dL_law_807 (by decide) (fun _ => ?_) (fun c9 => absurd hz c9)
    refine lv_iconst (v := 0) hx hb dL_law_814 (by decide) ?_
    refine cV_r (As := [.int (xs (j + 1)), .int (xs (j + 2)), .int (xs (j + 3)), .int (bz false)]) C mfX11_knows t3_198 t3_199 t3_197 (ccX11_knows l D cy (pN ns) (ad 0) (ad 4) (ad 15) (.ref (ad 2)) (.ref (ad 3)) (.ref (ad 5)) (.ref (ad 6)) (.ref (ad 7)) (.ref (ad 8)) (.ref (ad 9)) (.ref (ad 16)) (.ref (ad 17)) (.ref (ad 18)) S.1.1 S.1.2.1 S.1.2.2.1 S.1.2.2.2 S.2.2.2.1.1 S.2.2.2.1.2.1 S.2.2.2.1.2.2.1 S.2.2.2.1.2.2.2.1 S.2.2.2.1.2.2.2.2.1 S.2.2.2.1.2.2.2.2.2.1 S.2.2.2.1.2.2.2.2.2.2.1 (xs (j + 1)) (xs (j + 2)) (xs (j + 3)) false _ hF) rfl rfl (hP.left.sub [0, 4, 15] rfl) (pr_tail hP hD hns) hP.left 0 10 rfl rfl rfl rfl hl.1 rfl (Nat.le_of_ble_eq_true rfl) dL_law_815 ⟨Nat.le_of_ble_eq_true rfl, Nat.le_of_ble_eq_true rfl⟩ ⟨hc0, hs0⟩ ?_
    intro r hF
    refine W.eq (g2 := F0 m 818 ls [.long r]) rfl ?_
    refine lv_aload_n hx hb dL_law_818 rfl (lv_at hl 2 rfl) ?_
    refine lv_aload_n hx hb dL_law_819 rfl (lv_at hl 0 rfl) ?_
    refine lv_iload_n hx hb dL_law_820 rfl (lv_at hl 3 rfl) ?_
    refine lv_iconst (v := 1) hx hb dL_law_821 (by decide) ?_
    refine lv_iadd hx hb dL_law_822 ?_
    refine l_sld (j := j + 1) hx hb hX hbl hbA hS (nI_add j 1) (by omega) hL dL_law_823 ?_
    refine lv_aload_n hx hb dL_law_824 rfl (lv_at hl 0 rfl) ?_
    refine lv_iload_n hx hb dL_law_825 rfl (lv_at hl 3 rfl) ?_
    refine lv_iconst (v := 2) hx hb dL_law_826 (by decide) ?_
    refine lv_iadd hx hb dL_law_827 ?_
    refine l_sld (j := j + 2) hx hb hX hbl hbA hS (nI_add j 2) (by omega) hL dL_law_828 ?_
    refine lv_aload_n hx hb dL_law_829 rfl (lv_at hl 0 rfl) ?_
    refine lv_iload_n hx hb dL_law_830 rfl (lv_at hl 3 rfl) ?_
    refine lv_iconst (v := 3) hx hb dL_law_831 (by decide) ?_
    refine lv_iadd hx hb dL_law_832 ?_
    refine l_sld (j := j + 3) hx hb hX hbl hbA hS (nI_add j 3) (by omega) hL dL_law_833 ?_
    refine lv_aload_n hx hb dL_law_834 rfl (lv_at hl 0 rfl) ?_
    refine lv_iload_n hx hb dL_law_835 rfl (lv_at hl 3 rfl) ?_
    refine lv_iconst (v := 4) hx hb dL_law_836 (by decide) ?_
    refine lv_iadd hx hb dL_law_837 ?_
    refine l_sld (j := j + 4) hx hb hX hbl hbA hS (nI_add j 4) (by omega) hL dL_law_838 ?_
    refine lv_if_eq (tgt := 846) hx hb dL_law_839 (by decide) (fun _ => ?_) (fun c9 => absurd hz c9)
    refine lv_iconst (v := 0) hx hb dL_law_846 (by decide) ?_
    refine cV_r (As := [.int (xs (j + 1)), .int (xs (j + 2)), .int (xs (j + 3)), .int (bz false)]) C mfX12_knows t5_183 t5_184 t5_182 (ccX12_knows l D cy (ad 1) (ad 44) (.ref (ad 39)) (.ref (ad 40)) (.ref (ad 41)) (.ref (ad 42)) (.ref (ad 43)) (.ref (ad 45)) (.ref (ad 46)) (.ref (ad 47)) (.ref (ad 48)) (.ref (ad 49)) (.ref (ad 50)) (.ref (ad 51)) (.ref (ad 52)) (.ref (ad 53)) (.ref (ad 54)) M.1.1 M.1.2.1 M.1.2.2.1 M.1.2.2.2.1 M.1.2.2.2.2.1 M.1.2.2.2.2.2.1 M.1.2.2.2.2.2.2.1 M.1.2.2.2.2.2.2.2.1 M.1.2.2.2.2.2.2.2.2.1 M.1.2.2.2.2.2.2.2.2.2.1 M.1.2.2.2.2.2.2.2.2.2.2 M.2.1.2.2.2.2.2.1 (xs (j + 1)) (xs (j + 2)) (xs (j + 3)) false _ hF) rfl rfl (hP.left.sub [1, 44] rfl) PR.np hP.left 1 11 rfl rfl rfl rfl hl.1 rfl (Nat.le_of_ble_eq_true rfl) dL_law_847 ⟨Nat.le_of_ble_eq_true rfl, Nat.le_of_ble_eq_true rfl⟩ ⟨hc0, hs0⟩ ?_
    intro r2 hF
    refine W.eq (g2 := F0 m 850 ls [.long r2, .long r]) rfl ?_
    refine W.lcmp hx hb dL_law_850 ?_
    refine lv_if_eq (tgt := 1156) hx hb dL_law_851 (by decide) (fun _ => ?_) (fun c9 => absurd ((lg_cmp_eq _ _).mpr hF.1) c9)
    refine W.widen (k := cells + 4) (n := slots + 16) (Nat.le_add_right _ 4) (Nat.le_add_right _ 16) ?_
    exact kk S M ns _ _ hF.2 hns hP hD hS
  · have hF := hpu S M ns hV (xs (j + 1)) (xs (j + 2)) (xs (j + 3)) true
    refine lv_aload_n hx hb dL_law_786 rfl (lv_at hl 1 rfl) ?_
    refine lv_aload_n hx hb dL_law_787 rfl (lv_at hl 0 rfl) ?_
    refine lv_iload_n hx hb dL_law_788 rfl (lv_at hl 3 rfl) ?_
    refine lv_iconst (v := 1) hx hb dL_law_789 (by decide) ?_
    refine lv_iadd hx hb dL_law_790 ?_
    refine l_sld (j := j + 1) hx hb hX hbl hbA hS (nI_add j 1) (by omega) hL dL_law_791 ?_
    refine lv_aload_n hx hb dL_law_792 rfl (lv_at hl 0 rfl) ?_
    refine lv_iload_n hx hb dL_law_793 rfl (lv_at hl 3 rfl) ?_
    refine lv_iconst (v := 2) hx hb dL_law_794 (by decide) ?_
    refine lv_iadd hx hb dL_law_795 ?_
    refine l_sld (j := j + 2) hx hb hX hbl hbA hS (nI_add j 2) (by omega) hL dL_law_796 ?_
    refine lv_aload_n hx hb dL_law_797 rfl (lv_at hl 0 rfl) ?_
    refine lv_iload_n hx hb dL_law_798 rfl (lv_at hl 3 rfl) ?_
    refine lv_iconst (v := 3) hx hb dL_law_799 (by decide) ?_
    refine lv_iadd hx hb dL_law_800 ?_
    refine l_sld (j := j + 3) hx hb hX hbl hbA hS (nI_add j 3) (by omega) hL dL_law_801 ?_
    refine lv_aload_n hx hb dL_law_802 rfl (lv_at hl 0 rfl) ?_
    refine lv_iload_n hx hb dL_law_803 rfl (lv_at hl 3 rfl) ?_
    refine lv_iconst (v := 4) hx hb dL_law_804 (by decide) ?_
    refine lv_iadd hx hb dL_law_805 ?_
    refine l_sld (j := j + 4) hx hb hX hbl hbA hS (nI_add j 4) (by omega) hL dL_law_806 ?_
    refine lv_if_eq (tgt := 814) hx hb dL_law_807 (by decide) (fun c9 => absurd c9 hz) (fun _ => ?_)
    refine lv_iconst (v := 1) hx hb dL_law_810 (by decide) ?_
    refine lv_goto (tgt := 815) hx hb dL_law_811 (by decide) ?_
    refine cV_r (As := [.int (xs (j + 1)), .int (xs (j + 2)), .int (xs (j + 3)), .int (bz true)]) C mfX11_knows t3_198 t3_199 t3_197 (ccX11_knows l D cy (pN ns) (ad 0) (ad 4) (ad 15) (.ref (ad 2)) (.ref (ad 3)) (.ref (ad 5)) (.ref (ad 6)) (.ref (ad 7)) (.ref (ad 8)) (.ref (ad 9)) (.ref (ad 16)) (.ref (ad 17)) (.ref (ad 18)) S.1.1 S.1.2.1 S.1.2.2.1 S.1.2.2.2 S.2.2.2.1.1 S.2.2.2.1.2.1 S.2.2.2.1.2.2.1 S.2.2.2.1.2.2.2.1 S.2.2.2.1.2.2.2.2.1 S.2.2.2.1.2.2.2.2.2.1 S.2.2.2.1.2.2.2.2.2.2.1 (xs (j + 1)) (xs (j + 2)) (xs (j + 3)) true _ hF) rfl rfl (hP.left.sub [0, 4, 15] rfl) (pr_tail hP hD hns) hP.left 0 10 rfl rfl rfl rfl hl.1 rfl (Nat.le_of_ble_eq_true rfl) dL_law_815 ⟨Nat.le_of_ble_eq_true rfl, Nat.le_of_ble_eq_true rfl⟩ ⟨hc0, hs0⟩ ?_
    intro r hF
    refine W.eq (g2 := F0 m 818 ls [.long r]) rfl ?_
    refine lv_aload_n hx hb dL_law_818 rfl (lv_at hl 2 rfl) ?_
    refine lv_aload_n hx hb dL_law_819 rfl (lv_at hl 0 rfl) ?_
    refine lv_iload_n hx hb dL_law_820 rfl (lv_at hl 3 rfl) ?_
    refine lv_iconst (v := 1) hx hb dL_law_821 (by decide) ?_
    refine lv_iadd hx hb dL_law_822 ?_
    refine l_sld (j := j + 1) hx hb hX hbl hbA hS (nI_add j 1) (by omega) hL dL_law_823 ?_
    refine lv_aload_n hx hb dL_law_824 rfl (lv_at hl 0 rfl) ?_
    refine lv_iload_n hx hb dL_law_825 rfl (lv_at hl 3 rfl) ?_
    refine lv_iconst (v := 2) hx hb dL_law_826 (by decide) ?_
    refine lv_iadd hx hb dL_law_827 ?_
    refine l_sld (j := j + 2) hx hb hX hbl hbA hS (nI_add j 2) (by omega) hL dL_law_828 ?_
    refine lv_aload_n hx hb dL_law_829 rfl (lv_at hl 0 rfl) ?_
    refine lv_iload_n hx hb dL_law_830 rfl (lv_at hl 3 rfl) ?_
    refine lv_iconst (v := 3) hx hb dL_law_831 (by decide) ?_
    refine lv_iadd hx hb dL_law_832 ?_
    refine l_sld (j := j + 3) hx hb hX hbl hbA hS (nI_add j 3) (by omega) hL dL_law_833 ?_
    refine lv_aload_n hx hb dL_law_834 rfl (lv_at hl 0 rfl) ?_
    refine lv_iload_n hx hb dL_law_835 rfl (lv_at hl 3 rfl) ?_
    refine lv_iconst (v := 4) hx hb dL_law_836 (by decide) ?_
    refine lv_iadd hx hb dL_law_837 ?_
    refine l_sld (j := j + 4) hx hb hX hbl hbA hS (nI_add j 4) (by omega) hL dL_law_838 ?_
    refine lv_if_eq (tgt := 846) hx hb dL_law_839 (by decide) (fun c9 => absurd c9 hz) (fun _ => ?_)
    refine lv_iconst (v := 1) hx hb dL_law_842 (by decide) ?_
    refine lv_goto (tgt := 847) hx hb dL_law_843 (by decide) ?_
    refine cV_r (As := [.int (xs (j + 1)), .int (xs (j + 2)), .int (xs (j + 3)), .int (bz true)]) C mfX12_knows t5_183 t5_184 t5_182 (ccX12_knows l D cy (ad 1) (ad 44) (.ref (ad 39)) (.ref (ad 40)) (.ref (ad 41)) (.ref (ad 42)) (.ref (ad 43)) (.ref (ad 45)) (.ref (ad 46)) (.ref (ad 47)) (.ref (ad 48)) (.ref (ad 49)) (.ref (ad 50)) (.ref (ad 51)) (.ref (ad 52)) (.ref (ad 53)) (.ref (ad 54)) M.1.1 M.1.2.1 M.1.2.2.1 M.1.2.2.2.1 M.1.2.2.2.2.1 M.1.2.2.2.2.2.1 M.1.2.2.2.2.2.2.1 M.1.2.2.2.2.2.2.2.1 M.1.2.2.2.2.2.2.2.2.1 M.1.2.2.2.2.2.2.2.2.2.1 M.1.2.2.2.2.2.2.2.2.2.2 M.2.1.2.2.2.2.2.1 (xs (j + 1)) (xs (j + 2)) (xs (j + 3)) true _ hF) rfl rfl (hP.left.sub [1, 44] rfl) PR.np hP.left 1 11 rfl rfl rfl rfl hl.1 rfl (Nat.le_of_ble_eq_true rfl) dL_law_847 ⟨Nat.le_of_ble_eq_true rfl, Nat.le_of_ble_eq_true rfl⟩ ⟨hc0, hs0⟩ ?_
    intro r2 hF
    refine W.eq (g2 := F0 m 850 ls [.long r2, .long r]) rfl ?_
    refine W.lcmp hx hb dL_law_850 ?_
    refine lv_if_eq (tgt := 1156) hx hb dL_law_851 (by decide) (fun _ => ?_) (fun c9 => absurd ((lg_cmp_eq _ _).mpr hF.1) c9)
    refine W.widen (k := cells + 4) (n := slots + 16) (Nat.le_add_right _ 4) (Nat.le_add_right _ 16) ?_
    exact kk S M ns _ _ hF.2 hns hP hD hS

set_option maxHeartbeats 8000000 in
set_option maxRecDepth 100000 in
theorem lc_often {p : Program} {l : Launch} {e : Env} {s : State} {m : MethodId} {below : List Frame} {meth : Method} {c : Code} {D : va_G} {cy : Nat → ClassId} {b L : Nat} {xs : Nat → Int32} {ad rr : Nat → Nat} {Q : State → Prop} {Inv : CS → MS → NS → Prop} (C : Cx p s m #[Value.ref b] meth c (miL meth) D cy) (hX : va_X b L xs s s.heap) (hbl : b < s.heap.size) (hL : L ≤ 384) (hpu : Pu_often Inv) (j : Nat) (hj : j + 6 ≤ L) {cells slots : Nat} (hc4 : cells + 4 ≤ 600000) (hs16 : slots + 16 ≤ 7302249) (S : CS) (M : MS) (ns : NS) (hV : Inv S M ns) (hns : NSok ns) (H : Heap) (locs : List Loc) (ls : Array Slot) (hP : va_P D CL (LW cy ad rr S M ++ nsW ns) H) (hD : va_D (fun q : Nat => s.heap.size ≤ q) (LW cy ad rr S M ++ nsW ns)) (hS : va_S (fun q : Nat => s.heap.size ≤ q) s.heap H locs) (hl : lv_has ls 4 [(0, .ref b), (1, .ref (ad 0)), (2, .ref (ad 1)), (3, .int (nI j))]) (kk : ∀ (S2 : CS) (M2 : MS) (ns2 : NS) (H2 : Heap) (locs2 : List Loc), Inv S2 M2 ns2 → NSok ns2 → va_P D CL (LW cy ad rr S2 M2 ++ nsW ns2) H2 → va_D (fun q : Nat => s.heap.size ≤ q) (LW cy ad rr S2 M2 ++ nsW ns2) → va_S (fun q : Nat => s.heap.size ≤ q) s.heap H2 locs2 → W p l e room_1 s m #[Value.ref b] below meth c H2 locs2 (cells + 4) (slots + 16) Q (F0 m 1156 ls [])) : W p l e room_1 s m #[Value.ref b] below meth c H locs cells slots Q (F0 m 856 ls []) := by
  obtain ⟨hx, hb, hr, hml, hown, hts, hK, hlk, hnm⟩ := id C
  have hb : c.code = cL_law := hb
  have hA : ∀ q : Nat, s.heap.size ≤ q → (fun q : Nat => s.heap.size ≤ q) q := fun _ h => h
  have hbA : ¬ (fun q : Nat => s.heap.size ≤ q) b := Nat.not_le.mpr hbl
  have hc0 : cells ≤ 600000 := by omega
  have hs0 : slots ≤ 7302249 := by omega
  have hF := hpu S M ns hV (xs (j + 1)) (xs (j + 2)) (xs (j + 3)) (xs (j + 4))
  refine lv_aload_n hx hb dL_law_856 rfl (lv_at hl 1 rfl) ?_
  refine lv_aload_n hx hb dL_law_857 rfl (lv_at hl 0 rfl) ?_
  refine lv_iload_n hx hb dL_law_858 rfl (lv_at hl 3 rfl) ?_
  refine lv_iconst (v := 1) hx hb dL_law_859 (by decide) ?_
  refine lv_iadd hx hb dL_law_860 ?_
  refine l_sld (j := j + 1) hx hb hX hbl hbA hS (nI_add j 1) (by omega) hL dL_law_861 ?_
  refine lv_aload_n hx hb dL_law_862 rfl (lv_at hl 0 rfl) ?_
  refine lv_iload_n hx hb dL_law_863 rfl (lv_at hl 3 rfl) ?_
  refine lv_iconst (v := 2) hx hb dL_law_864 (by decide) ?_
  refine lv_iadd hx hb dL_law_865 ?_
  refine l_sld (j := j + 2) hx hb hX hbl hbA hS (nI_add j 2) (by omega) hL dL_law_866 ?_
  refine lv_aload_n hx hb dL_law_867 rfl (lv_at hl 0 rfl) ?_
  refine lv_iload_n hx hb dL_law_868 rfl (lv_at hl 3 rfl) ?_
  refine lv_iconst (v := 3) hx hb dL_law_869 (by decide) ?_
  refine lv_iadd hx hb dL_law_870 ?_
  refine l_sld (j := j + 3) hx hb hX hbl hbA hS (nI_add j 3) (by omega) hL dL_law_871 ?_
  refine lv_aload_n hx hb dL_law_872 rfl (lv_at hl 0 rfl) ?_
  refine lv_iload_n hx hb dL_law_873 rfl (lv_at hl 3 rfl) ?_
  refine lv_iconst (v := 4) hx hb dL_law_874 (by decide) ?_
  refine lv_iadd hx hb dL_law_875 ?_
  refine l_sld (j := j + 4) hx hb hX hbl hbA hS (nI_add j 4) (by omega) hL dL_law_876 ?_
  refine cV_tt (T := nsW ns) (As := [.int (xs (j + 1)), .int (xs (j + 2)), .int (xs (j + 3)), .int (xs (j + 4))]) (wr := pick (LW cy ad rr S M) [1, 3, 5, 6, 7, 8, 9, 11, 13, 14, 16, 17, 18, 19, 20, 21, 22, 23, 24, 25, 26, 27, 28, 29, 30, 31, 32, 33, 34, 35, 36, 37, 38, 39, 40, 41, 42, 43, 44, 45, 46, 47, 48, 49, 50, 51, 52, 53, 54]) C hA hP hD hS mfX11_often t3_204 t3_205 t3_203 (ccX11_often l D cy (pN ns) (ad 0) (ad 4) (ad 2) (ad 12) (ad 15) (ad 10) rr (.ref (ad 3)) (.ref (ad 5)) (.ref (ad 6)) (.ref (ad 7)) (.ref (ad 8)) (.ref (ad 9)) (.ref (ad 16)) (.ref (ad 17)) (.ref (ad 18)) (.ref (ad 11)) S.1.1 S.1.2.1 S.1.2.2.1 S.1.2.2.2 S.2.2.2.1.1 S.2.2.2.1.2.1 S.2.2.2.1.2.2.1 S.2.2.2.1.2.2.2.1 S.2.2.2.1.2.2.2.2.1 S.2.2.2.1.2.2.2.2.2.1 S.2.1.2.2 S.2.2.2.1.2.2.2.2.2.2.1 S.2.1.1 (xs (j + 1)) (xs (j + 2)) (xs (j + 3)) (xs (j + 4)) _ hF) [0, 4, 2, 12, 15, 10, 55, 56, 57, 58, 59, 60, 61, 62] [1, 3, 5, 6, 7, 8, 9, 11, 13, 14, 16, 17, 18, 19, 20, 21, 22, 23, 24, 25, 26, 27, 28, 29, 30, 31, 32, 33, 34, 35, 36, 37, 38, 39, 40, 41, 42, 43, 44, 45, 46, 47, 48, 49, 50, 51, 52, 53, 54] rfl rfl (by decide) (by decide) (by decide) (po_tail hP hD hns [0, 4, 2, 12, 15, 10, 55, 56, 57, 58, 59, 60, 61, 62] rfl) 0 10 rfl rfl rfl rfl hl.1 rfl (Nat.le_of_ble_eq_true rfl) dL_law_877 ⟨Nat.le_of_ble_eq_true rfl, Nat.le_of_ble_eq_true rfl⟩ ⟨hc0, hs0⟩ ?_
  rintro r w1 H locs ⟨w_x_latestFinding, rfl, hF⟩ hP - hS
  have hP : va_P D CL (LW cy ad rr ((S.1.1, S.1.2.1, S.1.2.2.1, w_x_latestFinding), S.2.1, S.2.2.1, S.2.2.2.1, S.2.2.2.2.1, S.2.2.2.2.2.1, S.2.2.2.2.2.2.1, S.2.2.2.2.2.2.2.1, S.2.2.2.2.2.2.2.2.1, S.2.2.2.2.2.2.2.2.2) M ++ nsW ns) H := inpl_P [0, 4, 2, 12, 15, 10, 55, 56, 57, 58, 59, 60, 61, 62] [1, 3, 5, 6, 7, 8, 9, 11, 13, 14, 16, 17, 18, 19, 20, 21, 22, 23, 24, 25, 26, 27, 28, 29, 30, 31, 32, 33, 34, 35, 36, 37, 38, 39, 40, 41, 42, 43, 44, 45, 46, 47, 48, 49, 50, 51, 52, 53, 54] 63 rfl (by decide +kernel) rfl rfl hP
  have hD : va_D (fun q : Nat => s.heap.size ≤ q) (LW cy ad rr ((S.1.1, S.1.2.1, S.1.2.2.1, w_x_latestFinding), S.2.1, S.2.2.1, S.2.2.2.1, S.2.2.2.2.1, S.2.2.2.2.2.1, S.2.2.2.2.2.2.1, S.2.2.2.2.2.2.2.1, S.2.2.2.2.2.2.2.2.1, S.2.2.2.2.2.2.2.2.2) M ++ nsW ns) := LW_D hD
  refine W.eq (g2 := F0 m 880 ls [.int r]) rfl ?_
  refine lv_aload_n hx hb dL_law_880 rfl (lv_at hl 2 rfl) ?_
  refine lv_aload_n hx hb dL_law_881 rfl (lv_at hl 0 rfl) ?_
  refine lv_iload_n hx hb dL_law_882 rfl (lv_at hl 3 rfl) ?_
  refine lv_iconst (v := 1) hx hb dL_law_883 (by decide) ?_
  refine lv_iadd hx hb dL_law_884 ?_
  refine l_sld (j := j + 1) hx hb hX hbl hbA hS (nI_add j 1) (by omega) hL dL_law_885 ?_
  refine lv_aload_n hx hb dL_law_886 rfl (lv_at hl 0 rfl) ?_
  refine lv_iload_n hx hb dL_law_887 rfl (lv_at hl 3 rfl) ?_
  refine lv_iconst (v := 2) hx hb dL_law_888 (by decide) ?_
  refine lv_iadd hx hb dL_law_889 ?_
  refine l_sld (j := j + 2) hx hb hX hbl hbA hS (nI_add j 2) (by omega) hL dL_law_890 ?_
  refine lv_aload_n hx hb dL_law_891 rfl (lv_at hl 0 rfl) ?_
  refine lv_iload_n hx hb dL_law_892 rfl (lv_at hl 3 rfl) ?_
  refine lv_iconst (v := 3) hx hb dL_law_893 (by decide) ?_
  refine lv_iadd hx hb dL_law_894 ?_
  refine l_sld (j := j + 3) hx hb hX hbl hbA hS (nI_add j 3) (by omega) hL dL_law_895 ?_
  refine lv_aload_n hx hb dL_law_896 rfl (lv_at hl 0 rfl) ?_
  refine lv_iload_n hx hb dL_law_897 rfl (lv_at hl 3 rfl) ?_
  refine lv_iconst (v := 4) hx hb dL_law_898 (by decide) ?_
  refine lv_iadd hx hb dL_law_899 ?_
  refine l_sld (j := j + 4) hx hb hX hbl hbA hS (nI_add j 4) (by omega) hL dL_law_900 ?_
  refine cV_tt (T := nsW ns) (As := [.int (xs (j + 1)), .int (xs (j + 2)), .int (xs (j + 3)), .int (xs (j + 4))]) (wr := pick (LW cy ad rr ((S.1.1, S.1.2.1, S.1.2.2.1, w_x_latestFinding), S.2.1, S.2.2.1, S.2.2.2.1, S.2.2.2.2.1, S.2.2.2.2.2.1, S.2.2.2.2.2.2.1, S.2.2.2.2.2.2.2.1, S.2.2.2.2.2.2.2.2.1, S.2.2.2.2.2.2.2.2.2) M) [0, 2, 3, 4, 5, 6, 7, 8, 9, 10, 11, 12, 13, 14, 15, 16, 17, 18, 19, 20, 21, 22, 23, 24, 25, 26, 27, 28, 29, 30, 31, 32, 33, 34, 35, 36, 37, 38, 42, 43, 45, 46, 47, 48, 49, 50, 51, 52, 53, 54, 55, 56, 57, 58, 59, 60, 61, 62]) C hA hP hD hS mfX12_often t5_188 t5_189 t5_187 (ccX12_often l D cy (ad 1) (ad 44) (ad 39) (ad 40) (ad 41) (.ref (ad 42)) (.ref (ad 43)) (.ref (ad 45)) (.ref (ad 46)) (.ref (ad 47)) (.ref (ad 48)) (.ref (ad 49)) (.ref (ad 50)) (.ref (ad 51)) (.ref (ad 52)) (.ref (ad 53)) (.ref (ad 54)) M.1.1 M.1.2.1 M.1.2.2.1 M.1.2.2.2.1 M.1.2.2.2.2.1 M.1.2.2.2.2.2.1 M.1.2.2.2.2.2.2.1 M.1.2.2.2.2.2.2.2.1 M.1.2.2.2.2.2.2.2.2.1 M.1.2.2.2.2.2.2.2.2.2.1 M.1.2.2.2.2.2.2.2.2.2.2 M.2.1.2.2.2.2.2.1 M.2.1.1 M.2.1.2.1 M.2.1.2.2.1 (xs (j + 1)) (xs (j + 2)) (xs (j + 3)) (xs (j + 4)) _ hF) [1, 44, 39, 40, 41] [0, 2, 3, 4, 5, 6, 7, 8, 9, 10, 11, 12, 13, 14, 15, 16, 17, 18, 19, 20, 21, 22, 23, 24, 25, 26, 27, 28, 29, 30, 31, 32, 33, 34, 35, 36, 37, 38, 42, 43, 45, 46, 47, 48, 49, 50, 51, 52, 53, 54, 55, 56, 57, 58, 59, 60, 61, 62] rfl rfl (by decide) (by decide) (by decide) PO.np 1 11 rfl rfl rfl rfl hl.1 rfl (Nat.le_of_ble_eq_true rfl) dL_law_901 ⟨Nat.le_of_ble_eq_true rfl, Nat.le_of_ble_eq_true rfl⟩ ⟨hc0, hs0⟩ ?_
  rintro r2 w1 H locs ⟨w_m_status, rfl, hF⟩ hP - hS
  have hP : va_P D CL (LW cy ad rr ((S.1.1, S.1.2.1, S.1.2.2.1, w_x_latestFinding), S.2.1, S.2.2.1, S.2.2.2.1, S.2.2.2.2.1, S.2.2.2.2.2.1, S.2.2.2.2.2.2.1, S.2.2.2.2.2.2.2.1, S.2.2.2.2.2.2.2.2.1, S.2.2.2.2.2.2.2.2.2) ((w_m_status, M.1.2.1, M.1.2.2.1, M.1.2.2.2.1, M.1.2.2.2.2.1, M.1.2.2.2.2.2.1, M.1.2.2.2.2.2.2.1, M.1.2.2.2.2.2.2.2.1, M.1.2.2.2.2.2.2.2.2.1, M.1.2.2.2.2.2.2.2.2.2.1, M.1.2.2.2.2.2.2.2.2.2.2), M.2.1, M.2.2) ++ nsW ns) H := inpl_P [1, 44, 39, 40, 41] [0, 2, 3, 4, 5, 6, 7, 8, 9, 10, 11, 12, 13, 14, 15, 16, 17, 18, 19, 20, 21, 22, 23, 24, 25, 26, 27, 28, 29, 30, 31, 32, 33, 34, 35, 36, 37, 38, 42, 43, 45, 46, 47, 48, 49, 50, 51, 52, 53, 54, 55, 56, 57, 58, 59, 60, 61, 62] 63 rfl (by decide +kernel) rfl rfl hP
  have hD : va_D (fun q : Nat => s.heap.size ≤ q) (LW cy ad rr ((S.1.1, S.1.2.1, S.1.2.2.1, w_x_latestFinding), S.2.1, S.2.2.1, S.2.2.2.1, S.2.2.2.2.1, S.2.2.2.2.2.1, S.2.2.2.2.2.2.1, S.2.2.2.2.2.2.2.1, S.2.2.2.2.2.2.2.2.1, S.2.2.2.2.2.2.2.2.2) ((w_m_status, M.1.2.1, M.1.2.2.1, M.1.2.2.2.1, M.1.2.2.2.2.1, M.1.2.2.2.2.2.1, M.1.2.2.2.2.2.2.1, M.1.2.2.2.2.2.2.2.1, M.1.2.2.2.2.2.2.2.2.1, M.1.2.2.2.2.2.2.2.2.2.1, M.1.2.2.2.2.2.2.2.2.2.2), M.2.1, M.2.2) ++ nsW ns) := LW_D hD
  refine W.eq (g2 := F0 m 904 ls [.int r2, .int r]) rfl ?_
  refine lv_icmp_eq (tgt := 1156) hx hb dL_law_904 (by decide) (fun _ => ?_) (fun c9 => absurd hF.1 c9)
  refine W.widen (k := cells + 4) (n := slots + 16) (Nat.le_add_right _ 4) (Nat.le_add_right _ 16) ?_
  exact kk ((S.1.1, S.1.2.1, S.1.2.2.1, w_x_latestFinding), S.2.1, S.2.2.1, S.2.2.2.1, S.2.2.2.2.1, S.2.2.2.2.2.1, S.2.2.2.2.2.2.1, S.2.2.2.2.2.2.2.1, S.2.2.2.2.2.2.2.2.1, S.2.2.2.2.2.2.2.2.2) ((w_m_status, M.1.2.1, M.1.2.2.1, M.1.2.2.2.1, M.1.2.2.2.2.1, M.1.2.2.2.2.2.1, M.1.2.2.2.2.2.2.1, M.1.2.2.2.2.2.2.2.1, M.1.2.2.2.2.2.2.2.2.1, M.1.2.2.2.2.2.2.2.2.2.1, M.1.2.2.2.2.2.2.2.2.2.2), M.2.1, M.2.2) ns _ _ hF.2 hns hP hD hS

set_option maxHeartbeats 8000000 in
set_option maxRecDepth 100000 in
theorem lc_gone {p : Program} {l : Launch} {e : Env} {s : State} {m : MethodId} {below : List Frame} {meth : Method} {c : Code} {D : va_G} {cy : Nat → ClassId} {b L : Nat} {xs : Nat → Int32} {ad rr : Nat → Nat} {Q : State → Prop} {Inv : CS → MS → NS → Prop} (C : Cx p s m #[Value.ref b] meth c (miL meth) D cy) (hX : va_X b L xs s s.heap) (hbl : b < s.heap.size) (hL : L ≤ 384) (hpu : Pu_gone Inv) (j : Nat) (hj : j + 6 ≤ L) {cells slots : Nat} (hc4 : cells + 4 ≤ 600000) (hs16 : slots + 16 ≤ 7302249) (S : CS) (M : MS) (ns : NS) (hV : Inv S M ns) (hns : NSok ns) (H : Heap) (locs : List Loc) (ls : Array Slot) (hP : va_P D CL (LW cy ad rr S M ++ nsW ns) H) (hD : va_D (fun q : Nat => s.heap.size ≤ q) (LW cy ad rr S M ++ nsW ns)) (hS : va_S (fun q : Nat => s.heap.size ≤ q) s.heap H locs) (hl : lv_has ls 4 [(0, .ref b), (1, .ref (ad 0)), (2, .ref (ad 1)), (3, .int (nI j))]) (kk : ∀ (S2 : CS) (M2 : MS) (ns2 : NS) (H2 : Heap) (locs2 : List Loc), Inv S2 M2 ns2 → NSok ns2 → va_P D CL (LW cy ad rr S2 M2 ++ nsW ns2) H2 → va_D (fun q : Nat => s.heap.size ≤ q) (LW cy ad rr S2 M2 ++ nsW ns2) → va_S (fun q : Nat => s.heap.size ≤ q) s.heap H2 locs2 → W p l e room_1 s m #[Value.ref b] below meth c H2 locs2 (cells + 4) (slots + 16) Q (F0 m 1156 ls [])) : W p l e room_1 s m #[Value.ref b] below meth c H locs cells slots Q (F0 m 909 ls []) := by
  obtain ⟨hx, hb, hr, hml, hown, hts, hK, hlk, hnm⟩ := id C
  have hb : c.code = cL_law := hb
  have hA : ∀ q : Nat, s.heap.size ≤ q → (fun q : Nat => s.heap.size ≤ q) q := fun _ h => h
  have hbA : ¬ (fun q : Nat => s.heap.size ≤ q) b := Nat.not_le.mpr hbl
  have hc0 : cells ≤ 600000 := by omega
  have hs0 : slots ≤ 7302249 := by omega
  have hF := hpu S M ns hV (xs (j + 1)) (xs (j + 2)) (xs (j + 3)) (xs (j + 4))
  refine lv_aload_n hx hb dL_law_909 rfl (lv_at hl 1 rfl) ?_
  refine lv_aload_n hx hb dL_law_910 rfl (lv_at hl 0 rfl) ?_
  refine lv_iload_n hx hb dL_law_911 rfl (lv_at hl 3 rfl) ?_
  refine lv_iconst (v := 1) hx hb dL_law_912 (by decide) ?_
  refine lv_iadd hx hb dL_law_913 ?_
  refine l_sld (j := j + 1) hx hb hX hbl hbA hS (nI_add j 1) (by omega) hL dL_law_914 ?_
  refine lv_aload_n hx hb dL_law_915 rfl (lv_at hl 0 rfl) ?_
  refine lv_iload_n hx hb dL_law_916 rfl (lv_at hl 3 rfl) ?_
  refine lv_iconst (v := 2) hx hb dL_law_917 (by decide) ?_
  refine lv_iadd hx hb dL_law_918 ?_
  refine l_sld (j := j + 2) hx hb hX hbl hbA hS (nI_add j 2) (by omega) hL dL_law_919 ?_
  refine lv_aload_n hx hb dL_law_920 rfl (lv_at hl 0 rfl) ?_
  refine lv_iload_n hx hb dL_law_921 rfl (lv_at hl 3 rfl) ?_
  refine lv_iconst (v := 3) hx hb dL_law_922 (by decide) ?_
  refine lv_iadd hx hb dL_law_923 ?_
  refine l_sld (j := j + 3) hx hb hX hbl hbA hS (nI_add j 3) (by omega) hL dL_law_924 ?_
  refine lv_aload_n hx hb dL_law_925 rfl (lv_at hl 0 rfl) ?_
  refine lv_iload_n hx hb dL_law_926 rfl (lv_at hl 3 rfl) ?_
  refine lv_iconst (v := 4) hx hb dL_law_927 (by decide) ?_
  refine lv_iadd hx hb dL_law_928 ?_
  refine l_sld (j := j + 4) hx hb hX hbl hbA hS (nI_add j 4) (by omega) hL dL_law_929 ?_
  refine cV_tt (T := nsW ns) (As := [.int (xs (j + 1)), .int (xs (j + 2)), .int (xs (j + 3)), .int (xs (j + 4))]) (wr := pick (LW cy ad rr S M) [1, 3, 6, 8, 9, 11, 13, 14, 23, 24, 25, 26, 27, 28, 29, 30, 31, 32, 34, 35, 36, 37, 38, 39, 40, 41, 42, 43, 44, 45, 46, 47, 48, 49, 50, 51, 52, 53, 54]) C hA hP hD hS mfX11_gone t3_215 t3_216 t3_214 (ccX11_gone l D cy (pN ns) (ad 0) (ad 4) (ad 2) (ad 12) (ad 10) (ad 7) (ad 33) (ad 5) (ad 18) (ad 22) (ad 19) (ad 15) (ad 20) (ad 16) (ad 21) (ad 17) rr (.ref (ad 3)) (.ref (ad 6)) (.ref (ad 8)) (.ref (ad 9)) (.ref (ad 11)) (.ref (ad 34)) (.ref (ad 35)) (.ref (ad 36)) (.ref (ad 37)) S.1.1 S.1.2.1 S.1.2.2.1 S.1.2.2.2 S.2.2.2.1.1 S.2.2.2.1.2.1 S.2.2.2.1.2.2.1 S.2.2.2.1.2.2.2.1 S.2.2.2.1.2.2.2.2.1 S.2.2.2.1.2.2.2.2.2.1 S.2.1.2.2 S.2.1.1 S.2.2.2.2.2.2.2.1.1 S.2.2.2.2.2.2.2.1.2.1 S.2.2.2.2.1.1 S.2.2.2.2.1.2.1 S.2.2.2.2.1.2.2.1 S.2.2.2.2.1.2.2.2.1 S.2.2.2.2.1.2.2.2.2.1 S.2.2.2.2.1.2.2.2.2.2.1 S.2.2.2.1.2.2.2.2.2.2.2.2.2 S.2.2.2.2.1.2.2.2.2.2.2.2.2.2 S.2.2.2.2.1.2.2.2.2.2.2.1 S.2.2.2.1.2.2.2.2.2.2.1 S.2.2.2.2.1.2.2.2.2.2.2.2.1 S.2.2.2.1.2.2.2.2.2.2.2.1 S.2.2.2.2.1.2.2.2.2.2.2.2.2.1 S.2.2.2.1.2.2.2.2.2.2.2.2.1 (xs (j + 1)) (xs (j + 2)) (xs (j + 3)) (xs (j + 4)) _ hF) [0, 4, 2, 12, 10, 7, 33, 5, 18, 22, 19, 15, 20, 16, 21, 17, 55, 56, 57, 58, 59, 60, 61, 62] [1, 3, 6, 8, 9, 11, 13, 14, 23, 24, 25, 26, 27, 28, 29, 30, 31, 32, 34, 35, 36, 37, 38, 39, 40, 41, 42, 43, 44, 45, 46, 47, 48, 49, 50, 51, 52, 53, 54] rfl rfl (by decide) (by decide) (by decide) (po_tail hP hD hns [0, 4, 2, 12, 10, 7, 33, 5, 18, 22, 19, 15, 20, 16, 21, 17, 55, 56, 57, 58, 59, 60, 61, 62] rfl) 0 10 rfl rfl rfl rfl hl.1 rfl (Nat.le_of_ble_eq_true rfl) dL_law_930 ⟨Nat.le_of_ble_eq_true rfl, Nat.le_of_ble_eq_true rfl⟩ ⟨hc0, hs0⟩ ?_
  rintro r w1 H locs ⟨w_x_latestFinding, w_x_foretelling_habits, w_x_guess_there, w_x_guess_size, w_x_guess_date, w_x_guess_evening, w_x_guess_well, w_x_guess_rights, w_x_guess_lives, w_x_guess_people, w_x_guess_memories, w_x_guess_purses, rfl, hF⟩ hP - hS
  have hP : va_P D CL (LW cy ad rr ((S.1.1, S.1.2.1, S.1.2.2.1, w_x_latestFinding), S.2.1, S.2.2.1, S.2.2.2.1, (w_x_guess_there, w_x_guess_size, w_x_guess_date, w_x_guess_evening, w_x_guess_well, w_x_guess_rights, w_x_guess_people, w_x_guess_memories, w_x_guess_purses, w_x_guess_lives), S.2.2.2.2.2.1, S.2.2.2.2.2.2.1, (S.2.2.2.2.2.2.2.1.1, w_x_foretelling_habits, S.2.2.2.2.2.2.2.1.2.2.1, S.2.2.2.2.2.2.2.1.2.2.2.1, S.2.2.2.2.2.2.2.1.2.2.2.2.1, S.2.2.2.2.2.2.2.1.2.2.2.2.2), S.2.2.2.2.2.2.2.2.1, S.2.2.2.2.2.2.2.2.2) M ++ nsW ns) H := inpl_P [0, 4, 2, 12, 10, 7, 33, 5, 18, 22, 19, 15, 20, 16, 21, 17, 55, 56, 57, 58, 59, 60, 61, 62] [1, 3, 6, 8, 9, 11, 13, 14, 23, 24, 25, 26, 27, 28, 29, 30, 31, 32, 34, 35, 36, 37, 38, 39, 40, 41, 42, 43, 44, 45, 46, 47, 48, 49, 50, 51, 52, 53, 54] 63 rfl (by decide +kernel) rfl rfl hP
  have hD : va_D (fun q : Nat => s.heap.size ≤ q) (LW cy ad rr ((S.1.1, S.1.2.1, S.1.2.2.1, w_x_latestFinding), S.2.1, S.2.2.1, S.2.2.2.1, (w_x_guess_there, w_x_guess_size, w_x_guess_date, w_x_guess_evening, w_x_guess_well, w_x_guess_rights, w_x_guess_people, w_x_guess_memories, w_x_guess_purses, w_x_guess_lives), S.2.2.2.2.2.1, S.2.2.2.2.2.2.1, (S.2.2.2.2.2.2.2.1.1, w_x_foretelling_habits, S.2.2.2.2.2.2.2.1.2.2.1, S.2.2.2.2.2.2.2.1.2.2.2.1, S.2.2.2.2.2.2.2.1.2.2.2.2.1, S.2.2.2.2.2.2.2.1.2.2.2.2.2), S.2.2.2.2.2.2.2.2.1, S.2.2.2.2.2.2.2.2.2) M ++ nsW ns) := LW_D hD
  refine W.eq (g2 := F0 m 933 ls [.int r]) rfl ?_
  refine lv_aload_n hx hb dL_law_933 rfl (lv_at hl 2 rfl) ?_
  refine lv_aload_n hx hb dL_law_934 rfl (lv_at hl 0 rfl) ?_
  refine lv_iload_n hx hb dL_law_935 rfl (lv_at hl 3 rfl) ?_
  refine lv_iconst (v := 1) hx hb dL_law_936 (by decide) ?_
  refine lv_iadd hx hb dL_law_937 ?_
  refine l_sld (j := j + 1) hx hb hX hbl hbA hS (nI_add j 1) (by omega) hL dL_law_938 ?_
  refine lv_aload_n hx hb dL_law_939 rfl (lv_at hl 0 rfl) ?_
  refine lv_iload_n hx hb dL_law_940 rfl (lv_at hl 3 rfl) ?_
  refine lv_iconst (v := 2) hx hb dL_law_941 (by decide) ?_
  refine lv_iadd hx hb dL_law_942 ?_
  refine l_sld (j := j + 2) hx hb hX hbl hbA hS (nI_add j 2) (by omega) hL dL_law_943 ?_
  refine lv_aload_n hx hb dL_law_944 rfl (lv_at hl 0 rfl) ?_
  refine lv_iload_n hx hb dL_law_945 rfl (lv_at hl 3 rfl) ?_
  refine lv_iconst (v := 3) hx hb dL_law_946 (by decide) ?_
  refine lv_iadd hx hb dL_law_947 ?_
  refine l_sld (j := j + 3) hx hb hX hbl hbA hS (nI_add j 3) (by omega) hL dL_law_948 ?_
  refine lv_aload_n hx hb dL_law_949 rfl (lv_at hl 0 rfl) ?_
  refine lv_iload_n hx hb dL_law_950 rfl (lv_at hl 3 rfl) ?_
  refine lv_iconst (v := 4) hx hb dL_law_951 (by decide) ?_
  refine lv_iadd hx hb dL_law_952 ?_
  refine l_sld (j := j + 4) hx hb hX hbl hbA hS (nI_add j 4) (by omega) hL dL_law_953 ?_
  refine cV_tt (T := nsW ns) (As := [.int (xs (j + 1)), .int (xs (j + 2)), .int (xs (j + 3)), .int (xs (j + 4))]) (wr := pick (LW cy ad rr ((S.1.1, S.1.2.1, S.1.2.2.1, w_x_latestFinding), S.2.1, S.2.2.1, S.2.2.2.1, (w_x_guess_there, w_x_guess_size, w_x_guess_date, w_x_guess_evening, w_x_guess_well, w_x_guess_rights, w_x_guess_people, w_x_guess_memories, w_x_guess_purses, w_x_guess_lives), S.2.2.2.2.2.1, S.2.2.2.2.2.2.1, (S.2.2.2.2.2.2.2.1.1, w_x_foretelling_habits, S.2.2.2.2.2.2.2.1.2.2.1, S.2.2.2.2.2.2.2.1.2.2.2.1, S.2.2.2.2.2.2.2.1.2.2.2.2.1, S.2.2.2.2.2.2.2.1.2.2.2.2.2), S.2.2.2.2.2.2.2.2.1, S.2.2.2.2.2.2.2.2.2) M) [0, 2, 3, 4, 5, 6, 7, 8, 9, 10, 11, 12, 13, 14, 15, 16, 17, 18, 19, 20, 21, 22, 23, 24, 25, 26, 27, 28, 29, 30, 31, 32, 33, 34, 35, 36, 37, 38, 42, 43, 45, 47, 48, 49, 50, 51, 52, 53, 55, 56, 57, 58, 59, 60, 61, 62]) C hA hP hD hS mfX12_gone t5_192 t5_193 t5_191 (ccX12_gone l D cy (ad 1) (ad 44) (ad 39) (ad 40) (ad 54) (ad 41) (ad 46) (.ref (ad 42)) (.ref (ad 43)) (.ref (ad 45)) (.ref (ad 47)) (.ref (ad 48)) (.ref (ad 49)) (.ref (ad 50)) (.ref (ad 51)) (.ref (ad 52)) (.ref (ad 53)) M.1.1 M.1.2.1 M.1.2.2.1 M.1.2.2.2.1 M.1.2.2.2.2.1 M.1.2.2.2.2.2.1 M.1.2.2.2.2.2.2.1 M.1.2.2.2.2.2.2.2.1 M.1.2.2.2.2.2.2.2.2.1 M.1.2.2.2.2.2.2.2.2.2.1 M.1.2.2.2.2.2.2.2.2.2.2 M.2.1.2.2.2.2.2.1 M.2.1.1 M.2.1.2.1 M.2.1.2.2.2.2.2.2.2.2.2.2.2.2 M.2.1.2.2.1 M.2.1.2.2.2.2.2.2.2.1 (xs (j + 1)) (xs (j + 2)) (xs (j + 3)) (xs (j + 4)) _ hF) [1, 44, 39, 40, 54, 41, 46] [0, 2, 3, 4, 5, 6, 7, 8, 9, 10, 11, 12, 13, 14, 15, 16, 17, 18, 19, 20, 21, 22, 23, 24, 25, 26, 27, 28, 29, 30, 31, 32, 33, 34, 35, 36, 37, 38, 42, 43, 45, 47, 48, 49, 50, 51, 52, 53, 55, 56, 57, 58, 59, 60, 61, 62] rfl rfl (by decide) (by decide) (by decide) PO.np 1 11 rfl rfl rfl rfl hl.1 rfl (Nat.le_of_ble_eq_true rfl) dL_law_954 ⟨Nat.le_of_ble_eq_true rfl, Nat.le_of_ble_eq_true rfl⟩ ⟨hc0, hs0⟩ ?_
  rintro r2 w1 H locs ⟨w_m_status, w_m_livedMany, w_m_habit, w_m_tried, rfl, hF⟩ hP - hS
  have hP : va_P D CL (LW cy ad rr ((S.1.1, S.1.2.1, S.1.2.2.1, w_x_latestFinding), S.2.1, S.2.2.1, S.2.2.2.1, (w_x_guess_there, w_x_guess_size, w_x_guess_date, w_x_guess_evening, w_x_guess_well, w_x_guess_rights, w_x_guess_people, w_x_guess_memories, w_x_guess_purses, w_x_guess_lives), S.2.2.2.2.2.1, S.2.2.2.2.2.2.1, (S.2.2.2.2.2.2.2.1.1, w_x_foretelling_habits, S.2.2.2.2.2.2.2.1.2.2.1, S.2.2.2.2.2.2.2.1.2.2.2.1, S.2.2.2.2.2.2.2.1.2.2.2.2.1, S.2.2.2.2.2.2.2.1.2.2.2.2.2), S.2.2.2.2.2.2.2.2.1, S.2.2.2.2.2.2.2.2.2) ((w_m_status, M.1.2.1, M.1.2.2.1, M.1.2.2.2.1, M.1.2.2.2.2.1, M.1.2.2.2.2.2.1, M.1.2.2.2.2.2.2.1, M.1.2.2.2.2.2.2.2.1, M.1.2.2.2.2.2.2.2.2.1, M.1.2.2.2.2.2.2.2.2.2.1, w_m_livedMany), (M.2.1.1, M.2.1.2.1, M.2.1.2.2.1, M.2.1.2.2.2.1, M.2.1.2.2.2.2.1, M.2.1.2.2.2.2.2.1, M.2.1.2.2.2.2.2.2.1, w_m_tried, M.2.1.2.2.2.2.2.2.2.2.1, M.2.1.2.2.2.2.2.2.2.2.2.1, M.2.1.2.2.2.2.2.2.2.2.2.2.1, M.2.1.2.2.2.2.2.2.2.2.2.2.2.1, w_m_habit), M.2.2) ++ nsW ns) H := inpl_P [1, 44, 39, 40, 54, 41, 46] [0, 2, 3, 4, 5, 6, 7, 8, 9, 10, 11, 12, 13, 14, 15, 16, 17, 18, 19, 20, 21, 22, 23, 24, 25, 26, 27, 28, 29, 30, 31, 32, 33, 34, 35, 36, 37, 38, 42, 43, 45, 47, 48, 49, 50, 51, 52, 53, 55, 56, 57, 58, 59, 60, 61, 62] 63 rfl (by decide +kernel) rfl rfl hP
  have hD : va_D (fun q : Nat => s.heap.size ≤ q) (LW cy ad rr ((S.1.1, S.1.2.1, S.1.2.2.1, w_x_latestFinding), S.2.1, S.2.2.1, S.2.2.2.1, (w_x_guess_there, w_x_guess_size, w_x_guess_date, w_x_guess_evening, w_x_guess_well, w_x_guess_rights, w_x_guess_people, w_x_guess_memories, w_x_guess_purses, w_x_guess_lives), S.2.2.2.2.2.1, S.2.2.2.2.2.2.1, (S.2.2.2.2.2.2.2.1.1, w_x_foretelling_habits, S.2.2.2.2.2.2.2.1.2.2.1, S.2.2.2.2.2.2.2.1.2.2.2.1, S.2.2.2.2.2.2.2.1.2.2.2.2.1, S.2.2.2.2.2.2.2.1.2.2.2.2.2), S.2.2.2.2.2.2.2.2.1, S.2.2.2.2.2.2.2.2.2) ((w_m_status, M.1.2.1, M.1.2.2.1, M.1.2.2.2.1, M.1.2.2.2.2.1, M.1.2.2.2.2.2.1, M.1.2.2.2.2.2.2.1, M.1.2.2.2.2.2.2.2.1, M.1.2.2.2.2.2.2.2.2.1, M.1.2.2.2.2.2.2.2.2.2.1, w_m_livedMany), (M.2.1.1, M.2.1.2.1, M.2.1.2.2.1, M.2.1.2.2.2.1, M.2.1.2.2.2.2.1, M.2.1.2.2.2.2.2.1, M.2.1.2.2.2.2.2.2.1, w_m_tried, M.2.1.2.2.2.2.2.2.2.2.1, M.2.1.2.2.2.2.2.2.2.2.2.1, M.2.1.2.2.2.2.2.2.2.2.2.2.1, M.2.1.2.2.2.2.2.2.2.2.2.2.2.1, w_m_habit), M.2.2) ++ nsW ns) := LW_D hD
  refine W.eq (g2 := F0 m 957 ls [.int r2, .int r]) rfl ?_
  refine lv_icmp_eq (tgt := 1156) hx hb dL_law_957 (by decide) (fun _ => ?_) (fun c9 => absurd hF.1 c9)
  refine W.widen (k := cells + 4) (n := slots + 16) (Nat.le_add_right _ 4) (Nat.le_add_right _ 16) ?_
  exact kk ((S.1.1, S.1.2.1, S.1.2.2.1, w_x_latestFinding), S.2.1, S.2.2.1, S.2.2.2.1, (w_x_guess_there, w_x_guess_size, w_x_guess_date, w_x_guess_evening, w_x_guess_well, w_x_guess_rights, w_x_guess_people, w_x_guess_memories, w_x_guess_purses, w_x_guess_lives), S.2.2.2.2.2.1, S.2.2.2.2.2.2.1, (S.2.2.2.2.2.2.2.1.1, w_x_foretelling_habits, S.2.2.2.2.2.2.2.1.2.2.1, S.2.2.2.2.2.2.2.1.2.2.2.1, S.2.2.2.2.2.2.2.1.2.2.2.2.1, S.2.2.2.2.2.2.2.1.2.2.2.2.2), S.2.2.2.2.2.2.2.2.1, S.2.2.2.2.2.2.2.2.2) ((w_m_status, M.1.2.1, M.1.2.2.1, M.1.2.2.2.1, M.1.2.2.2.2.1, M.1.2.2.2.2.2.1, M.1.2.2.2.2.2.2.1, M.1.2.2.2.2.2.2.2.1, M.1.2.2.2.2.2.2.2.2.1, M.1.2.2.2.2.2.2.2.2.2.1, w_m_livedMany), (M.2.1.1, M.2.1.2.1, M.2.1.2.2.1, M.2.1.2.2.2.1, M.2.1.2.2.2.2.1, M.2.1.2.2.2.2.2.1, M.2.1.2.2.2.2.2.2.1, w_m_tried, M.2.1.2.2.2.2.2.2.2.2.1, M.2.1.2.2.2.2.2.2.2.2.2.1, M.2.1.2.2.2.2.2.2.2.2.2.2.1, M.2.1.2.2.2.2.2.2.2.2.2.2.2.1, w_m_habit), M.2.2) ns _ _ hF.2 hns hP hD hS

set_option maxHeartbeats 8000000 in
set_option maxRecDepth 100000 in
theorem lc_image_0 {p : Program} {l : Launch} {e : Env} {s : State} {m : MethodId} {below : List Frame} {meth : Method} {c : Code} {D : va_G} {cy : Nat → ClassId} {b L : Nat} {xs : Nat → Int32} {ad rr : Nat → Nat} {Q : State → Prop} {Inv : CS → MS → NS → Prop} (C : Cx p s m #[Value.ref b] meth c (miL meth) D cy) (hX : va_X b L xs s s.heap) (hbl : b < s.heap.size) (hL : L ≤ 384) (hpu : Pu_image_0 Inv) (j : Nat) (hj : j + 6 ≤ L) (h0 : xs (j + 1) = 0) {cells slots : Nat} (hc4 : cells + 4 ≤ 600000) (hs16 : slots + 16 ≤ 7302249) (S : CS) (M : MS) (ns : NS) (hV : Inv S M ns) (hns : NSok ns) (H : Heap) (locs : List Loc) (ls : Array Slot) (hP : va_P D CL (LW cy ad rr S M ++ nsW ns) H) (hD : va_D (fun q : Nat => s.heap.size ≤ q) (LW cy ad rr S M ++ nsW ns)) (hS : va_S (fun q : Nat => s.heap.size ≤ q) s.heap H locs) (hl : lv_has ls 4 [(0, .ref b), (1, .ref (ad 0)), (2, .ref (ad 1)), (3, .int (nI j))]) (kk : ∀ (S2 : CS) (M2 : MS) (ns2 : NS) (H2 : Heap) (locs2 : List Loc), Inv S2 M2 ns2 → NSok ns2 → va_P D CL (LW cy ad rr S2 M2 ++ nsW ns2) H2 → va_D (fun q : Nat => s.heap.size ≤ q) (LW cy ad rr S2 M2 ++ nsW ns2) → va_S (fun q : Nat => s.heap.size ≤ q) s.heap H2 locs2 → W p l e room_1 s m #[Value.ref b] below meth c H2 locs2 (cells + 4) (slots + 16) Q (F0 m 1156 ls [])) : W p l e room_1 s m #[Value.ref b] below meth c H locs cells slots Q (F0 m 962 ls []) := by
  obtain ⟨hx, hb, hr, hml, hown, hts, hK, hlk, hnm⟩ := id C
  have hb : c.code = cL_law := hb
  have hA : ∀ q : Nat, s.heap.size ≤ q → (fun q : Nat => s.heap.size ≤ q) q := fun _ h => h
  have hbA : ¬ (fun q : Nat => s.heap.size ≤ q) b := Nat.not_le.mpr hbl
  have hc0 : cells ≤ 600000 := by omega
  have hs0 : slots ≤ 7302249 := by omega
  have hF := hpu S M ns hV (xs (j + 1)) h0
  refine lv_aload_n hx hb dL_law_962 rfl (lv_at hl 1 rfl) ?_
  refine lv_aload_n hx hb dL_law_963 rfl (lv_at hl 0 rfl) ?_
  refine lv_iload_n hx hb dL_law_964 rfl (lv_at hl 3 rfl) ?_
  refine lv_iconst (v := 1) hx hb dL_law_965 (by decide) ?_
  refine lv_iadd hx hb dL_law_966 ?_
  refine l_sld (j := j + 1) hx hb hX hbl hbA hS (nI_add j 1) (by omega) hL dL_law_967 ?_
  refine cV_tt (T := nsW ns) (As := [.int 0]) (wr := pick (LW cy ad rr S M) [1, 2, 3, 5, 7, 8, 9, 10, 11, 12, 13, 14, 19, 20, 21, 22, 28, 29, 30, 31, 32, 33, 34, 35, 36, 37, 38, 39, 40, 41, 42, 43, 44, 45, 46, 47, 48, 49, 50, 51, 52, 53, 54, 55, 56, 57, 58, 59, 60, 61, 62]) C hA hP hD hS mfX11_image t3_231 t3_232 t3_230 (ccX11_image_0 l D cy (pN ns) (ad 0) (ad 6) (ad 4) (ad 18) (ad 27) (ad 24) (ad 15) (ad 25) (ad 16) (ad 26) (ad 17) (ad 23) (ad 28) (.ref (ad 2)) (.ref (ad 3)) (.ref (ad 5)) (.ref (ad 7)) (.ref (ad 8)) (.ref (ad 9)) S.1.1 S.1.2.1 S.1.2.2.1 S.1.2.2.2 S.2.2.2.2.2.1.1 S.2.2.2.2.2.1.2.1 S.2.2.2.2.2.1.2.2.1 S.2.2.2.2.2.1.2.2.2.1 S.2.2.2.2.2.1.2.2.2.2.1 S.2.2.2.2.2.1.2.2.2.2.2.1 S.2.2.2.1.1 S.2.2.2.1.2.1 S.2.2.2.1.2.2.1 S.2.2.2.1.2.2.2.1 S.2.2.2.1.2.2.2.2.1 S.2.2.2.1.2.2.2.2.2.1 S.2.2.2.1.2.2.2.2.2.2.2.2.2 S.2.2.2.2.2.1.2.2.2.2.2.2.2.2.2 S.2.2.2.2.2.1.2.2.2.2.2.2.1 S.2.2.2.1.2.2.2.2.2.2.1 S.2.2.2.2.2.1.2.2.2.2.2.2.2.1 S.2.2.2.1.2.2.2.2.2.2.2.1 S.2.2.2.2.2.1.2.2.2.2.2.2.2.2.1 S.2.2.2.1.2.2.2.2.2.2.2.2.1 _ hF) [0, 6, 23, 4, 18, 27, 24, 15, 25, 16, 26, 17] [1, 2, 3, 5, 7, 8, 9, 10, 11, 12, 13, 14, 19, 20, 21, 22, 28, 29, 30, 31, 32, 33, 34, 35, 36, 37, 38, 39, 40, 41, 42, 43, 44, 45, 46, 47, 48, 49, 50, 51, 52, 53, 54, 55, 56, 57, 58, 59, 60, 61, 62] rfl rfl (by decide) (by decide) (by decide) (po_tail hP hD hns [0, 6, 23, 4, 18, 27, 24, 15, 25, 16, 26, 17] rfl) 0 10 rfl rfl rfl rfl hl.1 (by rw [h0]; rfl) (Nat.le_of_ble_eq_true rfl) dL_law_968 ⟨Nat.le_of_ble_eq_true rfl, Nat.le_of_ble_eq_true rfl⟩ ⟨hc0, hs0⟩ ?_
  rintro r w1 H locs ⟨w_x_images_i0_there, w_x_images_i0_size, w_x_images_i0_date, w_x_images_i0_evening, w_x_images_i0_well, w_x_images_i0_rights, w_x_images_i0_lives, w_x_images_i0_people, w_x_images_i0_memories, w_x_images_i0_purses, rfl, hF⟩ hP - hS
  have hP : va_P D CL (LW cy ad rr (S.1, S.2.1, S.2.2.1, S.2.2.2.1, S.2.2.2.2.1, (w_x_images_i0_there, w_x_images_i0_size, w_x_images_i0_date, w_x_images_i0_evening, w_x_images_i0_well, w_x_images_i0_rights, w_x_images_i0_people, w_x_images_i0_memories, w_x_images_i0_purses, w_x_images_i0_lives), S.2.2.2.2.2.2.1, S.2.2.2.2.2.2.2.1, S.2.2.2.2.2.2.2.2.1, S.2.2.2.2.2.2.2.2.2) M ++ nsW ns) H := inpl_P [0, 6, 23, 4, 18, 27, 24, 15, 25, 16, 26, 17] [1, 2, 3, 5, 7, 8, 9, 10, 11, 12, 13, 14, 19, 20, 21, 22, 28, 29, 30, 31, 32, 33, 34, 35, 36, 37, 38, 39, 40, 41, 42, 43, 44, 45, 46, 47, 48, 49, 50, 51, 52, 53, 54, 55, 56, 57, 58, 59, 60, 61, 62] 63 rfl (by decide +kernel) rfl rfl hP
  have hD : va_D (fun q : Nat => s.heap.size ≤ q) (LW cy ad rr (S.1, S.2.1, S.2.2.1, S.2.2.2.1, S.2.2.2.2.1, (w_x_images_i0_there, w_x_images_i0_size, w_x_images_i0_date, w_x_images_i0_evening, w_x_images_i0_well, w_x_images_i0_rights, w_x_images_i0_people, w_x_images_i0_memories, w_x_images_i0_purses, w_x_images_i0_lives), S.2.2.2.2.2.2.1, S.2.2.2.2.2.2.2.1, S.2.2.2.2.2.2.2.2.1, S.2.2.2.2.2.2.2.2.2) M ++ nsW ns) := LW_D hD
  refine W.eq (g2 := F0 m 971 ls [.int r]) rfl ?_
  refine lv_aload_n hx hb dL_law_971 rfl (lv_at hl 2 rfl) ?_
  refine lv_aload_n hx hb dL_law_972 rfl (lv_at hl 0 rfl) ?_
  refine lv_iload_n hx hb dL_law_973 rfl (lv_at hl 3 rfl) ?_
  refine lv_iconst (v := 1) hx hb dL_law_974 (by decide) ?_
  refine lv_iadd hx hb dL_law_975 ?_
  refine l_sld (j := j + 1) hx hb hX hbl hbA hS (nI_add j 1) (by omega) hL dL_law_976 ?_
  refine cV_tt (T := nsW ns) (As := [.int (xs (j + 1))]) (wr := pick (LW cy ad rr (S.1, S.2.1, S.2.2.1, S.2.2.2.1, S.2.2.2.2.1, (w_x_images_i0_there, w_x_images_i0_size, w_x_images_i0_date, w_x_images_i0_evening, w_x_images_i0_well, w_x_images_i0_rights, w_x_images_i0_people, w_x_images_i0_memories, w_x_images_i0_purses, w_x_images_i0_lives), S.2.2.2.2.2.2.1, S.2.2.2.2.2.2.2.1, S.2.2.2.2.2.2.2.2.1, S.2.2.2.2.2.2.2.2.2) M) [0, 2, 3, 4, 5, 6, 7, 8, 9, 10, 11, 12, 13, 14, 15, 16, 17, 18, 19, 20, 21, 22, 23, 24, 25, 26, 27, 28, 29, 30, 31, 32, 33, 34, 35, 36, 37, 38, 39, 40, 41, 42, 43, 45, 46, 47, 50, 51, 52, 53, 54, 55, 56, 57, 58, 59, 60, 61, 62]) C hA hP hD hS mfX12_image t5_200 t5_201 t5_199 (ccX12_image l D cy (ad 1) (ad 44) (ad 49) (ad 48) (.ref (ad 39)) (.ref (ad 40)) (.ref (ad 41)) (.ref (ad 42)) (.ref (ad 43)) (.ref (ad 45)) (.ref (ad 46)) (.ref (ad 47)) (.ref (ad 50)) (.ref (ad 51)) (.ref (ad 52)) (.ref (ad 53)) (.ref (ad 54)) M.1.1 M.1.2.1 M.1.2.2.1 M.1.2.2.2.1 M.1.2.2.2.2.1 M.1.2.2.2.2.2.1 M.1.2.2.2.2.2.2.1 M.1.2.2.2.2.2.2.2.1 M.1.2.2.2.2.2.2.2.2.1 M.1.2.2.2.2.2.2.2.2.2.1 M.1.2.2.2.2.2.2.2.2.2.2 M.2.1.2.2.2.2.2.1 M.2.1.2.2.2.2.2.2.2.2.2.2.1 M.2.1.2.2.2.2.2.2.2.2.2.1 (xs (j + 1)) _ hF) [1, 44, 49, 48] [0, 2, 3, 4, 5, 6, 7, 8, 9, 10, 11, 12, 13, 14, 15, 16, 17, 18, 19, 20, 21, 22, 23, 24, 25, 26, 27, 28, 29, 30, 31, 32, 33, 34, 35, 36, 37, 38, 39, 40, 41, 42, 43, 45, 46, 47, 50, 51, 52, 53, 54, 55, 56, 57, 58, 59, 60, 61, 62] rfl rfl (by decide) (by decide) (by decide) PO.np 1 11 rfl rfl rfl rfl hl.1 rfl (Nat.le_of_ble_eq_true rfl) dL_law_977 ⟨Nat.le_of_ble_eq_true rfl, Nat.le_of_ble_eq_true rfl⟩ ⟨hc0, hs0⟩ ?_
  rintro r2 w1 H locs ⟨w_m_kept, w_m_images, rfl, hF⟩ hP - hS
  have hP : va_P D CL (LW cy ad rr (S.1, S.2.1, S.2.2.1, S.2.2.2.1, S.2.2.2.2.1, (w_x_images_i0_there, w_x_images_i0_size, w_x_images_i0_date, w_x_images_i0_evening, w_x_images_i0_well, w_x_images_i0_rights, w_x_images_i0_people, w_x_images_i0_memories, w_x_images_i0_purses, w_x_images_i0_lives), S.2.2.2.2.2.2.1, S.2.2.2.2.2.2.2.1, S.2.2.2.2.2.2.2.2.1, S.2.2.2.2.2.2.2.2.2) (M.1, (M.2.1.1, M.2.1.2.1, M.2.1.2.2.1, M.2.1.2.2.2.1, M.2.1.2.2.2.2.1, M.2.1.2.2.2.2.2.1, M.2.1.2.2.2.2.2.2.1, M.2.1.2.2.2.2.2.2.2.1, M.2.1.2.2.2.2.2.2.2.2.1, w_m_images, w_m_kept, M.2.1.2.2.2.2.2.2.2.2.2.2.2.1, M.2.1.2.2.2.2.2.2.2.2.2.2.2.2), M.2.2) ++ nsW ns) H := inpl_P [1, 44, 49, 48] [0, 2, 3, 4, 5, 6, 7, 8, 9, 10, 11, 12, 13, 14, 15, 16, 17, 18, 19, 20, 21, 22, 23, 24, 25, 26, 27, 28, 29, 30, 31, 32, 33, 34, 35, 36, 37, 38, 39, 40, 41, 42, 43, 45, 46, 47, 50, 51, 52, 53, 54, 55, 56, 57, 58, 59, 60, 61, 62] 63 rfl (by decide +kernel) rfl rfl hP
  have hD : va_D (fun q : Nat => s.heap.size ≤ q) (LW cy ad rr (S.1, S.2.1, S.2.2.1, S.2.2.2.1, S.2.2.2.2.1, (w_x_images_i0_there, w_x_images_i0_size, w_x_images_i0_date, w_x_images_i0_evening, w_x_images_i0_well, w_x_images_i0_rights, w_x_images_i0_people, w_x_images_i0_memories, w_x_images_i0_purses, w_x_images_i0_lives), S.2.2.2.2.2.2.1, S.2.2.2.2.2.2.2.1, S.2.2.2.2.2.2.2.2.1, S.2.2.2.2.2.2.2.2.2) (M.1, (M.2.1.1, M.2.1.2.1, M.2.1.2.2.1, M.2.1.2.2.2.1, M.2.1.2.2.2.2.1, M.2.1.2.2.2.2.2.1, M.2.1.2.2.2.2.2.2.1, M.2.1.2.2.2.2.2.2.2.1, M.2.1.2.2.2.2.2.2.2.2.1, w_m_images, w_m_kept, M.2.1.2.2.2.2.2.2.2.2.2.2.2.1, M.2.1.2.2.2.2.2.2.2.2.2.2.2.2), M.2.2) ++ nsW ns) := LW_D hD
  refine W.eq (g2 := F0 m 980 ls [.int r2, .int r]) rfl ?_
  refine lv_icmp_eq (tgt := 1156) hx hb dL_law_980 (by decide) (fun _ => ?_) (fun c9 => absurd hF.1 c9)
  refine W.widen (k := cells + 4) (n := slots + 16) (Nat.le_add_right _ 4) (Nat.le_add_right _ 16) ?_
  exact kk (S.1, S.2.1, S.2.2.1, S.2.2.2.1, S.2.2.2.2.1, (w_x_images_i0_there, w_x_images_i0_size, w_x_images_i0_date, w_x_images_i0_evening, w_x_images_i0_well, w_x_images_i0_rights, w_x_images_i0_people, w_x_images_i0_memories, w_x_images_i0_purses, w_x_images_i0_lives), S.2.2.2.2.2.2.1, S.2.2.2.2.2.2.2.1, S.2.2.2.2.2.2.2.2.1, S.2.2.2.2.2.2.2.2.2) (M.1, (M.2.1.1, M.2.1.2.1, M.2.1.2.2.1, M.2.1.2.2.2.1, M.2.1.2.2.2.2.1, M.2.1.2.2.2.2.2.1, M.2.1.2.2.2.2.2.2.1, M.2.1.2.2.2.2.2.2.2.1, M.2.1.2.2.2.2.2.2.2.2.1, w_m_images, w_m_kept, M.2.1.2.2.2.2.2.2.2.2.2.2.2.1, M.2.1.2.2.2.2.2.2.2.2.2.2.2.2), M.2.2) ns _ _ hF.2 hns hP hD hS

set_option maxHeartbeats 8000000 in
set_option maxRecDepth 100000 in
theorem lc_image_1 {p : Program} {l : Launch} {e : Env} {s : State} {m : MethodId} {below : List Frame} {meth : Method} {c : Code} {D : va_G} {cy : Nat → ClassId} {b L : Nat} {xs : Nat → Int32} {ad rr : Nat → Nat} {Q : State → Prop} {Inv : CS → MS → NS → Prop} (C : Cx p s m #[Value.ref b] meth c (miL meth) D cy) (hX : va_X b L xs s s.heap) (hbl : b < s.heap.size) (hL : L ≤ 384) (hpu : Pu_image_1 Inv) (j : Nat) (hj : j + 6 ≤ L) (h1 : xs (j + 1) = 1) {cells slots : Nat} (hc4 : cells + 4 ≤ 600000) (hs16 : slots + 16 ≤ 7302249) (S : CS) (M : MS) (ns : NS) (hV : Inv S M ns) (hns : NSok ns) (H : Heap) (locs : List Loc) (ls : Array Slot) (hP : va_P D CL (LW cy ad rr S M ++ nsW ns) H) (hD : va_D (fun q : Nat => s.heap.size ≤ q) (LW cy ad rr S M ++ nsW ns)) (hS : va_S (fun q : Nat => s.heap.size ≤ q) s.heap H locs) (hl : lv_has ls 4 [(0, .ref b), (1, .ref (ad 0)), (2, .ref (ad 1)), (3, .int (nI j))]) (kk : ∀ (S2 : CS) (M2 : MS) (ns2 : NS) (H2 : Heap) (locs2 : List Loc), Inv S2 M2 ns2 → NSok ns2 → va_P D CL (LW cy ad rr S2 M2 ++ nsW ns2) H2 → va_D (fun q : Nat => s.heap.size ≤ q) (LW cy ad rr S2 M2 ++ nsW ns2) → va_S (fun q : Nat => s.heap.size ≤ q) s.heap H2 locs2 → W p l e room_1 s m #[Value.ref b] below meth c H2 locs2 (cells + 4) (slots + 16) Q (F0 m 1156 ls [])) : W p l e room_1 s m #[Value.ref b] below meth c H locs cells slots Q (F0 m 962 ls []) := by
  obtain ⟨hx, hb, hr, hml, hown, hts, hK, hlk, hnm⟩ := id C
  have hb : c.code = cL_law := hb
  have hA : ∀ q : Nat, s.heap.size ≤ q → (fun q : Nat => s.heap.size ≤ q) q := fun _ h => h
  have hbA : ¬ (fun q : Nat => s.heap.size ≤ q) b := Nat.not_le.mpr hbl
  have hc0 : cells ≤ 600000 := by omega
  have hs0 : slots ≤ 7302249 := by omega
  have hF := hpu S M ns hV (xs (j + 1)) h1
  refine lv_aload_n hx hb dL_law_962 rfl (lv_at hl 1 rfl) ?_
  refine lv_aload_n hx hb dL_law_963 rfl (lv_at hl 0 rfl) ?_
  refine lv_iload_n hx hb dL_law_964 rfl (lv_at hl 3 rfl) ?_
  refine lv_iconst (v := 1) hx hb dL_law_965 (by decide) ?_
  refine lv_iadd hx hb dL_law_966 ?_
  refine l_sld (j := j + 1) hx hb hX hbl hbA hS (nI_add j 1) (by omega) hL dL_law_967 ?_
  refine cV_tt (T := nsW ns) (As := [.int 1]) (wr := pick (LW cy ad rr S M) [1, 2, 3, 5, 7, 8, 9, 10, 11, 12, 13, 14, 19, 20, 21, 22, 23, 24, 25, 26, 27, 33, 34, 35, 36, 37, 38, 39, 40, 41, 42, 43, 44, 45, 46, 47, 48, 49, 50, 51, 52, 53, 54, 55, 56, 57, 58, 59, 60, 61, 62]) C hA hP hD hS mfX11_image t3_231 t3_232 t3_230 (ccX11_image_1 l D cy (pN ns) (ad 0) (ad 6) (ad 4) (ad 18) (ad 32) (ad 29) (ad 15) (ad 30) (ad 16) (ad 31) (ad 17) (ad 23) (ad 28) (.ref (ad 2)) (.ref (ad 3)) (.ref (ad 5)) (.ref (ad 7)) (.ref (ad 8)) (.ref (ad 9)) S.1.1 S.1.2.1 S.1.2.2.1 S.1.2.2.2 S.2.2.2.2.2.2.1.1 S.2.2.2.2.2.2.1.2.1 S.2.2.2.2.2.2.1.2.2.1 S.2.2.2.2.2.2.1.2.2.2.1 S.2.2.2.2.2.2.1.2.2.2.2.1 S.2.2.2.2.2.2.1.2.2.2.2.2.1 S.2.2.2.1.1 S.2.2.2.1.2.1 S.2.2.2.1.2.2.1 S.2.2.2.1.2.2.2.1 S.2.2.2.1.2.2.2.2.1 S.2.2.2.1.2.2.2.2.2.1 S.2.2.2.1.2.2.2.2.2.2.2.2.2 S.2.2.2.2.2.2.1.2.2.2.2.2.2.2.2.2 S.2.2.2.2.2.2.1.2.2.2.2.2.2.1 S.2.2.2.1.2.2.2.2.2.2.1 S.2.2.2.2.2.2.1.2.2.2.2.2.2.2.1 S.2.2.2.1.2.2.2.2.2.2.2.1 S.2.2.2.2.2.2.1.2.2.2.2.2.2.2.2.1 S.2.2.2.1.2.2.2.2.2.2.2.2.1 _ hF) [0, 6, 28, 4, 18, 32, 29, 15, 30, 16, 31, 17] [1, 2, 3, 5, 7, 8, 9, 10, 11, 12, 13, 14, 19, 20, 21, 22, 23, 24, 25, 26, 27, 33, 34, 35, 36, 37, 38, 39, 40, 41, 42, 43, 44, 45, 46, 47, 48, 49, 50, 51, 52, 53, 54, 55, 56, 57, 58, 59, 60, 61, 62] rfl rfl (by decide) (by decide) (by decide) (po_tail hP hD hns [0, 6, 28, 4, 18, 32, 29, 15, 30, 16, 31, 17] rfl) 0 10 rfl rfl rfl rfl hl.1 (by rw [h1]; rfl) (Nat.le_of_ble_eq_true rfl) dL_law_968 ⟨Nat.le_of_ble_eq_true rfl, Nat.le_of_ble_eq_true rfl⟩ ⟨hc0, hs0⟩ ?_
  rintro r w1 H locs ⟨w_x_images_i1_there, w_x_images_i1_size, w_x_images_i1_date, w_x_images_i1_evening, w_x_images_i1_well, w_x_images_i1_rights, w_x_images_i1_lives, w_x_images_i1_people, w_x_images_i1_memories, w_x_images_i1_purses, rfl, hF⟩ hP - hS
  have hP : va_P D CL (LW cy ad rr (S.1, S.2.1, S.2.2.1, S.2.2.2.1, S.2.2.2.2.1, S.2.2.2.2.2.1, (w_x_images_i1_there, w_x_images_i1_size, w_x_images_i1_date, w_x_images_i1_evening, w_x_images_i1_well, w_x_images_i1_rights, w_x_images_i1_people, w_x_images_i1_memories, w_x_images_i1_purses, w_x_images_i1_lives), S.2.2.2.2.2.2.2.1, S.2.2.2.2.2.2.2.2.1, S.2.2.2.2.2.2.2.2.2) M ++ nsW ns) H := inpl_P [0, 6, 28, 4, 18, 32, 29, 15, 30, 16, 31, 17] [1, 2, 3, 5, 7, 8, 9, 10, 11, 12, 13, 14, 19, 20, 21, 22, 23, 24, 25, 26, 27, 33, 34, 35, 36, 37, 38, 39, 40, 41, 42, 43, 44, 45, 46, 47, 48, 49, 50, 51, 52, 53, 54, 55, 56, 57, 58, 59, 60, 61, 62] 63 rfl (by decide +kernel) rfl rfl hP
  have hD : va_D (fun q : Nat => s.heap.size ≤ q) (LW cy ad rr (S.1, S.2.1, S.2.2.1, S.2.2.2.1, S.2.2.2.2.1, S.2.2.2.2.2.1, (w_x_images_i1_there, w_x_images_i1_size, w_x_images_i1_date, w_x_images_i1_evening, w_x_images_i1_well, w_x_images_i1_rights, w_x_images_i1_people, w_x_images_i1_memories, w_x_images_i1_purses, w_x_images_i1_lives), S.2.2.2.2.2.2.2.1, S.2.2.2.2.2.2.2.2.1, S.2.2.2.2.2.2.2.2.2) M ++ nsW ns) := LW_D hD
  refine W.eq (g2 := F0 m 971 ls [.int r]) rfl ?_
  refine lv_aload_n hx hb dL_law_971 rfl (lv_at hl 2 rfl) ?_
  refine lv_aload_n hx hb dL_law_972 rfl (lv_at hl 0 rfl) ?_
  refine lv_iload_n hx hb dL_law_973 rfl (lv_at hl 3 rfl) ?_
  refine lv_iconst (v := 1) hx hb dL_law_974 (by decide) ?_
  refine lv_iadd hx hb dL_law_975 ?_
  refine l_sld (j := j + 1) hx hb hX hbl hbA hS (nI_add j 1) (by omega) hL dL_law_976 ?_
  refine cV_tt (T := nsW ns) (As := [.int (xs (j + 1))]) (wr := pick (LW cy ad rr (S.1, S.2.1, S.2.2.1, S.2.2.2.1, S.2.2.2.2.1, S.2.2.2.2.2.1, (w_x_images_i1_there, w_x_images_i1_size, w_x_images_i1_date, w_x_images_i1_evening, w_x_images_i1_well, w_x_images_i1_rights, w_x_images_i1_people, w_x_images_i1_memories, w_x_images_i1_purses, w_x_images_i1_lives), S.2.2.2.2.2.2.2.1, S.2.2.2.2.2.2.2.2.1, S.2.2.2.2.2.2.2.2.2) M) [0, 2, 3, 4, 5, 6, 7, 8, 9, 10, 11, 12, 13, 14, 15, 16, 17, 18, 19, 20, 21, 22, 23, 24, 25, 26, 27, 28, 29, 30, 31, 32, 33, 34, 35, 36, 37, 38, 39, 40, 41, 42, 43, 45, 46, 47, 50, 51, 52, 53, 54, 55, 56, 57, 58, 59, 60, 61, 62]) C hA hP hD hS mfX12_image t5_200 t5_201 t5_199 (ccX12_image l D cy (ad 1) (ad 44) (ad 49) (ad 48) (.ref (ad 39)) (.ref (ad 40)) (.ref (ad 41)) (.ref (ad 42)) (.ref (ad 43)) (.ref (ad 45)) (.ref (ad 46)) (.ref (ad 47)) (.ref (ad 50)) (.ref (ad 51)) (.ref (ad 52)) (.ref (ad 53)) (.ref (ad 54)) M.1.1 M.1.2.1 M.1.2.2.1 M.1.2.2.2.1 M.1.2.2.2.2.1 M.1.2.2.2.2.2.1 M.1.2.2.2.2.2.2.1 M.1.2.2.2.2.2.2.2.1 M.1.2.2.2.2.2.2.2.2.1 M.1.2.2.2.2.2.2.2.2.2.1 M.1.2.2.2.2.2.2.2.2.2.2 M.2.1.2.2.2.2.2.1 M.2.1.2.2.2.2.2.2.2.2.2.2.1 M.2.1.2.2.2.2.2.2.2.2.2.1 (xs (j + 1)) _ hF) [1, 44, 49, 48] [0, 2, 3, 4, 5, 6, 7, 8, 9, 10, 11, 12, 13, 14, 15, 16, 17, 18, 19, 20, 21, 22, 23, 24, 25, 26, 27, 28, 29, 30, 31, 32, 33, 34, 35, 36, 37, 38, 39, 40, 41, 42, 43, 45, 46, 47, 50, 51, 52, 53, 54, 55, 56, 57, 58, 59, 60, 61, 62] rfl rfl (by decide) (by decide) (by decide) PO.np 1 11 rfl rfl rfl rfl hl.1 rfl (Nat.le_of_ble_eq_true rfl) dL_law_977 ⟨Nat.le_of_ble_eq_true rfl, Nat.le_of_ble_eq_true rfl⟩ ⟨hc0, hs0⟩ ?_
  rintro r2 w1 H locs ⟨w_m_kept, w_m_images, rfl, hF⟩ hP - hS
  have hP : va_P D CL (LW cy ad rr (S.1, S.2.1, S.2.2.1, S.2.2.2.1, S.2.2.2.2.1, S.2.2.2.2.2.1, (w_x_images_i1_there, w_x_images_i1_size, w_x_images_i1_date, w_x_images_i1_evening, w_x_images_i1_well, w_x_images_i1_rights, w_x_images_i1_people, w_x_images_i1_memories, w_x_images_i1_purses, w_x_images_i1_lives), S.2.2.2.2.2.2.2.1, S.2.2.2.2.2.2.2.2.1, S.2.2.2.2.2.2.2.2.2) (M.1, (M.2.1.1, M.2.1.2.1, M.2.1.2.2.1, M.2.1.2.2.2.1, M.2.1.2.2.2.2.1, M.2.1.2.2.2.2.2.1, M.2.1.2.2.2.2.2.2.1, M.2.1.2.2.2.2.2.2.2.1, M.2.1.2.2.2.2.2.2.2.2.1, w_m_images, w_m_kept, M.2.1.2.2.2.2.2.2.2.2.2.2.2.1, M.2.1.2.2.2.2.2.2.2.2.2.2.2.2), M.2.2) ++ nsW ns) H := inpl_P [1, 44, 49, 48] [0, 2, 3, 4, 5, 6, 7, 8, 9, 10, 11, 12, 13, 14, 15, 16, 17, 18, 19, 20, 21, 22, 23, 24, 25, 26, 27, 28, 29, 30, 31, 32, 33, 34, 35, 36, 37, 38, 39, 40, 41, 42, 43, 45, 46, 47, 50, 51, 52, 53, 54, 55, 56, 57, 58, 59, 60, 61, 62] 63 rfl (by decide +kernel) rfl rfl hP
  have hD : va_D (fun q : Nat => s.heap.size ≤ q) (LW cy ad rr (S.1, S.2.1, S.2.2.1, S.2.2.2.1, S.2.2.2.2.1, S.2.2.2.2.2.1, (w_x_images_i1_there, w_x_images_i1_size, w_x_images_i1_date, w_x_images_i1_evening, w_x_images_i1_well, w_x_images_i1_rights, w_x_images_i1_people, w_x_images_i1_memories, w_x_images_i1_purses, w_x_images_i1_lives), S.2.2.2.2.2.2.2.1, S.2.2.2.2.2.2.2.2.1, S.2.2.2.2.2.2.2.2.2) (M.1, (M.2.1.1, M.2.1.2.1, M.2.1.2.2.1, M.2.1.2.2.2.1, M.2.1.2.2.2.2.1, M.2.1.2.2.2.2.2.1, M.2.1.2.2.2.2.2.2.1, M.2.1.2.2.2.2.2.2.2.1, M.2.1.2.2.2.2.2.2.2.2.1, w_m_images, w_m_kept, M.2.1.2.2.2.2.2.2.2.2.2.2.2.1, M.2.1.2.2.2.2.2.2.2.2.2.2.2.2), M.2.2) ++ nsW ns) := LW_D hD
  refine W.eq (g2 := F0 m 980 ls [.int r2, .int r]) rfl ?_
  refine lv_icmp_eq (tgt := 1156) hx hb dL_law_980 (by decide) (fun _ => ?_) (fun c9 => absurd hF.1 c9)
  refine W.widen (k := cells + 4) (n := slots + 16) (Nat.le_add_right _ 4) (Nat.le_add_right _ 16) ?_
  exact kk (S.1, S.2.1, S.2.2.1, S.2.2.2.1, S.2.2.2.2.1, S.2.2.2.2.2.1, (w_x_images_i1_there, w_x_images_i1_size, w_x_images_i1_date, w_x_images_i1_evening, w_x_images_i1_well, w_x_images_i1_rights, w_x_images_i1_people, w_x_images_i1_memories, w_x_images_i1_purses, w_x_images_i1_lives), S.2.2.2.2.2.2.2.1, S.2.2.2.2.2.2.2.2.1, S.2.2.2.2.2.2.2.2.2) (M.1, (M.2.1.1, M.2.1.2.1, M.2.1.2.2.1, M.2.1.2.2.2.1, M.2.1.2.2.2.2.1, M.2.1.2.2.2.2.2.1, M.2.1.2.2.2.2.2.2.1, M.2.1.2.2.2.2.2.2.2.1, M.2.1.2.2.2.2.2.2.2.2.1, w_m_images, w_m_kept, M.2.1.2.2.2.2.2.2.2.2.2.2.2.1, M.2.1.2.2.2.2.2.2.2.2.2.2.2.2), M.2.2) ns _ _ hF.2 hns hP hD hS

set_option maxHeartbeats 8000000 in
set_option maxRecDepth 100000 in
theorem lc_image_o {p : Program} {l : Launch} {e : Env} {s : State} {m : MethodId} {below : List Frame} {meth : Method} {c : Code} {D : va_G} {cy : Nat → ClassId} {b L : Nat} {xs : Nat → Int32} {ad rr : Nat → Nat} {Q : State → Prop} {Inv : CS → MS → NS → Prop} (C : Cx p s m #[Value.ref b] meth c (miL meth) D cy) (hX : va_X b L xs s s.heap) (hbl : b < s.heap.size) (hL : L ≤ 384) (hpu : Pu_image_o Inv) (j : Nat) (hj : j + 6 ≤ L) (h0 : ¬ xs (j + 1) = 0) (h1 : ¬ xs (j + 1) = 1) {cells slots : Nat} (hc4 : cells + 4 ≤ 600000) (hs16 : slots + 16 ≤ 7302249) (S : CS) (M : MS) (ns : NS) (hV : Inv S M ns) (hns : NSok ns) (H : Heap) (locs : List Loc) (ls : Array Slot) (hP : va_P D CL (LW cy ad rr S M ++ nsW ns) H) (hD : va_D (fun q : Nat => s.heap.size ≤ q) (LW cy ad rr S M ++ nsW ns)) (hS : va_S (fun q : Nat => s.heap.size ≤ q) s.heap H locs) (hl : lv_has ls 4 [(0, .ref b), (1, .ref (ad 0)), (2, .ref (ad 1)), (3, .int (nI j))]) (kk : ∀ (S2 : CS) (M2 : MS) (ns2 : NS) (H2 : Heap) (locs2 : List Loc), Inv S2 M2 ns2 → NSok ns2 → va_P D CL (LW cy ad rr S2 M2 ++ nsW ns2) H2 → va_D (fun q : Nat => s.heap.size ≤ q) (LW cy ad rr S2 M2 ++ nsW ns2) → va_S (fun q : Nat => s.heap.size ≤ q) s.heap H2 locs2 → W p l e room_1 s m #[Value.ref b] below meth c H2 locs2 (cells + 4) (slots + 16) Q (F0 m 1156 ls [])) : W p l e room_1 s m #[Value.ref b] below meth c H locs cells slots Q (F0 m 962 ls []) := by
  obtain ⟨hx, hb, hr, hml, hown, hts, hK, hlk, hnm⟩ := id C
  have hb : c.code = cL_law := hb
  have hA : ∀ q : Nat, s.heap.size ≤ q → (fun q : Nat => s.heap.size ≤ q) q := fun _ h => h
  have hbA : ¬ (fun q : Nat => s.heap.size ≤ q) b := Nat.not_le.mpr hbl
  have hc0 : cells ≤ 600000 := by omega
  have hs0 : slots ≤ 7302249 := by omega
  have hF := hpu S M ns hV (xs (j + 1)) h0 h1
  refine lv_aload_n hx hb dL_law_962 rfl (lv_at hl 1 rfl) ?_
  refine lv_aload_n hx hb dL_law_963 rfl (lv_at hl 0 rfl) ?_
  refine lv_iload_n hx hb dL_law_964 rfl (lv_at hl 3 rfl) ?_
  refine lv_iconst (v := 1) hx hb dL_law_965 (by decide) ?_
  refine lv_iadd hx hb dL_law_966 ?_
  refine l_sld (j := j + 1) hx hb hX hbl hbA hS (nI_add j 1) (by omega) hL dL_law_967 ?_
  refine cV_r (As := [.int (xs (j + 1))]) C mfX11_image t3_231 t3_232 t3_230 (ccX11_image_o l D cy (ad 0) (ad 6) (ad 23) (ad 28) (.ref (ad 2)) (.ref (ad 3)) (.ref (ad 4)) (.ref (ad 5)) (.ref (ad 7)) (.ref (ad 8)) (.ref (ad 9)) S.1.1 S.1.2.1 S.1.2.2.1 S.1.2.2.2 (xs (j + 1)) _ hF) rfl rfl (hP.left.sub [0, 6] rfl) PR.np hP.left 0 10 rfl rfl rfl rfl hl.1 rfl (Nat.le_of_ble_eq_true rfl) dL_law_968 ⟨Nat.le_of_ble_eq_true rfl, Nat.le_of_ble_eq_true rfl⟩ ⟨hc0, hs0⟩ ?_
  intro r hF
  refine W.eq (g2 := F0 m 971 ls [.int r]) rfl ?_
  refine lv_aload_n hx hb dL_law_971 rfl (lv_at hl 2 rfl) ?_
  refine lv_aload_n hx hb dL_law_972 rfl (lv_at hl 0 rfl) ?_
  refine lv_iload_n hx hb dL_law_973 rfl (lv_at hl 3 rfl) ?_
  refine lv_iconst (v := 1) hx hb dL_law_974 (by decide) ?_
  refine lv_iadd hx hb dL_law_975 ?_
  refine l_sld (j := j + 1) hx hb hX hbl hbA hS (nI_add j 1) (by omega) hL dL_law_976 ?_
  refine cV_tt (T := nsW ns) (As := [.int (xs (j + 1))]) (wr := pick (LW cy ad rr S M) [0, 2, 3, 4, 5, 6, 7, 8, 9, 10, 11, 12, 13, 14, 15, 16, 17, 18, 19, 20, 21, 22, 23, 24, 25, 26, 27, 28, 29, 30, 31, 32, 33, 34, 35, 36, 37, 38, 39, 40, 41, 42, 43, 45, 46, 47, 50, 51, 52, 53, 54, 55, 56, 57, 58, 59, 60, 61, 62]) C hA hP hD hS mfX12_image t5_200 t5_201 t5_199 (ccX12_image l D cy (ad 1) (ad 44) (ad 49) (ad 48) (.ref (ad 39)) (.ref (ad 40)) (.ref (ad 41)) (.ref (ad 42)) (.ref (ad 43)) (.ref (ad 45)) (.ref (ad 46)) (.ref (ad 47)) (.ref (ad 50)) (.ref (ad 51)) (.ref (ad 52)) (.ref (ad 53)) (.ref (ad 54)) M.1.1 M.1.2.1 M.1.2.2.1 M.1.2.2.2.1 M.1.2.2.2.2.1 M.1.2.2.2.2.2.1 M.1.2.2.2.2.2.2.1 M.1.2.2.2.2.2.2.2.1 M.1.2.2.2.2.2.2.2.2.1 M.1.2.2.2.2.2.2.2.2.2.1 M.1.2.2.2.2.2.2.2.2.2.2 M.2.1.2.2.2.2.2.1 M.2.1.2.2.2.2.2.2.2.2.2.2.1 M.2.1.2.2.2.2.2.2.2.2.2.1 (xs (j + 1)) _ hF) [1, 44, 49, 48] [0, 2, 3, 4, 5, 6, 7, 8, 9, 10, 11, 12, 13, 14, 15, 16, 17, 18, 19, 20, 21, 22, 23, 24, 25, 26, 27, 28, 29, 30, 31, 32, 33, 34, 35, 36, 37, 38, 39, 40, 41, 42, 43, 45, 46, 47, 50, 51, 52, 53, 54, 55, 56, 57, 58, 59, 60, 61, 62] rfl rfl (by decide) (by decide) (by decide) PO.np 1 11 rfl rfl rfl rfl hl.1 rfl (Nat.le_of_ble_eq_true rfl) dL_law_977 ⟨Nat.le_of_ble_eq_true rfl, Nat.le_of_ble_eq_true rfl⟩ ⟨hc0, hs0⟩ ?_
  rintro r2 w1 H locs ⟨w_m_kept, w_m_images, rfl, hF⟩ hP - hS
  have hP : va_P D CL (LW cy ad rr S (M.1, (M.2.1.1, M.2.1.2.1, M.2.1.2.2.1, M.2.1.2.2.2.1, M.2.1.2.2.2.2.1, M.2.1.2.2.2.2.2.1, M.2.1.2.2.2.2.2.2.1, M.2.1.2.2.2.2.2.2.2.1, M.2.1.2.2.2.2.2.2.2.2.1, w_m_images, w_m_kept, M.2.1.2.2.2.2.2.2.2.2.2.2.2.1, M.2.1.2.2.2.2.2.2.2.2.2.2.2.2), M.2.2) ++ nsW ns) H := inpl_P [1, 44, 49, 48] [0, 2, 3, 4, 5, 6, 7, 8, 9, 10, 11, 12, 13, 14, 15, 16, 17, 18, 19, 20, 21, 22, 23, 24, 25, 26, 27, 28, 29, 30, 31, 32, 33, 34, 35, 36, 37, 38, 39, 40, 41, 42, 43, 45, 46, 47, 50, 51, 52, 53, 54, 55, 56, 57, 58, 59, 60, 61, 62] 63 rfl (by decide +kernel) rfl rfl hP
  have hD : va_D (fun q : Nat => s.heap.size ≤ q) (LW cy ad rr S (M.1, (M.2.1.1, M.2.1.2.1, M.2.1.2.2.1, M.2.1.2.2.2.1, M.2.1.2.2.2.2.1, M.2.1.2.2.2.2.2.1, M.2.1.2.2.2.2.2.2.1, M.2.1.2.2.2.2.2.2.2.1, M.2.1.2.2.2.2.2.2.2.2.1, w_m_images, w_m_kept, M.2.1.2.2.2.2.2.2.2.2.2.2.2.1, M.2.1.2.2.2.2.2.2.2.2.2.2.2.2), M.2.2) ++ nsW ns) := LW_D hD
  refine W.eq (g2 := F0 m 980 ls [.int r2, .int r]) rfl ?_
  refine lv_icmp_eq (tgt := 1156) hx hb dL_law_980 (by decide) (fun _ => ?_) (fun c9 => absurd hF.1 c9)
  refine W.widen (k := cells + 4) (n := slots + 16) (Nat.le_add_right _ 4) (Nat.le_add_right _ 16) ?_
  exact kk S (M.1, (M.2.1.1, M.2.1.2.1, M.2.1.2.2.1, M.2.1.2.2.2.1, M.2.1.2.2.2.2.1, M.2.1.2.2.2.2.2.1, M.2.1.2.2.2.2.2.2.1, M.2.1.2.2.2.2.2.2.2.1, M.2.1.2.2.2.2.2.2.2.2.1, w_m_images, w_m_kept, M.2.1.2.2.2.2.2.2.2.2.2.2.2.1, M.2.1.2.2.2.2.2.2.2.2.2.2.2.2), M.2.2) ns _ _ hF.2 hns hP hD hS

set_option maxHeartbeats 8000000 in
set_option maxRecDepth 100000 in
theorem lc_restore_0 {p : Program} {l : Launch} {e : Env} {s : State} {m : MethodId} {below : List Frame} {meth : Method} {c : Code} {D : va_G} {cy : Nat → ClassId} {b L : Nat} {xs : Nat → Int32} {ad rr : Nat → Nat} {Q : State → Prop} {Inv : CS → MS → NS → Prop} (C : Cx p s m #[Value.ref b] meth c (miL meth) D cy) (hX : va_X b L xs s s.heap) (hbl : b < s.heap.size) (hL : L ≤ 384) (hpu : Pu_restore_0 Inv) (j : Nat) (hj : j + 6 ≤ L) (h0 : xs (j + 1) = 0) {cells slots : Nat} (hc4 : cells + 4 ≤ 600000) (hs16 : slots + 16 ≤ 7302249) (S : CS) (M : MS) (ns : NS) (hV : Inv S M ns) (hns : NSok ns) (H : Heap) (locs : List Loc) (ls : Array Slot) (hP : va_P D CL (LW cy ad rr S M ++ nsW ns) H) (hD : va_D (fun q : Nat => s.heap.size ≤ q) (LW cy ad rr S M ++ nsW ns)) (hS : va_S (fun q : Nat => s.heap.size ≤ q) s.heap H locs) (hl : lv_has ls 4 [(0, .ref b), (1, .ref (ad 0)), (2, .ref (ad 1)), (3, .int (nI j))]) (kk : ∀ (S2 : CS) (M2 : MS) (ns2 : NS) (H2 : Heap) (locs2 : List Loc), Inv S2 M2 ns2 → NSok ns2 → va_P D CL (LW cy ad rr S2 M2 ++ nsW ns2) H2 → va_D (fun q : Nat => s.heap.size ≤ q) (LW cy ad rr S2 M2 ++ nsW ns2) → va_S (fun q : Nat => s.heap.size ≤ q) s.heap H2 locs2 → W p l e room_1 s m #[Value.ref b] below meth c H2 locs2 (cells + 4) (slots + 16) Q (F0 m 1156 ls [])) : W p l e room_1 s m #[Value.ref b] below meth c H locs cells slots Q (F0 m 985 ls []) := by
  obtain ⟨hx, hb, hr, hml, hown, hts, hK, hlk, hnm⟩ := id C
  have hb : c.code = cL_law := hb
  have hA : ∀ q : Nat, s.heap.size ≤ q → (fun q : Nat => s.heap.size ≤ q) q := fun _ h => h
  have hbA : ¬ (fun q : Nat => s.heap.size ≤ q) b := Nat.not_le.mpr hbl
  have hc0 : cells ≤ 600000 := by omega
  have hs0 : slots ≤ 7302249 := by omega
  have hF := hpu S M ns hV (xs (j + 1)) h0
  refine lv_aload_n hx hb dL_law_985 rfl (lv_at hl 1 rfl) ?_
  refine lv_aload_n hx hb dL_law_986 rfl (lv_at hl 0 rfl) ?_
  refine lv_iload_n hx hb dL_law_987 rfl (lv_at hl 3 rfl) ?_
  refine lv_iconst (v := 1) hx hb dL_law_988 (by decide) ?_
  refine lv_iadd hx hb dL_law_989 ?_
  refine l_sld (j := j + 1) hx hb hX hbl hbA hS (nI_add j 1) (by omega) hL dL_law_990 ?_
  refine cV_tt (T := nsW ns) (As := [.int 0]) (wr := pick (LW cy ad rr S M) [1, 2, 3, 5, 7, 8, 9, 10, 11, 12, 13, 14, 19, 20, 21, 22, 28, 29, 30, 31, 32, 33, 34, 35, 36, 37, 38, 39, 40, 41, 42, 43, 44, 45, 46, 47, 48, 49, 50, 51, 52, 53, 54, 55, 56, 57, 58, 59, 60, 61, 62]) C hA hP hD hS mfX11_restore t3_239 t4_0 t3_238 (ccX11_restore_0 l D cy (pN ns) (ad 0) (ad 6) (ad 4) (ad 27) (ad 18) (ad 15) (ad 24) (ad 16) (ad 25) (ad 17) (ad 26) (ad 23) (ad 28) (.ref (ad 2)) (.ref (ad 3)) (.ref (ad 5)) (.ref (ad 7)) (.ref (ad 8)) (.ref (ad 9)) S.1.1 S.1.2.1 S.1.2.2.1 S.1.2.2.2 S.2.2.2.2.2.1.1 S.2.2.2.2.2.1.2.1 S.2.2.2.2.2.1.2.2.1 S.2.2.2.2.2.1.2.2.2.1 S.2.2.2.2.2.1.2.2.2.2.1 S.2.2.2.2.2.1.2.2.2.2.2.1 S.2.2.2.1.1 S.2.2.2.1.2.1 S.2.2.2.1.2.2.1 S.2.2.2.1.2.2.2.1 S.2.2.2.1.2.2.2.2.1 S.2.2.2.1.2.2.2.2.2.1 S.2.2.2.2.2.1.2.2.2.2.2.2.2.2.2 S.2.2.2.1.2.2.2.2.2.2.2.2.2 S.2.2.2.1.2.2.2.2.2.2.1 S.2.2.2.2.2.1.2.2.2.2.2.2.1 S.2.2.2.1.2.2.2.2.2.2.2.1 S.2.2.2.2.2.1.2.2.2.2.2.2.2.1 S.2.2.2.1.2.2.2.2.2.2.2.2.1 S.2.2.2.2.2.1.2.2.2.2.2.2.2.2.1 _ hF) [0, 6, 23, 4, 27, 18, 15, 24, 16, 25, 17, 26] [1, 2, 3, 5, 7, 8, 9, 10, 11, 12, 13, 14, 19, 20, 21, 22, 28, 29, 30, 31, 32, 33, 34, 35, 36, 37, 38, 39, 40, 41, 42, 43, 44, 45, 46, 47, 48, 49, 50, 51, 52, 53, 54, 55, 56, 57, 58, 59, 60, 61, 62] rfl rfl (by decide) (by decide) (by decide) (po_tail hP hD hns [0, 6, 23, 4, 27, 18, 15, 24, 16, 25, 17, 26] rfl) 0 10 rfl rfl rfl rfl hl.1 (by rw [h0]; rfl) (Nat.le_of_ble_eq_true rfl) dL_law_991 ⟨Nat.le_of_ble_eq_true rfl, Nat.le_of_ble_eq_true rfl⟩ ⟨hc0, hs0⟩ ?_
  rintro r w1 H locs ⟨w_x_keptActs, w_x_now_there, w_x_now_size, w_x_now_date, w_x_now_evening, w_x_now_well, w_x_now_rights, w_x_now_lives, w_x_now_people, w_x_now_memories, w_x_now_purses, rfl, hF⟩ hP - hS
  have hP : va_P D CL (LW cy ad rr ((S.1.1, w_x_keptActs, S.1.2.2.1, S.1.2.2.2), S.2.1, S.2.2.1, (w_x_now_there, w_x_now_size, w_x_now_date, w_x_now_evening, w_x_now_well, w_x_now_rights, w_x_now_people, w_x_now_memories, w_x_now_purses, w_x_now_lives), S.2.2.2.2.1, S.2.2.2.2.2.1, S.2.2.2.2.2.2.1, S.2.2.2.2.2.2.2.1, S.2.2.2.2.2.2.2.2.1, S.2.2.2.2.2.2.2.2.2) M ++ nsW ns) H := inpl_P [0, 6, 23, 4, 27, 18, 15, 24, 16, 25, 17, 26] [1, 2, 3, 5, 7, 8, 9, 10, 11, 12, 13, 14, 19, 20, 21, 22, 28, 29, 30, 31, 32, 33, 34, 35, 36, 37, 38, 39, 40, 41, 42, 43, 44, 45, 46, 47, 48, 49, 50, 51, 52, 53, 54, 55, 56, 57, 58, 59, 60, 61, 62] 63 rfl (by decide +kernel) rfl rfl hP
  have hD : va_D (fun q : Nat => s.heap.size ≤ q) (LW cy ad rr ((S.1.1, w_x_keptActs, S.1.2.2.1, S.1.2.2.2), S.2.1, S.2.2.1, (w_x_now_there, w_x_now_size, w_x_now_date, w_x_now_evening, w_x_now_well, w_x_now_rights, w_x_now_people, w_x_now_memories, w_x_now_purses, w_x_now_lives), S.2.2.2.2.1, S.2.2.2.2.2.1, S.2.2.2.2.2.2.1, S.2.2.2.2.2.2.2.1, S.2.2.2.2.2.2.2.2.1, S.2.2.2.2.2.2.2.2.2) M ++ nsW ns) := LW_D hD
  refine W.eq (g2 := F0 m 994 ls [.int r]) rfl ?_
  refine lv_aload_n hx hb dL_law_994 rfl (lv_at hl 2 rfl) ?_
  refine lv_aload_n hx hb dL_law_995 rfl (lv_at hl 0 rfl) ?_
  refine lv_iload_n hx hb dL_law_996 rfl (lv_at hl 3 rfl) ?_
  refine lv_iconst (v := 1) hx hb dL_law_997 (by decide) ?_
  refine lv_iadd hx hb dL_law_998 ?_
  refine l_sld (j := j + 1) hx hb hX hbl hbA hS (nI_add j 1) (by omega) hL dL_law_999 ?_
  refine cV_tt (T := nsW ns) (As := [.int (xs (j + 1))]) (wr := pick (LW cy ad rr ((S.1.1, w_x_keptActs, S.1.2.2.1, S.1.2.2.2), S.2.1, S.2.2.1, (w_x_now_there, w_x_now_size, w_x_now_date, w_x_now_evening, w_x_now_well, w_x_now_rights, w_x_now_people, w_x_now_memories, w_x_now_purses, w_x_now_lives), S.2.2.2.2.1, S.2.2.2.2.2.1, S.2.2.2.2.2.2.1, S.2.2.2.2.2.2.2.1, S.2.2.2.2.2.2.2.2.1, S.2.2.2.2.2.2.2.2.2) M) [0, 2, 3, 4, 5, 6, 7, 8, 9, 10, 11, 12, 13, 14, 15, 16, 17, 18, 19, 20, 21, 22, 23, 24, 25, 26, 27, 28, 29, 30, 31, 32, 33, 34, 35, 36, 37, 38, 39, 40, 41, 42, 43, 45, 46, 47, 50, 51, 52, 53, 54, 55, 56, 57, 58, 59, 60, 61, 62]) C hA hP hD hS mfX12_restore t5_204 t5_205 t5_203 (ccX12_restore l D cy (ad 1) (ad 49) (ad 44) (ad 48) (.ref (ad 39)) (.ref (ad 40)) (.ref (ad 41)) (.ref (ad 42)) (.ref (ad 43)) (.ref (ad 45)) (.ref (ad 46)) (.ref (ad 47)) (.ref (ad 50)) (.ref (ad 51)) (.ref (ad 52)) (.ref (ad 53)) (.ref (ad 54)) M.1.1 M.1.2.1 M.1.2.2.1 M.1.2.2.2.1 M.1.2.2.2.2.1 M.1.2.2.2.2.2.1 M.1.2.2.2.2.2.2.1 M.1.2.2.2.2.2.2.2.1 M.1.2.2.2.2.2.2.2.2.1 M.1.2.2.2.2.2.2.2.2.2.1 M.1.2.2.2.2.2.2.2.2.2.2 M.2.1.2.2.2.2.2.2.2.2.2.2.1 M.2.1.2.2.2.2.2.1 M.2.1.2.2.2.2.2.2.2.2.2.1 (xs (j + 1)) _ hF) [1, 49, 44, 48] [0, 2, 3, 4, 5, 6, 7, 8, 9, 10, 11, 12, 13, 14, 15, 16, 17, 18, 19, 20, 21, 22, 23, 24, 25, 26, 27, 28, 29, 30, 31, 32, 33, 34, 35, 36, 37, 38, 39, 40, 41, 42, 43, 45, 46, 47, 50, 51, 52, 53, 54, 55, 56, 57, 58, 59, 60, 61, 62] rfl rfl (by decide) (by decide) (by decide) PO.np 1 11 rfl rfl rfl rfl hl.1 rfl (Nat.le_of_ble_eq_true rfl) dL_law_1000 ⟨Nat.le_of_ble_eq_true rfl, Nat.le_of_ble_eq_true rfl⟩ ⟨hc0, hs0⟩ ?_
  rintro r2 w1 H locs ⟨w_m_acts, w_m_now, rfl, hF⟩ hP - hS
  have hP : va_P D CL (LW cy ad rr ((S.1.1, w_x_keptActs, S.1.2.2.1, S.1.2.2.2), S.2.1, S.2.2.1, (w_x_now_there, w_x_now_size, w_x_now_date, w_x_now_evening, w_x_now_well, w_x_now_rights, w_x_now_people, w_x_now_memories, w_x_now_purses, w_x_now_lives), S.2.2.2.2.1, S.2.2.2.2.2.1, S.2.2.2.2.2.2.1, S.2.2.2.2.2.2.2.1, S.2.2.2.2.2.2.2.2.1, S.2.2.2.2.2.2.2.2.2) ((M.1.1, M.1.2.1, M.1.2.2.1, M.1.2.2.2.1, M.1.2.2.2.2.1, M.1.2.2.2.2.2.1, M.1.2.2.2.2.2.2.1, M.1.2.2.2.2.2.2.2.1, w_m_acts, M.1.2.2.2.2.2.2.2.2.2.1, M.1.2.2.2.2.2.2.2.2.2.2), (M.2.1.1, M.2.1.2.1, M.2.1.2.2.1, M.2.1.2.2.2.1, M.2.1.2.2.2.2.1, w_m_now, M.2.1.2.2.2.2.2.2.1, M.2.1.2.2.2.2.2.2.2.1, M.2.1.2.2.2.2.2.2.2.2.1, M.2.1.2.2.2.2.2.2.2.2.2.1, M.2.1.2.2.2.2.2.2.2.2.2.2.1, M.2.1.2.2.2.2.2.2.2.2.2.2.2.1, M.2.1.2.2.2.2.2.2.2.2.2.2.2.2), M.2.2) ++ nsW ns) H := inpl_P [1, 49, 44, 48] [0, 2, 3, 4, 5, 6, 7, 8, 9, 10, 11, 12, 13, 14, 15, 16, 17, 18, 19, 20, 21, 22, 23, 24, 25, 26, 27, 28, 29, 30, 31, 32, 33, 34, 35, 36, 37, 38, 39, 40, 41, 42, 43, 45, 46, 47, 50, 51, 52, 53, 54, 55, 56, 57, 58, 59, 60, 61, 62] 63 rfl (by decide +kernel) rfl rfl hP
  have hD : va_D (fun q : Nat => s.heap.size ≤ q) (LW cy ad rr ((S.1.1, w_x_keptActs, S.1.2.2.1, S.1.2.2.2), S.2.1, S.2.2.1, (w_x_now_there, w_x_now_size, w_x_now_date, w_x_now_evening, w_x_now_well, w_x_now_rights, w_x_now_people, w_x_now_memories, w_x_now_purses, w_x_now_lives), S.2.2.2.2.1, S.2.2.2.2.2.1, S.2.2.2.2.2.2.1, S.2.2.2.2.2.2.2.1, S.2.2.2.2.2.2.2.2.1, S.2.2.2.2.2.2.2.2.2) ((M.1.1, M.1.2.1, M.1.2.2.1, M.1.2.2.2.1, M.1.2.2.2.2.1, M.1.2.2.2.2.2.1, M.1.2.2.2.2.2.2.1, M.1.2.2.2.2.2.2.2.1, w_m_acts, M.1.2.2.2.2.2.2.2.2.2.1, M.1.2.2.2.2.2.2.2.2.2.2), (M.2.1.1, M.2.1.2.1, M.2.1.2.2.1, M.2.1.2.2.2.1, M.2.1.2.2.2.2.1, w_m_now, M.2.1.2.2.2.2.2.2.1, M.2.1.2.2.2.2.2.2.2.1, M.2.1.2.2.2.2.2.2.2.2.1, M.2.1.2.2.2.2.2.2.2.2.2.1, M.2.1.2.2.2.2.2.2.2.2.2.2.1, M.2.1.2.2.2.2.2.2.2.2.2.2.2.1, M.2.1.2.2.2.2.2.2.2.2.2.2.2.2), M.2.2) ++ nsW ns) := LW_D hD
  refine W.eq (g2 := F0 m 1003 ls [.int r2, .int r]) rfl ?_
  refine lv_icmp_eq (tgt := 1156) hx hb dL_law_1003 (by decide) (fun _ => ?_) (fun c9 => absurd hF.1 c9)
  refine W.widen (k := cells + 4) (n := slots + 16) (Nat.le_add_right _ 4) (Nat.le_add_right _ 16) ?_
  exact kk ((S.1.1, w_x_keptActs, S.1.2.2.1, S.1.2.2.2), S.2.1, S.2.2.1, (w_x_now_there, w_x_now_size, w_x_now_date, w_x_now_evening, w_x_now_well, w_x_now_rights, w_x_now_people, w_x_now_memories, w_x_now_purses, w_x_now_lives), S.2.2.2.2.1, S.2.2.2.2.2.1, S.2.2.2.2.2.2.1, S.2.2.2.2.2.2.2.1, S.2.2.2.2.2.2.2.2.1, S.2.2.2.2.2.2.2.2.2) ((M.1.1, M.1.2.1, M.1.2.2.1, M.1.2.2.2.1, M.1.2.2.2.2.1, M.1.2.2.2.2.2.1, M.1.2.2.2.2.2.2.1, M.1.2.2.2.2.2.2.2.1, w_m_acts, M.1.2.2.2.2.2.2.2.2.2.1, M.1.2.2.2.2.2.2.2.2.2.2), (M.2.1.1, M.2.1.2.1, M.2.1.2.2.1, M.2.1.2.2.2.1, M.2.1.2.2.2.2.1, w_m_now, M.2.1.2.2.2.2.2.2.1, M.2.1.2.2.2.2.2.2.2.1, M.2.1.2.2.2.2.2.2.2.2.1, M.2.1.2.2.2.2.2.2.2.2.2.1, M.2.1.2.2.2.2.2.2.2.2.2.2.1, M.2.1.2.2.2.2.2.2.2.2.2.2.2.1, M.2.1.2.2.2.2.2.2.2.2.2.2.2.2), M.2.2) ns _ _ hF.2 hns hP hD hS

set_option maxHeartbeats 8000000 in
set_option maxRecDepth 100000 in
theorem lc_restore_1 {p : Program} {l : Launch} {e : Env} {s : State} {m : MethodId} {below : List Frame} {meth : Method} {c : Code} {D : va_G} {cy : Nat → ClassId} {b L : Nat} {xs : Nat → Int32} {ad rr : Nat → Nat} {Q : State → Prop} {Inv : CS → MS → NS → Prop} (C : Cx p s m #[Value.ref b] meth c (miL meth) D cy) (hX : va_X b L xs s s.heap) (hbl : b < s.heap.size) (hL : L ≤ 384) (hpu : Pu_restore_1 Inv) (j : Nat) (hj : j + 6 ≤ L) (h1 : xs (j + 1) = 1) {cells slots : Nat} (hc4 : cells + 4 ≤ 600000) (hs16 : slots + 16 ≤ 7302249) (S : CS) (M : MS) (ns : NS) (hV : Inv S M ns) (hns : NSok ns) (H : Heap) (locs : List Loc) (ls : Array Slot) (hP : va_P D CL (LW cy ad rr S M ++ nsW ns) H) (hD : va_D (fun q : Nat => s.heap.size ≤ q) (LW cy ad rr S M ++ nsW ns)) (hS : va_S (fun q : Nat => s.heap.size ≤ q) s.heap H locs) (hl : lv_has ls 4 [(0, .ref b), (1, .ref (ad 0)), (2, .ref (ad 1)), (3, .int (nI j))]) (kk : ∀ (S2 : CS) (M2 : MS) (ns2 : NS) (H2 : Heap) (locs2 : List Loc), Inv S2 M2 ns2 → NSok ns2 → va_P D CL (LW cy ad rr S2 M2 ++ nsW ns2) H2 → va_D (fun q : Nat => s.heap.size ≤ q) (LW cy ad rr S2 M2 ++ nsW ns2) → va_S (fun q : Nat => s.heap.size ≤ q) s.heap H2 locs2 → W p l e room_1 s m #[Value.ref b] below meth c H2 locs2 (cells + 4) (slots + 16) Q (F0 m 1156 ls [])) : W p l e room_1 s m #[Value.ref b] below meth c H locs cells slots Q (F0 m 985 ls []) := by
  obtain ⟨hx, hb, hr, hml, hown, hts, hK, hlk, hnm⟩ := id C
  have hb : c.code = cL_law := hb
  have hA : ∀ q : Nat, s.heap.size ≤ q → (fun q : Nat => s.heap.size ≤ q) q := fun _ h => h
  have hbA : ¬ (fun q : Nat => s.heap.size ≤ q) b := Nat.not_le.mpr hbl
  have hc0 : cells ≤ 600000 := by omega
  have hs0 : slots ≤ 7302249 := by omega
  have hF := hpu S M ns hV (xs (j + 1)) h1
  refine lv_aload_n hx hb dL_law_985 rfl (lv_at hl 1 rfl) ?_
  refine lv_aload_n hx hb dL_law_986 rfl (lv_at hl 0 rfl) ?_
  refine lv_iload_n hx hb dL_law_987 rfl (lv_at hl 3 rfl) ?_
  refine lv_iconst (v := 1) hx hb dL_law_988 (by decide) ?_
  refine lv_iadd hx hb dL_law_989 ?_
  refine l_sld (j := j + 1) hx hb hX hbl hbA hS (nI_add j 1) (by omega) hL dL_law_990 ?_
  refine cV_tt (T := nsW ns) (As := [.int 1]) (wr := pick (LW cy ad rr S M) [1, 2, 3, 5, 7, 8, 9, 10, 11, 12, 13, 14, 19, 20, 21, 22, 23, 24, 25, 26, 27, 33, 34, 35, 36, 37, 38, 39, 40, 41, 42, 43, 44, 45, 46, 47, 48, 49, 50, 51, 52, 53, 54, 55, 56, 57, 58, 59, 60, 61, 62]) C hA hP hD hS mfX11_restore t3_239 t4_0 t3_238 (ccX11_restore_1 l D cy (pN ns) (ad 0) (ad 6) (ad 4) (ad 32) (ad 18) (ad 15) (ad 29) (ad 16) (ad 30) (ad 17) (ad 31) (ad 23) (ad 28) (.ref (ad 2)) (.ref (ad 3)) (.ref (ad 5)) (.ref (ad 7)) (.ref (ad 8)) (.ref (ad 9)) S.1.1 S.1.2.1 S.1.2.2.1 S.1.2.2.2 S.2.2.2.2.2.2.1.1 S.2.2.2.2.2.2.1.2.1 S.2.2.2.2.2.2.1.2.2.1 S.2.2.2.2.2.2.1.2.2.2.1 S.2.2.2.2.2.2.1.2.2.2.2.1 S.2.2.2.2.2.2.1.2.2.2.2.2.1 S.2.2.2.1.1 S.2.2.2.1.2.1 S.2.2.2.1.2.2.1 S.2.2.2.1.2.2.2.1 S.2.2.2.1.2.2.2.2.1 S.2.2.2.1.2.2.2.2.2.1 S.2.2.2.2.2.2.1.2.2.2.2.2.2.2.2.2 S.2.2.2.1.2.2.2.2.2.2.2.2.2 S.2.2.2.1.2.2.2.2.2.2.1 S.2.2.2.2.2.2.1.2.2.2.2.2.2.1 S.2.2.2.1.2.2.2.2.2.2.2.1 S.2.2.2.2.2.2.1.2.2.2.2.2.2.2.1 S.2.2.2.1.2.2.2.2.2.2.2.2.1 S.2.2.2.2.2.2.1.2.2.2.2.2.2.2.2.1 _ hF) [0, 6, 28, 4, 32, 18, 15, 29, 16, 30, 17, 31] [1, 2, 3, 5, 7, 8, 9, 10, 11, 12, 13, 14, 19, 20, 21, 22, 23, 24, 25, 26, 27, 33, 34, 35, 36, 37, 38, 39, 40, 41, 42, 43, 44, 45, 46, 47, 48, 49, 50, 51, 52, 53, 54, 55, 56, 57, 58, 59, 60, 61, 62] rfl rfl (by decide) (by decide) (by decide) (po_tail hP hD hns [0, 6, 28, 4, 32, 18, 15, 29, 16, 30, 17, 31] rfl) 0 10 rfl rfl rfl rfl hl.1 (by rw [h1]; rfl) (Nat.le_of_ble_eq_true rfl) dL_law_991 ⟨Nat.le_of_ble_eq_true rfl, Nat.le_of_ble_eq_true rfl⟩ ⟨hc0, hs0⟩ ?_
  rintro r w1 H locs ⟨w_x_keptActs, w_x_now_there, w_x_now_size, w_x_now_date, w_x_now_evening, w_x_now_well, w_x_now_rights, w_x_now_lives, w_x_now_people, w_x_now_memories, w_x_now_purses, rfl, hF⟩ hP - hS
  have hP : va_P D CL (LW cy ad rr ((S.1.1, w_x_keptActs, S.1.2.2.1, S.1.2.2.2), S.2.1, S.2.2.1, (w_x_now_there, w_x_now_size, w_x_now_date, w_x_now_evening, w_x_now_well, w_x_now_rights, w_x_now_people, w_x_now_memories, w_x_now_purses, w_x_now_lives), S.2.2.2.2.1, S.2.2.2.2.2.1, S.2.2.2.2.2.2.1, S.2.2.2.2.2.2.2.1, S.2.2.2.2.2.2.2.2.1, S.2.2.2.2.2.2.2.2.2) M ++ nsW ns) H := inpl_P [0, 6, 28, 4, 32, 18, 15, 29, 16, 30, 17, 31] [1, 2, 3, 5, 7, 8, 9, 10, 11, 12, 13, 14, 19, 20, 21, 22, 23, 24, 25, 26, 27, 33, 34, 35, 36, 37, 38, 39, 40, 41, 42, 43, 44, 45, 46, 47, 48, 49, 50, 51, 52, 53, 54, 55, 56, 57, 58, 59, 60, 61, 62] 63 rfl (by decide +kernel) rfl rfl hP
  have hD : va_D (fun q : Nat => s.heap.size ≤ q) (LW cy ad rr ((S.1.1, w_x_keptActs, S.1.2.2.1, S.1.2.2.2), S.2.1, S.2.2.1, (w_x_now_there, w_x_now_size, w_x_now_date, w_x_now_evening, w_x_now_well, w_x_now_rights, w_x_now_people, w_x_now_memories, w_x_now_purses, w_x_now_lives), S.2.2.2.2.1, S.2.2.2.2.2.1, S.2.2.2.2.2.2.1, S.2.2.2.2.2.2.2.1, S.2.2.2.2.2.2.2.2.1, S.2.2.2.2.2.2.2.2.2) M ++ nsW ns) := LW_D hD
  refine W.eq (g2 := F0 m 994 ls [.int r]) rfl ?_
  refine lv_aload_n hx hb dL_law_994 rfl (lv_at hl 2 rfl) ?_
  refine lv_aload_n hx hb dL_law_995 rfl (lv_at hl 0 rfl) ?_
  refine lv_iload_n hx hb dL_law_996 rfl (lv_at hl 3 rfl) ?_
  refine lv_iconst (v := 1) hx hb dL_law_997 (by decide) ?_
  refine lv_iadd hx hb dL_law_998 ?_
  refine l_sld (j := j + 1) hx hb hX hbl hbA hS (nI_add j 1) (by omega) hL dL_law_999 ?_
  refine cV_tt (T := nsW ns) (As := [.int (xs (j + 1))]) (wr := pick (LW cy ad rr ((S.1.1, w_x_keptActs, S.1.2.2.1, S.1.2.2.2), S.2.1, S.2.2.1, (w_x_now_there, w_x_now_size, w_x_now_date, w_x_now_evening, w_x_now_well, w_x_now_rights, w_x_now_people, w_x_now_memories, w_x_now_purses, w_x_now_lives), S.2.2.2.2.1, S.2.2.2.2.2.1, S.2.2.2.2.2.2.1, S.2.2.2.2.2.2.2.1, S.2.2.2.2.2.2.2.2.1, S.2.2.2.2.2.2.2.2.2) M) [0, 2, 3, 4, 5, 6, 7, 8, 9, 10, 11, 12, 13, 14, 15, 16, 17, 18, 19, 20, 21, 22, 23, 24, 25, 26, 27, 28, 29, 30, 31, 32, 33, 34, 35, 36, 37, 38, 39, 40, 41, 42, 43, 45, 46, 47, 50, 51, 52, 53, 54, 55, 56, 57, 58, 59, 60, 61, 62]) C hA hP hD hS mfX12_restore t5_204 t5_205 t5_203 (ccX12_restore l D cy (ad 1) (ad 49) (ad 44) (ad 48) (.ref (ad 39)) (.ref (ad 40)) (.ref (ad 41)) (.ref (ad 42)) (.ref (ad 43)) (.ref (ad 45)) (.ref (ad 46)) (.ref (ad 47)) (.ref (ad 50)) (.ref (ad 51)) (.ref (ad 52)) (.ref (ad 53)) (.ref (ad 54)) M.1.1 M.1.2.1 M.1.2.2.1 M.1.2.2.2.1 M.1.2.2.2.2.1 M.1.2.2.2.2.2.1 M.1.2.2.2.2.2.2.1 M.1.2.2.2.2.2.2.2.1 M.1.2.2.2.2.2.2.2.2.1 M.1.2.2.2.2.2.2.2.2.2.1 M.1.2.2.2.2.2.2.2.2.2.2 M.2.1.2.2.2.2.2.2.2.2.2.2.1 M.2.1.2.2.2.2.2.1 M.2.1.2.2.2.2.2.2.2.2.2.1 (xs (j + 1)) _ hF) [1, 49, 44, 48] [0, 2, 3, 4, 5, 6, 7, 8, 9, 10, 11, 12, 13, 14, 15, 16, 17, 18, 19, 20, 21, 22, 23, 24, 25, 26, 27, 28, 29, 30, 31, 32, 33, 34, 35, 36, 37, 38, 39, 40, 41, 42, 43, 45, 46, 47, 50, 51, 52, 53, 54, 55, 56, 57, 58, 59, 60, 61, 62] rfl rfl (by decide) (by decide) (by decide) PO.np 1 11 rfl rfl rfl rfl hl.1 rfl (Nat.le_of_ble_eq_true rfl) dL_law_1000 ⟨Nat.le_of_ble_eq_true rfl, Nat.le_of_ble_eq_true rfl⟩ ⟨hc0, hs0⟩ ?_
  rintro r2 w1 H locs ⟨w_m_acts, w_m_now, rfl, hF⟩ hP - hS
  have hP : va_P D CL (LW cy ad rr ((S.1.1, w_x_keptActs, S.1.2.2.1, S.1.2.2.2), S.2.1, S.2.2.1, (w_x_now_there, w_x_now_size, w_x_now_date, w_x_now_evening, w_x_now_well, w_x_now_rights, w_x_now_people, w_x_now_memories, w_x_now_purses, w_x_now_lives), S.2.2.2.2.1, S.2.2.2.2.2.1, S.2.2.2.2.2.2.1, S.2.2.2.2.2.2.2.1, S.2.2.2.2.2.2.2.2.1, S.2.2.2.2.2.2.2.2.2) ((M.1.1, M.1.2.1, M.1.2.2.1, M.1.2.2.2.1, M.1.2.2.2.2.1, M.1.2.2.2.2.2.1, M.1.2.2.2.2.2.2.1, M.1.2.2.2.2.2.2.2.1, w_m_acts, M.1.2.2.2.2.2.2.2.2.2.1, M.1.2.2.2.2.2.2.2.2.2.2), (M.2.1.1, M.2.1.2.1, M.2.1.2.2.1, M.2.1.2.2.2.1, M.2.1.2.2.2.2.1, w_m_now, M.2.1.2.2.2.2.2.2.1, M.2.1.2.2.2.2.2.2.2.1, M.2.1.2.2.2.2.2.2.2.2.1, M.2.1.2.2.2.2.2.2.2.2.2.1, M.2.1.2.2.2.2.2.2.2.2.2.2.1, M.2.1.2.2.2.2.2.2.2.2.2.2.2.1, M.2.1.2.2.2.2.2.2.2.2.2.2.2.2), M.2.2) ++ nsW ns) H := inpl_P [1, 49, 44, 48] [0, 2, 3, 4, 5, 6, 7, 8, 9, 10, 11, 12, 13, 14, 15, 16, 17, 18, 19, 20, 21, 22, 23, 24, 25, 26, 27, 28, 29, 30, 31, 32, 33, 34, 35, 36, 37, 38, 39, 40, 41, 42, 43, 45, 46, 47, 50, 51, 52, 53, 54, 55, 56, 57, 58, 59, 60, 61, 62] 63 rfl (by decide +kernel) rfl rfl hP
  have hD : va_D (fun q : Nat => s.heap.size ≤ q) (LW cy ad rr ((S.1.1, w_x_keptActs, S.1.2.2.1, S.1.2.2.2), S.2.1, S.2.2.1, (w_x_now_there, w_x_now_size, w_x_now_date, w_x_now_evening, w_x_now_well, w_x_now_rights, w_x_now_people, w_x_now_memories, w_x_now_purses, w_x_now_lives), S.2.2.2.2.1, S.2.2.2.2.2.1, S.2.2.2.2.2.2.1, S.2.2.2.2.2.2.2.1, S.2.2.2.2.2.2.2.2.1, S.2.2.2.2.2.2.2.2.2) ((M.1.1, M.1.2.1, M.1.2.2.1, M.1.2.2.2.1, M.1.2.2.2.2.1, M.1.2.2.2.2.2.1, M.1.2.2.2.2.2.2.1, M.1.2.2.2.2.2.2.2.1, w_m_acts, M.1.2.2.2.2.2.2.2.2.2.1, M.1.2.2.2.2.2.2.2.2.2.2), (M.2.1.1, M.2.1.2.1, M.2.1.2.2.1, M.2.1.2.2.2.1, M.2.1.2.2.2.2.1, w_m_now, M.2.1.2.2.2.2.2.2.1, M.2.1.2.2.2.2.2.2.2.1, M.2.1.2.2.2.2.2.2.2.2.1, M.2.1.2.2.2.2.2.2.2.2.2.1, M.2.1.2.2.2.2.2.2.2.2.2.2.1, M.2.1.2.2.2.2.2.2.2.2.2.2.2.1, M.2.1.2.2.2.2.2.2.2.2.2.2.2.2), M.2.2) ++ nsW ns) := LW_D hD
  refine W.eq (g2 := F0 m 1003 ls [.int r2, .int r]) rfl ?_
  refine lv_icmp_eq (tgt := 1156) hx hb dL_law_1003 (by decide) (fun _ => ?_) (fun c9 => absurd hF.1 c9)
  refine W.widen (k := cells + 4) (n := slots + 16) (Nat.le_add_right _ 4) (Nat.le_add_right _ 16) ?_
  exact kk ((S.1.1, w_x_keptActs, S.1.2.2.1, S.1.2.2.2), S.2.1, S.2.2.1, (w_x_now_there, w_x_now_size, w_x_now_date, w_x_now_evening, w_x_now_well, w_x_now_rights, w_x_now_people, w_x_now_memories, w_x_now_purses, w_x_now_lives), S.2.2.2.2.1, S.2.2.2.2.2.1, S.2.2.2.2.2.2.1, S.2.2.2.2.2.2.2.1, S.2.2.2.2.2.2.2.2.1, S.2.2.2.2.2.2.2.2.2) ((M.1.1, M.1.2.1, M.1.2.2.1, M.1.2.2.2.1, M.1.2.2.2.2.1, M.1.2.2.2.2.2.1, M.1.2.2.2.2.2.2.1, M.1.2.2.2.2.2.2.2.1, w_m_acts, M.1.2.2.2.2.2.2.2.2.2.1, M.1.2.2.2.2.2.2.2.2.2.2), (M.2.1.1, M.2.1.2.1, M.2.1.2.2.1, M.2.1.2.2.2.1, M.2.1.2.2.2.2.1, w_m_now, M.2.1.2.2.2.2.2.2.1, M.2.1.2.2.2.2.2.2.2.1, M.2.1.2.2.2.2.2.2.2.2.1, M.2.1.2.2.2.2.2.2.2.2.2.1, M.2.1.2.2.2.2.2.2.2.2.2.2.1, M.2.1.2.2.2.2.2.2.2.2.2.2.2.1, M.2.1.2.2.2.2.2.2.2.2.2.2.2.2), M.2.2) ns _ _ hF.2 hns hP hD hS

set_option maxHeartbeats 8000000 in
set_option maxRecDepth 100000 in
theorem lc_restore_o {p : Program} {l : Launch} {e : Env} {s : State} {m : MethodId} {below : List Frame} {meth : Method} {c : Code} {D : va_G} {cy : Nat → ClassId} {b L : Nat} {xs : Nat → Int32} {ad rr : Nat → Nat} {Q : State → Prop} {Inv : CS → MS → NS → Prop} (C : Cx p s m #[Value.ref b] meth c (miL meth) D cy) (hX : va_X b L xs s s.heap) (hbl : b < s.heap.size) (hL : L ≤ 384) (hpu : Pu_restore_o Inv) (j : Nat) (hj : j + 6 ≤ L) (h0 : ¬ xs (j + 1) = 0) (h1 : ¬ xs (j + 1) = 1) {cells slots : Nat} (hc4 : cells + 4 ≤ 600000) (hs16 : slots + 16 ≤ 7302249) (S : CS) (M : MS) (ns : NS) (hV : Inv S M ns) (hns : NSok ns) (H : Heap) (locs : List Loc) (ls : Array Slot) (hP : va_P D CL (LW cy ad rr S M ++ nsW ns) H) (hD : va_D (fun q : Nat => s.heap.size ≤ q) (LW cy ad rr S M ++ nsW ns)) (hS : va_S (fun q : Nat => s.heap.size ≤ q) s.heap H locs) (hl : lv_has ls 4 [(0, .ref b), (1, .ref (ad 0)), (2, .ref (ad 1)), (3, .int (nI j))]) (kk : ∀ (S2 : CS) (M2 : MS) (ns2 : NS) (H2 : Heap) (locs2 : List Loc), Inv S2 M2 ns2 → NSok ns2 → va_P D CL (LW cy ad rr S2 M2 ++ nsW ns2) H2 → va_D (fun q : Nat => s.heap.size ≤ q) (LW cy ad rr S2 M2 ++ nsW ns2) → va_S (fun q : Nat => s.heap.size ≤ q) s.heap H2 locs2 → W p l e room_1 s m #[Value.ref b] below meth c H2 locs2 (cells + 4) (slots + 16) Q (F0 m 1156 ls [])) : W p l e room_1 s m #[Value.ref b] below meth c H locs cells slots Q (F0 m 985 ls []) := by
  obtain ⟨hx, hb, hr, hml, hown, hts, hK, hlk, hnm⟩ := id C
  have hb : c.code = cL_law := hb
  have hA : ∀ q : Nat, s.heap.size ≤ q → (fun q : Nat => s.heap.size ≤ q) q := fun _ h => h
  have hbA : ¬ (fun q : Nat => s.heap.size ≤ q) b := Nat.not_le.mpr hbl
  have hc0 : cells ≤ 600000 := by omega
  have hs0 : slots ≤ 7302249 := by omega
  have hF := hpu S M ns hV (xs (j + 1)) h0 h1
  refine lv_aload_n hx hb dL_law_985 rfl (lv_at hl 1 rfl) ?_
  refine lv_aload_n hx hb dL_law_986 rfl (lv_at hl 0 rfl) ?_
  refine lv_iload_n hx hb dL_law_987 rfl (lv_at hl 3 rfl) ?_
  refine lv_iconst (v := 1) hx hb dL_law_988 (by decide) ?_
  refine lv_iadd hx hb dL_law_989 ?_
  refine l_sld (j := j + 1) hx hb hX hbl hbA hS (nI_add j 1) (by omega) hL dL_law_990 ?_
  refine cV_r (As := [.int (xs (j + 1))]) C mfX11_restore t3_239 t4_0 t3_238 (ccX11_restore_o l D cy (ad 0) (ad 6) (ad 23) (ad 28) (.ref (ad 2)) (.ref (ad 3)) (.ref (ad 4)) (.ref (ad 5)) (.ref (ad 7)) (.ref (ad 8)) (.ref (ad 9)) S.1.1 S.1.2.1 S.1.2.2.1 S.1.2.2.2 (xs (j + 1)) _ hF) rfl rfl (hP.left.sub [0, 6] rfl) PR.np hP.left 0 10 rfl rfl rfl rfl hl.1 rfl (Nat.le_of_ble_eq_true rfl) dL_law_991 ⟨Nat.le_of_ble_eq_true rfl, Nat.le_of_ble_eq_true rfl⟩ ⟨hc0, hs0⟩ ?_
  intro r hF
  refine W.eq (g2 := F0 m 994 ls [.int r]) rfl ?_
  refine lv_aload_n hx hb dL_law_994 rfl (lv_at hl 2 rfl) ?_
  refine lv_aload_n hx hb dL_law_995 rfl (lv_at hl 0 rfl) ?_
  refine lv_iload_n hx hb dL_law_996 rfl (lv_at hl 3 rfl) ?_
  refine lv_iconst (v := 1) hx hb dL_law_997 (by decide) ?_
  refine lv_iadd hx hb dL_law_998 ?_
  refine l_sld (j := j + 1) hx hb hX hbl hbA hS (nI_add j 1) (by omega) hL dL_law_999 ?_
  refine cV_tt (T := nsW ns) (As := [.int (xs (j + 1))]) (wr := pick (LW cy ad rr S M) [0, 2, 3, 4, 5, 6, 7, 8, 9, 10, 11, 12, 13, 14, 15, 16, 17, 18, 19, 20, 21, 22, 23, 24, 25, 26, 27, 28, 29, 30, 31, 32, 33, 34, 35, 36, 37, 38, 39, 40, 41, 42, 43, 45, 46, 47, 50, 51, 52, 53, 54, 55, 56, 57, 58, 59, 60, 61, 62]) C hA hP hD hS mfX12_restore t5_204 t5_205 t5_203 (ccX12_restore l D cy (ad 1) (ad 49) (ad 44) (ad 48) (.ref (ad 39)) (.ref (ad 40)) (.ref (ad 41)) (.ref (ad 42)) (.ref (ad 43)) (.ref (ad 45)) (.ref (ad 46)) (.ref (ad 47)) (.ref (ad 50)) (.ref (ad 51)) (.ref (ad 52)) (.ref (ad 53)) (.ref (ad 54)) M.1.1 M.1.2.1 M.1.2.2.1 M.1.2.2.2.1 M.1.2.2.2.2.1 M.1.2.2.2.2.2.1 M.1.2.2.2.2.2.2.1 M.1.2.2.2.2.2.2.2.1 M.1.2.2.2.2.2.2.2.2.1 M.1.2.2.2.2.2.2.2.2.2.1 M.1.2.2.2.2.2.2.2.2.2.2 M.2.1.2.2.2.2.2.2.2.2.2.2.1 M.2.1.2.2.2.2.2.1 M.2.1.2.2.2.2.2.2.2.2.2.1 (xs (j + 1)) _ hF) [1, 49, 44, 48] [0, 2, 3, 4, 5, 6, 7, 8, 9, 10, 11, 12, 13, 14, 15, 16, 17, 18, 19, 20, 21, 22, 23, 24, 25, 26, 27, 28, 29, 30, 31, 32, 33, 34, 35, 36, 37, 38, 39, 40, 41, 42, 43, 45, 46, 47, 50, 51, 52, 53, 54, 55, 56, 57, 58, 59, 60, 61, 62] rfl rfl (by decide) (by decide) (by decide) PO.np 1 11 rfl rfl rfl rfl hl.1 rfl (Nat.le_of_ble_eq_true rfl) dL_law_1000 ⟨Nat.le_of_ble_eq_true rfl, Nat.le_of_ble_eq_true rfl⟩ ⟨hc0, hs0⟩ ?_
  rintro r2 w1 H locs ⟨w_m_acts, w_m_now, rfl, hF⟩ hP - hS
  have hP : va_P D CL (LW cy ad rr S ((M.1.1, M.1.2.1, M.1.2.2.1, M.1.2.2.2.1, M.1.2.2.2.2.1, M.1.2.2.2.2.2.1, M.1.2.2.2.2.2.2.1, M.1.2.2.2.2.2.2.2.1, w_m_acts, M.1.2.2.2.2.2.2.2.2.2.1, M.1.2.2.2.2.2.2.2.2.2.2), (M.2.1.1, M.2.1.2.1, M.2.1.2.2.1, M.2.1.2.2.2.1, M.2.1.2.2.2.2.1, w_m_now, M.2.1.2.2.2.2.2.2.1, M.2.1.2.2.2.2.2.2.2.1, M.2.1.2.2.2.2.2.2.2.2.1, M.2.1.2.2.2.2.2.2.2.2.2.1, M.2.1.2.2.2.2.2.2.2.2.2.2.1, M.2.1.2.2.2.2.2.2.2.2.2.2.2.1, M.2.1.2.2.2.2.2.2.2.2.2.2.2.2), M.2.2) ++ nsW ns) H := inpl_P [1, 49, 44, 48] [0, 2, 3, 4, 5, 6, 7, 8, 9, 10, 11, 12, 13, 14, 15, 16, 17, 18, 19, 20, 21, 22, 23, 24, 25, 26, 27, 28, 29, 30, 31, 32, 33, 34, 35, 36, 37, 38, 39, 40, 41, 42, 43, 45, 46, 47, 50, 51, 52, 53, 54, 55, 56, 57, 58, 59, 60, 61, 62] 63 rfl (by decide +kernel) rfl rfl hP
  have hD : va_D (fun q : Nat => s.heap.size ≤ q) (LW cy ad rr S ((M.1.1, M.1.2.1, M.1.2.2.1, M.1.2.2.2.1, M.1.2.2.2.2.1, M.1.2.2.2.2.2.1, M.1.2.2.2.2.2.2.1, M.1.2.2.2.2.2.2.2.1, w_m_acts, M.1.2.2.2.2.2.2.2.2.2.1, M.1.2.2.2.2.2.2.2.2.2.2), (M.2.1.1, M.2.1.2.1, M.2.1.2.2.1, M.2.1.2.2.2.1, M.2.1.2.2.2.2.1, w_m_now, M.2.1.2.2.2.2.2.2.1, M.2.1.2.2.2.2.2.2.2.1, M.2.1.2.2.2.2.2.2.2.2.1, M.2.1.2.2.2.2.2.2.2.2.2.1, M.2.1.2.2.2.2.2.2.2.2.2.2.1, M.2.1.2.2.2.2.2.2.2.2.2.2.2.1, M.2.1.2.2.2.2.2.2.2.2.2.2.2.2), M.2.2) ++ nsW ns) := LW_D hD
  refine W.eq (g2 := F0 m 1003 ls [.int r2, .int r]) rfl ?_
  refine lv_icmp_eq (tgt := 1156) hx hb dL_law_1003 (by decide) (fun _ => ?_) (fun c9 => absurd hF.1 c9)
  refine W.widen (k := cells + 4) (n := slots + 16) (Nat.le_add_right _ 4) (Nat.le_add_right _ 16) ?_
  exact kk S ((M.1.1, M.1.2.1, M.1.2.2.1, M.1.2.2.2.1, M.1.2.2.2.2.1, M.1.2.2.2.2.2.1, M.1.2.2.2.2.2.2.1, M.1.2.2.2.2.2.2.2.1, w_m_acts, M.1.2.2.2.2.2.2.2.2.2.1, M.1.2.2.2.2.2.2.2.2.2.2), (M.2.1.1, M.2.1.2.1, M.2.1.2.2.1, M.2.1.2.2.2.1, M.2.1.2.2.2.2.1, w_m_now, M.2.1.2.2.2.2.2.2.1, M.2.1.2.2.2.2.2.2.2.1, M.2.1.2.2.2.2.2.2.2.2.1, M.2.1.2.2.2.2.2.2.2.2.2.1, M.2.1.2.2.2.2.2.2.2.2.2.2.1, M.2.1.2.2.2.2.2.2.2.2.2.2.2.1, M.2.1.2.2.2.2.2.2.2.2.2.2.2.2), M.2.2) ns _ _ hF.2 hns hP hD hS

set_option maxHeartbeats 8000000 in
set_option maxRecDepth 100000 in
theorem lc_kind {p : Program} {l : Launch} {e : Env} {s : State} {m : MethodId} {below : List Frame} {meth : Method} {c : Code} {D : va_G} {cy : Nat → ClassId} {b L : Nat} {xs : Nat → Int32} {ad rr : Nat → Nat} {Q : State → Prop} {Inv : CS → MS → NS → Prop} (C : Cx p s m #[Value.ref b] meth c (miL meth) D cy) (hX : va_X b L xs s s.heap) (hbl : b < s.heap.size) (hL : L ≤ 384) (hpu : Pu_kind Inv) (j : Nat) (hj : j + 6 ≤ L) {cells slots : Nat} (hc4 : cells + 4 ≤ 600000) (hs16 : slots + 16 ≤ 7302249) (S : CS) (M : MS) (ns : NS) (hV : Inv S M ns) (hns : NSok ns) (H : Heap) (locs : List Loc) (ls : Array Slot) (hP : va_P D CL (LW cy ad rr S M ++ nsW ns) H) (hD : va_D (fun q : Nat => s.heap.size ≤ q) (LW cy ad rr S M ++ nsW ns)) (hS : va_S (fun q : Nat => s.heap.size ≤ q) s.heap H locs) (hl : lv_has ls 4 [(0, .ref b), (1, .ref (ad 0)), (2, .ref (ad 1)), (3, .int (nI j))]) (kk : ∀ (S2 : CS) (M2 : MS) (ns2 : NS) (H2 : Heap) (locs2 : List Loc), Inv S2 M2 ns2 → NSok ns2 → va_P D CL (LW cy ad rr S2 M2 ++ nsW ns2) H2 → va_D (fun q : Nat => s.heap.size ≤ q) (LW cy ad rr S2 M2 ++ nsW ns2) → va_S (fun q : Nat => s.heap.size ≤ q) s.heap H2 locs2 → W p l e room_1 s m #[Value.ref b] below meth c H2 locs2 (cells + 4) (slots + 16) Q (F0 m 1156 ls [])) : W p l e room_1 s m #[Value.ref b] below meth c H locs cells slots Q (F0 m 1008 ls []) := by
  obtain ⟨hx, hb, hr, hml, hown, hts, hK, hlk, hnm⟩ := id C
  have hb : c.code = cL_law := hb
  have hA : ∀ q : Nat, s.heap.size ≤ q → (fun q : Nat => s.heap.size ≤ q) q := fun _ h => h
  have hbA : ¬ (fun q : Nat => s.heap.size ≤ q) b := Nat.not_le.mpr hbl
  have hc0 : cells ≤ 600000 := by omega
  have hs0 : slots ≤ 7302249 := by omega
  have hF := hpu S M ns hV (xs (j + 1))
  refine lv_aload_n hx hb dL_law_1008 rfl (lv_at hl 1 rfl) ?_
  refine lv_aload_n hx hb dL_law_1009 rfl (lv_at hl 0 rfl) ?_
  refine lv_iload_n hx hb dL_law_1010 rfl (lv_at hl 3 rfl) ?_
  refine lv_iconst (v := 1) hx hb dL_law_1011 (by decide) ?_
  refine lv_iadd hx hb dL_law_1012 ?_
  refine l_sld (j := j + 1) hx hb hX hbl hbA hS (nI_add j 1) (by omega) hL dL_law_1013 ?_
  refine cV_r (As := [.int (xs (j + 1))]) C mfX11_kind t4_3 t4_4 t4_2 (ccX11_kind l D cy (pN ns) (ad 0) (ad 4) (ad 15) (.ref (ad 2)) (.ref (ad 3)) (.ref (ad 5)) (.ref (ad 6)) (.ref (ad 7)) (.ref (ad 8)) (.ref (ad 9)) (.ref (ad 16)) (.ref (ad 17)) (.ref (ad 18)) S.1.1 S.1.2.1 S.1.2.2.1 S.1.2.2.2 S.2.2.2.1.1 S.2.2.2.1.2.1 S.2.2.2.1.2.2.1 S.2.2.2.1.2.2.2.1 S.2.2.2.1.2.2.2.2.1 S.2.2.2.1.2.2.2.2.2.1 S.2.2.2.1.2.2.2.2.2.2.1 (xs (j + 1)) _ hF) rfl rfl (hP.left.sub [0, 4, 15] rfl) (pr_tail hP hD hns) hP.left 0 10 rfl rfl rfl rfl hl.1 rfl (Nat.le_of_ble_eq_true rfl) dL_law_1014 ⟨Nat.le_of_ble_eq_true rfl, Nat.le_of_ble_eq_true rfl⟩ ⟨hc0, hs0⟩ ?_
  intro r hF
  refine W.eq (g2 := F0 m 1017 ls [.int r]) rfl ?_
  refine lv_aload_n hx hb dL_law_1017 rfl (lv_at hl 2 rfl) ?_
  refine lv_aload_n hx hb dL_law_1018 rfl (lv_at hl 0 rfl) ?_
  refine lv_iload_n hx hb dL_law_1019 rfl (lv_at hl 3 rfl) ?_
  refine lv_iconst (v := 1) hx hb dL_law_1020 (by decide) ?_
  refine lv_iadd hx hb dL_law_1021 ?_
  refine l_sld (j := j + 1) hx hb hX hbl hbA hS (nI_add j 1) (by omega) hL dL_law_1022 ?_
  refine cV_r (As := [.int (xs (j + 1))]) C mfX12_kind t5_208 t5_209 t5_207 (ccX12_kind l D cy (ad 1) (ad 44) (.ref (ad 39)) (.ref (ad 40)) (.ref (ad 41)) (.ref (ad 42)) (.ref (ad 43)) (.ref (ad 45)) (.ref (ad 46)) (.ref (ad 47)) (.ref (ad 48)) (.ref (ad 49)) (.ref (ad 50)) (.ref (ad 51)) (.ref (ad 52)) (.ref (ad 53)) (.ref (ad 54)) M.1.1 M.1.2.1 M.1.2.2.1 M.1.2.2.2.1 M.1.2.2.2.2.1 M.1.2.2.2.2.2.1 M.1.2.2.2.2.2.2.1 M.1.2.2.2.2.2.2.2.1 M.1.2.2.2.2.2.2.2.2.1 M.1.2.2.2.2.2.2.2.2.2.1 M.1.2.2.2.2.2.2.2.2.2.2 M.2.1.2.2.2.2.2.1 (xs (j + 1)) _ hF) rfl rfl (hP.left.sub [1, 44] rfl) PR.np hP.left 1 11 rfl rfl rfl rfl hl.1 rfl (Nat.le_of_ble_eq_true rfl) dL_law_1023 ⟨Nat.le_of_ble_eq_true rfl, Nat.le_of_ble_eq_true rfl⟩ ⟨hc0, hs0⟩ ?_
  intro r2 hF
  refine W.eq (g2 := F0 m 1026 ls [.int r2, .int r]) rfl ?_
  refine lv_icmp_eq (tgt := 1156) hx hb dL_law_1026 (by decide) (fun _ => ?_) (fun c9 => absurd hF.1 c9)
  refine W.widen (k := cells + 4) (n := slots + 16) (Nat.le_add_right _ 4) (Nat.le_add_right _ 16) ?_
  exact kk S M ns _ _ hF.2 hns hP hD hS

set_option maxHeartbeats 8000000 in
set_option maxRecDepth 100000 in
theorem lc_as {p : Program} {l : Launch} {e : Env} {s : State} {m : MethodId} {below : List Frame} {meth : Method} {c : Code} {D : va_G} {cy : Nat → ClassId} {b L : Nat} {xs : Nat → Int32} {ad rr : Nat → Nat} {Q : State → Prop} {Inv : CS → MS → NS → Prop} (C : Cx p s m #[Value.ref b] meth c (miL meth) D cy) (hX : va_X b L xs s s.heap) (hbl : b < s.heap.size) (hL : L ≤ 384) (hpu : Pu_as Inv) (j : Nat) (hj : j + 6 ≤ L) {cells slots : Nat} (hc4 : cells + 4 ≤ 600000) (hs16 : slots + 16 ≤ 7302249) (S : CS) (M : MS) (ns : NS) (hV : Inv S M ns) (hns : NSok ns) (H : Heap) (locs : List Loc) (ls : Array Slot) (hP : va_P D CL (LW cy ad rr S M ++ nsW ns) H) (hD : va_D (fun q : Nat => s.heap.size ≤ q) (LW cy ad rr S M ++ nsW ns)) (hS : va_S (fun q : Nat => s.heap.size ≤ q) s.heap H locs) (hl : lv_has ls 4 [(0, .ref b), (1, .ref (ad 0)), (2, .ref (ad 1)), (3, .int (nI j))]) (kk : ∀ (S2 : CS) (M2 : MS) (ns2 : NS) (H2 : Heap) (locs2 : List Loc), Inv S2 M2 ns2 → NSok ns2 → va_P D CL (LW cy ad rr S2 M2 ++ nsW ns2) H2 → va_D (fun q : Nat => s.heap.size ≤ q) (LW cy ad rr S2 M2 ++ nsW ns2) → va_S (fun q : Nat => s.heap.size ≤ q) s.heap H2 locs2 → W p l e room_1 s m #[Value.ref b] below meth c H2 locs2 (cells + 4) (slots + 16) Q (F0 m 1156 ls [])) : W p l e room_1 s m #[Value.ref b] below meth c H locs cells slots Q (F0 m 1031 ls []) := by
  obtain ⟨hx, hb, hr, hml, hown, hts, hK, hlk, hnm⟩ := id C
  have hb : c.code = cL_law := hb
  have hA : ∀ q : Nat, s.heap.size ≤ q → (fun q : Nat => s.heap.size ≤ q) q := fun _ h => h
  have hbA : ¬ (fun q : Nat => s.heap.size ≤ q) b := Nat.not_le.mpr hbl
  have hc0 : cells ≤ 600000 := by omega
  have hs0 : slots ≤ 7302249 := by omega
  have hF := hpu S M ns hV (xs (j + 1)) (xs (j + 2))
  refine lv_aload_n hx hb dL_law_1031 rfl (lv_at hl 1 rfl) ?_
  refine lv_aload_n hx hb dL_law_1032 rfl (lv_at hl 0 rfl) ?_
  refine lv_iload_n hx hb dL_law_1033 rfl (lv_at hl 3 rfl) ?_
  refine lv_iconst (v := 1) hx hb dL_law_1034 (by decide) ?_
  refine lv_iadd hx hb dL_law_1035 ?_
  refine l_sld (j := j + 1) hx hb hX hbl hbA hS (nI_add j 1) (by omega) hL dL_law_1036 ?_
  refine lv_aload_n hx hb dL_law_1037 rfl (lv_at hl 0 rfl) ?_
  refine lv_iload_n hx hb dL_law_1038 rfl (lv_at hl 3 rfl) ?_
  refine lv_iconst (v := 2) hx hb dL_law_1039 (by decide) ?_
  refine lv_iadd hx hb dL_law_1040 ?_
  refine l_sld (j := j + 2) hx hb hX hbl hbA hS (nI_add j 2) (by omega) hL dL_law_1041 ?_
  refine cV_tt (T := nsW ns) (As := [.int (xs (j + 1)), .int (xs (j + 2))]) (wr := pick (LW cy ad rr S M) [1, 2, 3, 5, 6, 7, 8, 9, 10, 11, 12, 13, 14, 16, 17, 18, 19, 20, 21, 22, 23, 24, 25, 26, 27, 28, 29, 30, 31, 32, 33, 34, 35, 36, 37, 38, 39, 40, 41, 42, 43, 44, 45, 46, 47, 48, 49, 50, 51, 52, 53, 54, 55, 56, 57, 58, 59, 60, 61, 62]) C hA hP hD hS mfX11_as t4_25 t4_26 t4_24 (ccX11_as l D cy (pN ns) (ad 0) (ad 4) (ad 15) (.ref (ad 2)) (.ref (ad 3)) (.ref (ad 5)) (.ref (ad 6)) (.ref (ad 7)) (.ref (ad 8)) (.ref (ad 9)) (.ref (ad 16)) (.ref (ad 17)) (.ref (ad 18)) S.1.1 S.1.2.1 S.1.2.2.1 S.1.2.2.2 S.2.2.2.1.1 S.2.2.2.1.2.1 S.2.2.2.1.2.2.1 S.2.2.2.1.2.2.2.1 S.2.2.2.1.2.2.2.2.1 S.2.2.2.1.2.2.2.2.2.1 S.2.2.2.1.2.2.2.2.2.2.1 (xs (j + 1)) (xs (j + 2)) _ hF) [0, 4, 15] [1, 2, 3, 5, 6, 7, 8, 9, 10, 11, 12, 13, 14, 16, 17, 18, 19, 20, 21, 22, 23, 24, 25, 26, 27, 28, 29, 30, 31, 32, 33, 34, 35, 36, 37, 38, 39, 40, 41, 42, 43, 44, 45, 46, 47, 48, 49, 50, 51, 52, 53, 54, 55, 56, 57, 58, 59, 60, 61, 62] rfl rfl (by decide) (by decide) (by decide) (po_tail hP hD hns [0, 4, 15] rfl) 0 10 rfl rfl rfl rfl hl.1 rfl (Nat.le_of_ble_eq_true rfl) dL_law_1042 ⟨Nat.le_of_ble_eq_true rfl, Nat.le_of_ble_eq_true rfl⟩ ⟨hc0, hs0⟩ ?_
  rintro r w1 H locs ⟨w_x_latestFinding, rfl, hF⟩ hP - hS
  have hP : va_P D CL (LW cy ad rr ((S.1.1, S.1.2.1, S.1.2.2.1, w_x_latestFinding), S.2.1, S.2.2.1, S.2.2.2.1, S.2.2.2.2.1, S.2.2.2.2.2.1, S.2.2.2.2.2.2.1, S.2.2.2.2.2.2.2.1, S.2.2.2.2.2.2.2.2.1, S.2.2.2.2.2.2.2.2.2) M ++ nsW ns) H := inpl_P [0, 4, 15] [1, 2, 3, 5, 6, 7, 8, 9, 10, 11, 12, 13, 14, 16, 17, 18, 19, 20, 21, 22, 23, 24, 25, 26, 27, 28, 29, 30, 31, 32, 33, 34, 35, 36, 37, 38, 39, 40, 41, 42, 43, 44, 45, 46, 47, 48, 49, 50, 51, 52, 53, 54, 55, 56, 57, 58, 59, 60, 61, 62] 63 rfl (by decide +kernel) rfl rfl hP
  have hD : va_D (fun q : Nat => s.heap.size ≤ q) (LW cy ad rr ((S.1.1, S.1.2.1, S.1.2.2.1, w_x_latestFinding), S.2.1, S.2.2.1, S.2.2.2.1, S.2.2.2.2.1, S.2.2.2.2.2.1, S.2.2.2.2.2.2.1, S.2.2.2.2.2.2.2.1, S.2.2.2.2.2.2.2.2.1, S.2.2.2.2.2.2.2.2.2) M ++ nsW ns) := LW_D hD
  refine W.eq (g2 := F0 m 1045 ls [.int r]) rfl ?_
  refine lv_aload_n hx hb dL_law_1045 rfl (lv_at hl 2 rfl) ?_
  refine lv_aload_n hx hb dL_law_1046 rfl (lv_at hl 0 rfl) ?_
  refine lv_iload_n hx hb dL_law_1047 rfl (lv_at hl 3 rfl) ?_
  refine lv_iconst (v := 1) hx hb dL_law_1048 (by decide) ?_
  refine lv_iadd hx hb dL_law_1049 ?_
  refine l_sld (j := j + 1) hx hb hX hbl hbA hS (nI_add j 1) (by omega) hL dL_law_1050 ?_
  refine lv_aload_n hx hb dL_law_1051 rfl (lv_at hl 0 rfl) ?_
  refine lv_iload_n hx hb dL_law_1052 rfl (lv_at hl 3 rfl) ?_
  refine lv_iconst (v := 2) hx hb dL_law_1053 (by decide) ?_
  refine lv_iadd hx hb dL_law_1054 ?_
  refine l_sld (j := j + 2) hx hb hX hbl hbA hS (nI_add j 2) (by omega) hL dL_law_1055 ?_
  refine cV_tt (T := nsW ns) (As := [.int (xs (j + 1)), .int (xs (j + 2))]) (wr := pick (LW cy ad rr ((S.1.1, S.1.2.1, S.1.2.2.1, w_x_latestFinding), S.2.1, S.2.2.1, S.2.2.2.1, S.2.2.2.2.1, S.2.2.2.2.2.1, S.2.2.2.2.2.2.1, S.2.2.2.2.2.2.2.1, S.2.2.2.2.2.2.2.2.1, S.2.2.2.2.2.2.2.2.2) M) [0, 2, 3, 4, 5, 6, 7, 8, 9, 10, 11, 12, 13, 14, 15, 16, 17, 18, 19, 20, 21, 22, 23, 24, 25, 26, 27, 28, 29, 30, 31, 32, 33, 34, 35, 36, 37, 38, 39, 40, 41, 42, 43, 45, 46, 47, 48, 49, 50, 51, 52, 53, 54, 55, 56, 57, 58, 59, 60, 61, 62]) C hA hP hD hS mfX12_as t5_212 t5_213 t5_211 (ccX12_as l D cy (ad 1) (ad 44) (.ref (ad 39)) (.ref (ad 40)) (.ref (ad 41)) (.ref (ad 42)) (.ref (ad 43)) (.ref (ad 45)) (.ref (ad 46)) (.ref (ad 47)) (.ref (ad 48)) (.ref (ad 49)) (.ref (ad 50)) (.ref (ad 51)) (.ref (ad 52)) (.ref (ad 53)) (.ref (ad 54)) M.1.1 M.1.2.1 M.1.2.2.1 M.1.2.2.2.1 M.1.2.2.2.2.1 M.1.2.2.2.2.2.1 M.1.2.2.2.2.2.2.1 M.1.2.2.2.2.2.2.2.1 M.1.2.2.2.2.2.2.2.2.1 M.1.2.2.2.2.2.2.2.2.2.1 M.1.2.2.2.2.2.2.2.2.2.2 M.2.1.2.2.2.2.2.1 (xs (j + 1)) (xs (j + 2)) _ hF) [1, 44] [0, 2, 3, 4, 5, 6, 7, 8, 9, 10, 11, 12, 13, 14, 15, 16, 17, 18, 19, 20, 21, 22, 23, 24, 25, 26, 27, 28, 29, 30, 31, 32, 33, 34, 35, 36, 37, 38, 39, 40, 41, 42, 43, 45, 46, 47, 48, 49, 50, 51, 52, 53, 54, 55, 56, 57, 58, 59, 60, 61, 62] rfl rfl (by decide) (by decide) (by decide) PO.np 1 11 rfl rfl rfl rfl hl.1 rfl (Nat.le_of_ble_eq_true rfl) dL_law_1056 ⟨Nat.le_of_ble_eq_true rfl, Nat.le_of_ble_eq_true rfl⟩ ⟨hc0, hs0⟩ ?_
  rintro r2 w1 H locs ⟨w_m_status, rfl, hF⟩ hP - hS
  have hP : va_P D CL (LW cy ad rr ((S.1.1, S.1.2.1, S.1.2.2.1, w_x_latestFinding), S.2.1, S.2.2.1, S.2.2.2.1, S.2.2.2.2.1, S.2.2.2.2.2.1, S.2.2.2.2.2.2.1, S.2.2.2.2.2.2.2.1, S.2.2.2.2.2.2.2.2.1, S.2.2.2.2.2.2.2.2.2) ((w_m_status, M.1.2.1, M.1.2.2.1, M.1.2.2.2.1, M.1.2.2.2.2.1, M.1.2.2.2.2.2.1, M.1.2.2.2.2.2.2.1, M.1.2.2.2.2.2.2.2.1, M.1.2.2.2.2.2.2.2.2.1, M.1.2.2.2.2.2.2.2.2.2.1, M.1.2.2.2.2.2.2.2.2.2.2), M.2.1, M.2.2) ++ nsW ns) H := inpl_P [1, 44] [0, 2, 3, 4, 5, 6, 7, 8, 9, 10, 11, 12, 13, 14, 15, 16, 17, 18, 19, 20, 21, 22, 23, 24, 25, 26, 27, 28, 29, 30, 31, 32, 33, 34, 35, 36, 37, 38, 39, 40, 41, 42, 43, 45, 46, 47, 48, 49, 50, 51, 52, 53, 54, 55, 56, 57, 58, 59, 60, 61, 62] 63 rfl (by decide +kernel) rfl rfl hP
  have hD : va_D (fun q : Nat => s.heap.size ≤ q) (LW cy ad rr ((S.1.1, S.1.2.1, S.1.2.2.1, w_x_latestFinding), S.2.1, S.2.2.1, S.2.2.2.1, S.2.2.2.2.1, S.2.2.2.2.2.1, S.2.2.2.2.2.2.1, S.2.2.2.2.2.2.2.1, S.2.2.2.2.2.2.2.2.1, S.2.2.2.2.2.2.2.2.2) ((w_m_status, M.1.2.1, M.1.2.2.1, M.1.2.2.2.1, M.1.2.2.2.2.1, M.1.2.2.2.2.2.1, M.1.2.2.2.2.2.2.1, M.1.2.2.2.2.2.2.2.1, M.1.2.2.2.2.2.2.2.2.1, M.1.2.2.2.2.2.2.2.2.2.1, M.1.2.2.2.2.2.2.2.2.2.2), M.2.1, M.2.2) ++ nsW ns) := LW_D hD
  refine W.eq (g2 := F0 m 1059 ls [.int r2, .int r]) rfl ?_
  refine lv_icmp_eq (tgt := 1156) hx hb dL_law_1059 (by decide) (fun _ => ?_) (fun c9 => absurd hF.1 c9)
  refine W.widen (k := cells + 4) (n := slots + 16) (Nat.le_add_right _ 4) (Nat.le_add_right _ 16) ?_
  exact kk ((S.1.1, S.1.2.1, S.1.2.2.1, w_x_latestFinding), S.2.1, S.2.2.1, S.2.2.2.1, S.2.2.2.2.1, S.2.2.2.2.2.1, S.2.2.2.2.2.2.1, S.2.2.2.2.2.2.2.1, S.2.2.2.2.2.2.2.2.1, S.2.2.2.2.2.2.2.2.2) ((w_m_status, M.1.2.1, M.1.2.2.1, M.1.2.2.2.1, M.1.2.2.2.2.1, M.1.2.2.2.2.2.1, M.1.2.2.2.2.2.2.1, M.1.2.2.2.2.2.2.2.1, M.1.2.2.2.2.2.2.2.2.1, M.1.2.2.2.2.2.2.2.2.2.1, M.1.2.2.2.2.2.2.2.2.2.2), M.2.1, M.2.2) ns _ _ hF.2 hns hP hD hS

set_option maxHeartbeats 8000000 in
set_option maxRecDepth 100000 in
theorem lc_ask {p : Program} {l : Launch} {e : Env} {s : State} {m : MethodId} {below : List Frame} {meth : Method} {c : Code} {D : va_G} {cy : Nat → ClassId} {b L : Nat} {xs : Nat → Int32} {ad rr : Nat → Nat} {Q : State → Prop} {Inv : CS → MS → NS → Prop} (C : Cx p s m #[Value.ref b] meth c (miL meth) D cy) (hX : va_X b L xs s s.heap) (hbl : b < s.heap.size) (hL : L ≤ 384) (hpu : Pu_ask Inv) (j : Nat) (hj : j + 6 ≤ L) {cells slots : Nat} (hc4 : cells + 4 ≤ 600000) (hs16 : slots + 16 ≤ 7302249) (S : CS) (M : MS) (ns : NS) (hV : Inv S M ns) (hns : NSok ns) (H : Heap) (locs : List Loc) (ls : Array Slot) (hP : va_P D CL (LW cy ad rr S M ++ nsW ns) H) (hD : va_D (fun q : Nat => s.heap.size ≤ q) (LW cy ad rr S M ++ nsW ns)) (hS : va_S (fun q : Nat => s.heap.size ≤ q) s.heap H locs) (hl : lv_has ls 4 [(0, .ref b), (1, .ref (ad 0)), (2, .ref (ad 1)), (3, .int (nI j))]) (kk : ∀ (S2 : CS) (M2 : MS) (ns2 : NS) (H2 : Heap) (locs2 : List Loc), Inv S2 M2 ns2 → NSok ns2 → va_P D CL (LW cy ad rr S2 M2 ++ nsW ns2) H2 → va_D (fun q : Nat => s.heap.size ≤ q) (LW cy ad rr S2 M2 ++ nsW ns2) → va_S (fun q : Nat => s.heap.size ≤ q) s.heap H2 locs2 → W p l e room_1 s m #[Value.ref b] below meth c H2 locs2 (cells + 4) (slots + 16) Q (F0 m 1156 ls [])) : W p l e room_1 s m #[Value.ref b] below meth c H locs cells slots Q (F0 m 1064 ls []) := by
  obtain ⟨hx, hb, hr, hml, hown, hts, hK, hlk, hnm⟩ := id C
  have hb : c.code = cL_law := hb
  have hA : ∀ q : Nat, s.heap.size ≤ q → (fun q : Nat => s.heap.size ≤ q) q := fun _ h => h
  have hbA : ¬ (fun q : Nat => s.heap.size ≤ q) b := Nat.not_le.mpr hbl
  have hc0 : cells ≤ 600000 := by omega
  have hs0 : slots ≤ 7302249 := by omega
  have hF := hpu S M ns hV (xs (j + 1)) (xs (j + 2))
  refine lv_aload_n hx hb dL_law_1064 rfl (lv_at hl 1 rfl) ?_
  refine lv_aload_n hx hb dL_law_1065 rfl (lv_at hl 0 rfl) ?_
  refine lv_iload_n hx hb dL_law_1066 rfl (lv_at hl 3 rfl) ?_
  refine lv_iconst (v := 1) hx hb dL_law_1067 (by decide) ?_
  refine lv_iadd hx hb dL_law_1068 ?_
  refine l_sld (j := j + 1) hx hb hX hbl hbA hS (nI_add j 1) (by omega) hL dL_law_1069 ?_
  refine lv_aload_n hx hb dL_law_1070 rfl (lv_at hl 0 rfl) ?_
  refine lv_iload_n hx hb dL_law_1071 rfl (lv_at hl 3 rfl) ?_
  refine lv_iconst (v := 2) hx hb dL_law_1072 (by decide) ?_
  refine lv_iadd hx hb dL_law_1073 ?_
  refine l_sld (j := j + 2) hx hb hX hbl hbA hS (nI_add j 2) (by omega) hL dL_law_1074 ?_
  refine cV_tt (T := nsW ns) (As := [.int (xs (j + 1)), .int (xs (j + 2))]) (wr := pick (LW cy ad rr S M) [1, 2, 3, 5, 6, 7, 9, 10, 11, 12, 13, 14, 18, 19, 20, 21, 22, 23, 24, 25, 26, 27, 28, 29, 30, 31, 32, 33, 34, 35, 36, 37, 39, 40, 41, 42, 43, 44, 45, 46, 47, 48, 49, 50, 51, 52, 53, 54, 55, 56, 57, 58, 59, 60, 61, 62]) C hA hP hD hS mfX11_ask t4_37 t4_38 t4_36 (ccX11_ask l D cy (pN ns) (ad 0) (ad 4) (ad 15) (ad 8) (ad 17) (ad 16) (ad 38) (.ref (ad 2)) (.ref (ad 3)) (.ref (ad 5)) (.ref (ad 6)) (.ref (ad 7)) (.ref (ad 9)) (.ref (ad 18)) S.1.1 S.1.2.1 S.1.2.2.1 S.1.2.2.2 S.2.2.2.1.1 S.2.2.2.1.2.1 S.2.2.2.1.2.2.1 S.2.2.2.1.2.2.2.1 S.2.2.2.1.2.2.2.2.1 S.2.2.2.1.2.2.2.2.2.1 S.2.2.2.1.2.2.2.2.2.2.1 S.2.2.2.2.2.2.2.2.1.1 S.2.2.2.2.2.2.2.2.1.2.1 S.2.2.2.2.2.2.2.2.1.2.2.1 S.2.2.2.1.2.2.2.2.2.2.2.2.1 S.2.2.2.1.2.2.2.2.2.2.2.1 S.2.2.2.2.2.2.2.2.1.2.2.2 (xs (j + 1)) (xs (j + 2)) _ hF) [0, 4, 15, 8, 17, 16, 38] [1, 2, 3, 5, 6, 7, 9, 10, 11, 12, 13, 14, 18, 19, 20, 21, 22, 23, 24, 25, 26, 27, 28, 29, 30, 31, 32, 33, 34, 35, 36, 37, 39, 40, 41, 42, 43, 44, 45, 46, 47, 48, 49, 50, 51, 52, 53, 54, 55, 56, 57, 58, 59, 60, 61, 62] rfl rfl (by decide) (by decide) (by decide) (po_tail hP hD hns [0, 4, 15, 8, 17, 16, 38] rfl) 0 10 rfl rfl rfl rfl hl.1 rfl (Nat.le_of_ble_eq_true rfl) dL_law_1075 ⟨Nat.le_of_ble_eq_true rfl, Nat.le_of_ble_eq_true rfl⟩ ⟨hc0, hs0⟩ ?_
  rintro r w1 H locs ⟨w_x_asked_left, w_x_asked_purse, w_x_asked_memory, w_x_asked_numbers, rfl, hF⟩ hP - hS
  have hP : va_P D CL (LW cy ad rr (S.1, S.2.1, S.2.2.1, S.2.2.2.1, S.2.2.2.2.1, S.2.2.2.2.2.1, S.2.2.2.2.2.2.1, S.2.2.2.2.2.2.2.1, (w_x_asked_left, w_x_asked_purse, w_x_asked_memory, w_x_asked_numbers), S.2.2.2.2.2.2.2.2.2) M ++ nsW ns) H := inpl_P [0, 4, 15, 8, 17, 16, 38] [1, 2, 3, 5, 6, 7, 9, 10, 11, 12, 13, 14, 18, 19, 20, 21, 22, 23, 24, 25, 26, 27, 28, 29, 30, 31, 32, 33, 34, 35, 36, 37, 39, 40, 41, 42, 43, 44, 45, 46, 47, 48, 49, 50, 51, 52, 53, 54, 55, 56, 57, 58, 59, 60, 61, 62] 63 rfl (by decide +kernel) rfl rfl hP
  have hD : va_D (fun q : Nat => s.heap.size ≤ q) (LW cy ad rr (S.1, S.2.1, S.2.2.1, S.2.2.2.1, S.2.2.2.2.1, S.2.2.2.2.2.1, S.2.2.2.2.2.2.1, S.2.2.2.2.2.2.2.1, (w_x_asked_left, w_x_asked_purse, w_x_asked_memory, w_x_asked_numbers), S.2.2.2.2.2.2.2.2.2) M ++ nsW ns) := LW_D hD
  refine W.eq (g2 := F0 m 1078 ls [.int r]) rfl ?_
  refine lv_aload_n hx hb dL_law_1078 rfl (lv_at hl 2 rfl) ?_
  refine lv_aload_n hx hb dL_law_1079 rfl (lv_at hl 0 rfl) ?_
  refine lv_iload_n hx hb dL_law_1080 rfl (lv_at hl 3 rfl) ?_
  refine lv_iconst (v := 1) hx hb dL_law_1081 (by decide) ?_
  refine lv_iadd hx hb dL_law_1082 ?_
  refine l_sld (j := j + 1) hx hb hX hbl hbA hS (nI_add j 1) (by omega) hL dL_law_1083 ?_
  refine lv_aload_n hx hb dL_law_1084 rfl (lv_at hl 0 rfl) ?_
  refine lv_iload_n hx hb dL_law_1085 rfl (lv_at hl 3 rfl) ?_
  refine lv_iconst (v := 2) hx hb dL_law_1086 (by decide) ?_
  refine lv_iadd hx hb dL_law_1087 ?_
  refine l_sld (j := j + 2) hx hb hX hbl hbA hS (nI_add j 2) (by omega) hL dL_law_1088 ?_
  refine cV_tt (T := nsW ns) (As := [.int (xs (j + 1)), .int (xs (j + 2))]) (wr := pick (LW cy ad rr (S.1, S.2.1, S.2.2.1, S.2.2.2.1, S.2.2.2.2.1, S.2.2.2.2.2.1, S.2.2.2.2.2.2.1, S.2.2.2.2.2.2.2.1, (w_x_asked_left, w_x_asked_purse, w_x_asked_memory, w_x_asked_numbers), S.2.2.2.2.2.2.2.2.2) M) [0, 2, 3, 4, 5, 6, 7, 8, 9, 10, 11, 12, 13, 14, 15, 16, 17, 18, 19, 20, 21, 22, 23, 24, 25, 26, 27, 28, 29, 30, 31, 32, 33, 34, 35, 36, 37, 38, 39, 40, 41, 42, 43, 45, 46, 47, 48, 49, 51, 52, 53, 54, 55, 56, 57, 58, 59, 60, 61, 62]) C hA hP hD hS mfX12_ask t5_216 t5_217 t5_215 (ccX12_ask l D cy (ad 1) (ad 44) (ad 50) (.ref (ad 39)) (.ref (ad 40)) (.ref (ad 41)) (.ref (ad 42)) (.ref (ad 43)) (.ref (ad 45)) (.ref (ad 46)) (.ref (ad 47)) (.ref (ad 48)) (.ref (ad 49)) (.ref (ad 51)) (.ref (ad 52)) (.ref (ad 53)) (.ref (ad 54)) M.1.1 M.1.2.1 M.1.2.2.1 M.1.2.2.2.1 M.1.2.2.2.2.1 M.1.2.2.2.2.2.1 M.1.2.2.2.2.2.2.1 M.1.2.2.2.2.2.2.2.1 M.1.2.2.2.2.2.2.2.2.1 M.1.2.2.2.2.2.2.2.2.2.1 M.1.2.2.2.2.2.2.2.2.2.2 M.2.1.2.2.2.2.2.1 M.2.1.2.2.2.2.2.2.2.2.2.2.2.1 (xs (j + 1)) (xs (j + 2)) _ hF) [1, 44, 50] [0, 2, 3, 4, 5, 6, 7, 8, 9, 10, 11, 12, 13, 14, 15, 16, 17, 18, 19, 20, 21, 22, 23, 24, 25, 26, 27, 28, 29, 30, 31, 32, 33, 34, 35, 36, 37, 38, 39, 40, 41, 42, 43, 45, 46, 47, 48, 49, 51, 52, 53, 54, 55, 56, 57, 58, 59, 60, 61, 62] rfl rfl (by decide) (by decide) (by decide) PO.np 1 11 rfl rfl rfl rfl hl.1 rfl (Nat.le_of_ble_eq_true rfl) dL_law_1089 ⟨Nat.le_of_ble_eq_true rfl, Nat.le_of_ble_eq_true rfl⟩ ⟨hc0, hs0⟩ ?_
  rintro r2 w1 H locs ⟨w_m_traced, w_m_trace, rfl, hF⟩ hP - hS
  have hP : va_P D CL (LW cy ad rr (S.1, S.2.1, S.2.2.1, S.2.2.2.1, S.2.2.2.2.1, S.2.2.2.2.2.1, S.2.2.2.2.2.2.1, S.2.2.2.2.2.2.2.1, (w_x_asked_left, w_x_asked_purse, w_x_asked_memory, w_x_asked_numbers), S.2.2.2.2.2.2.2.2.2) ((M.1.1, M.1.2.1, M.1.2.2.1, M.1.2.2.2.1, M.1.2.2.2.2.1, M.1.2.2.2.2.2.1, M.1.2.2.2.2.2.2.1, M.1.2.2.2.2.2.2.2.1, M.1.2.2.2.2.2.2.2.2.1, w_m_traced, M.1.2.2.2.2.2.2.2.2.2.2), (M.2.1.1, M.2.1.2.1, M.2.1.2.2.1, M.2.1.2.2.2.1, M.2.1.2.2.2.2.1, M.2.1.2.2.2.2.2.1, M.2.1.2.2.2.2.2.2.1, M.2.1.2.2.2.2.2.2.2.1, M.2.1.2.2.2.2.2.2.2.2.1, M.2.1.2.2.2.2.2.2.2.2.2.1, M.2.1.2.2.2.2.2.2.2.2.2.2.1, w_m_trace, M.2.1.2.2.2.2.2.2.2.2.2.2.2.2), M.2.2) ++ nsW ns) H := inpl_P [1, 44, 50] [0, 2, 3, 4, 5, 6, 7, 8, 9, 10, 11, 12, 13, 14, 15, 16, 17, 18, 19, 20, 21, 22, 23, 24, 25, 26, 27, 28, 29, 30, 31, 32, 33, 34, 35, 36, 37, 38, 39, 40, 41, 42, 43, 45, 46, 47, 48, 49, 51, 52, 53, 54, 55, 56, 57, 58, 59, 60, 61, 62] 63 rfl (by decide +kernel) rfl rfl hP
  have hD : va_D (fun q : Nat => s.heap.size ≤ q) (LW cy ad rr (S.1, S.2.1, S.2.2.1, S.2.2.2.1, S.2.2.2.2.1, S.2.2.2.2.2.1, S.2.2.2.2.2.2.1, S.2.2.2.2.2.2.2.1, (w_x_asked_left, w_x_asked_purse, w_x_asked_memory, w_x_asked_numbers), S.2.2.2.2.2.2.2.2.2) ((M.1.1, M.1.2.1, M.1.2.2.1, M.1.2.2.2.1, M.1.2.2.2.2.1, M.1.2.2.2.2.2.1, M.1.2.2.2.2.2.2.1, M.1.2.2.2.2.2.2.2.1, M.1.2.2.2.2.2.2.2.2.1, w_m_traced, M.1.2.2.2.2.2.2.2.2.2.2), (M.2.1.1, M.2.1.2.1, M.2.1.2.2.1, M.2.1.2.2.2.1, M.2.1.2.2.2.2.1, M.2.1.2.2.2.2.2.1, M.2.1.2.2.2.2.2.2.1, M.2.1.2.2.2.2.2.2.2.1, M.2.1.2.2.2.2.2.2.2.2.1, M.2.1.2.2.2.2.2.2.2.2.2.1, M.2.1.2.2.2.2.2.2.2.2.2.2.1, w_m_trace, M.2.1.2.2.2.2.2.2.2.2.2.2.2.2), M.2.2) ++ nsW ns) := LW_D hD
  refine W.eq (g2 := F0 m 1092 ls [.int r2, .int r]) rfl ?_
  refine lv_icmp_eq (tgt := 1156) hx hb dL_law_1092 (by decide) (fun _ => ?_) (fun c9 => absurd hF.1 c9)
  refine W.widen (k := cells + 4) (n := slots + 16) (Nat.le_add_right _ 4) (Nat.le_add_right _ 16) ?_
  exact kk (S.1, S.2.1, S.2.2.1, S.2.2.2.1, S.2.2.2.2.1, S.2.2.2.2.2.1, S.2.2.2.2.2.2.1, S.2.2.2.2.2.2.2.1, (w_x_asked_left, w_x_asked_purse, w_x_asked_memory, w_x_asked_numbers), S.2.2.2.2.2.2.2.2.2) ((M.1.1, M.1.2.1, M.1.2.2.1, M.1.2.2.2.1, M.1.2.2.2.2.1, M.1.2.2.2.2.2.1, M.1.2.2.2.2.2.2.1, M.1.2.2.2.2.2.2.2.1, M.1.2.2.2.2.2.2.2.2.1, w_m_traced, M.1.2.2.2.2.2.2.2.2.2.2), (M.2.1.1, M.2.1.2.1, M.2.1.2.2.1, M.2.1.2.2.2.1, M.2.1.2.2.2.2.1, M.2.1.2.2.2.2.2.1, M.2.1.2.2.2.2.2.2.1, M.2.1.2.2.2.2.2.2.2.1, M.2.1.2.2.2.2.2.2.2.2.1, M.2.1.2.2.2.2.2.2.2.2.2.1, M.2.1.2.2.2.2.2.2.2.2.2.2.1, w_m_trace, M.2.1.2.2.2.2.2.2.2.2.2.2.2.2), M.2.2) ns _ _ hF.2 hns hP hD hS

set_option maxHeartbeats 8000000 in
set_option maxRecDepth 100000 in
theorem lc_trace {p : Program} {l : Launch} {e : Env} {s : State} {m : MethodId} {below : List Frame} {meth : Method} {c : Code} {D : va_G} {cy : Nat → ClassId} {b L : Nat} {xs : Nat → Int32} {ad rr : Nat → Nat} {Q : State → Prop} {Inv : CS → MS → NS → Prop} (C : Cx p s m #[Value.ref b] meth c (miL meth) D cy) (hX : va_X b L xs s s.heap) (hbl : b < s.heap.size) (hL : L ≤ 384) (hpu : Pu_trace Inv) (j : Nat) (hj : j + 6 ≤ L) {cells slots : Nat} (hc4 : cells + 4 ≤ 600000) (hs16 : slots + 16 ≤ 7302249) (S : CS) (M : MS) (ns : NS) (hV : Inv S M ns) (hns : NSok ns) (H : Heap) (locs : List Loc) (ls : Array Slot) (hP : va_P D CL (LW cy ad rr S M ++ nsW ns) H) (hD : va_D (fun q : Nat => s.heap.size ≤ q) (LW cy ad rr S M ++ nsW ns)) (hS : va_S (fun q : Nat => s.heap.size ≤ q) s.heap H locs) (hl : lv_has ls 4 [(0, .ref b), (1, .ref (ad 0)), (2, .ref (ad 1)), (3, .int (nI j))]) (kk : ∀ (S2 : CS) (M2 : MS) (ns2 : NS) (H2 : Heap) (locs2 : List Loc), Inv S2 M2 ns2 → NSok ns2 → va_P D CL (LW cy ad rr S2 M2 ++ nsW ns2) H2 → va_D (fun q : Nat => s.heap.size ≤ q) (LW cy ad rr S2 M2 ++ nsW ns2) → va_S (fun q : Nat => s.heap.size ≤ q) s.heap H2 locs2 → W p l e room_1 s m #[Value.ref b] below meth c H2 locs2 (cells + 4) (slots + 16) Q (F0 m 1156 ls [])) : W p l e room_1 s m #[Value.ref b] below meth c H locs cells slots Q (F0 m 1097 ls []) := by
  obtain ⟨hx, hb, hr, hml, hown, hts, hK, hlk, hnm⟩ := id C
  have hb : c.code = cL_law := hb
  have hA : ∀ q : Nat, s.heap.size ≤ q → (fun q : Nat => s.heap.size ≤ q) q := fun _ h => h
  have hbA : ¬ (fun q : Nat => s.heap.size ≤ q) b := Nat.not_le.mpr hbl
  have hc0 : cells ≤ 600000 := by omega
  have hs0 : slots ≤ 7302249 := by omega
  have hF := hpu S M ns hV (xs (j + 1))
  refine lv_aload_n hx hb dL_law_1097 rfl (lv_at hl 1 rfl) ?_
  refine lv_aload_n hx hb dL_law_1098 rfl (lv_at hl 0 rfl) ?_
  refine lv_iload_n hx hb dL_law_1099 rfl (lv_at hl 3 rfl) ?_
  refine lv_iconst (v := 1) hx hb dL_law_1100 (by decide) ?_
  refine lv_iadd hx hb dL_law_1101 ?_
  refine l_sld (j := j + 1) hx hb hX hbl hbA hS (nI_add j 1) (by omega) hL dL_law_1102 ?_
  refine cV_r (As := [.int (xs (j + 1))]) C mfX11_trace t4_96 t4_97 t4_95 (ccX11_trace l D cy (ad 0) (ad 8) (ad 38) (.ref (ad 2)) (.ref (ad 3)) (.ref (ad 4)) (.ref (ad 5)) (.ref (ad 6)) (.ref (ad 7)) (.ref (ad 9)) S.1.1 S.1.2.1 S.1.2.2.1 S.1.2.2.2 S.2.2.2.2.2.2.2.2.1.1 S.2.2.2.2.2.2.2.2.1.2.1 S.2.2.2.2.2.2.2.2.1.2.2.1 S.2.2.2.2.2.2.2.2.1.2.2.2 (xs (j + 1)) _ hF) rfl rfl (hP.left.sub [0, 8, 38] rfl) PR.np hP.left 0 10 rfl rfl rfl rfl hl.1 rfl (Nat.le_of_ble_eq_true rfl) dL_law_1103 ⟨Nat.le_of_ble_eq_true rfl, Nat.le_of_ble_eq_true rfl⟩ ⟨hc0, hs0⟩ ?_
  intro r hF
  refine W.eq (g2 := F0 m 1106 ls [.int r]) rfl ?_
  refine lv_aload_n hx hb dL_law_1106 rfl (lv_at hl 2 rfl) ?_
  refine lv_aload_n hx hb dL_law_1107 rfl (lv_at hl 0 rfl) ?_
  refine lv_iload_n hx hb dL_law_1108 rfl (lv_at hl 3 rfl) ?_
  refine lv_iconst (v := 1) hx hb dL_law_1109 (by decide) ?_
  refine lv_iadd hx hb dL_law_1110 ?_
  refine l_sld (j := j + 1) hx hb hX hbl hbA hS (nI_add j 1) (by omega) hL dL_law_1111 ?_
  refine cV_r (As := [.int (xs (j + 1))]) C mfX12_trace t6_0 t6_1 t5_239 (ccX12_trace l D cy (ad 1) (ad 50) (.ref (ad 39)) (.ref (ad 40)) (.ref (ad 41)) (.ref (ad 42)) (.ref (ad 43)) (.ref (ad 44)) (.ref (ad 45)) (.ref (ad 46)) (.ref (ad 47)) (.ref (ad 48)) (.ref (ad 49)) (.ref (ad 51)) (.ref (ad 52)) (.ref (ad 53)) (.ref (ad 54)) M.1.1 M.1.2.1 M.1.2.2.1 M.1.2.2.2.1 M.1.2.2.2.2.1 M.1.2.2.2.2.2.1 M.1.2.2.2.2.2.2.1 M.1.2.2.2.2.2.2.2.1 M.1.2.2.2.2.2.2.2.2.1 M.1.2.2.2.2.2.2.2.2.2.1 M.1.2.2.2.2.2.2.2.2.2.2 M.2.1.2.2.2.2.2.2.2.2.2.2.2.1 (xs (j + 1)) _ hF) rfl rfl (hP.left.sub [1, 50] rfl) PR.np hP.left 1 11 rfl rfl rfl rfl hl.1 rfl (Nat.le_of_ble_eq_true rfl) dL_law_1112 ⟨Nat.le_of_ble_eq_true rfl, Nat.le_of_ble_eq_true rfl⟩ ⟨hc0, hs0⟩ ?_
  intro r2 hF
  refine W.eq (g2 := F0 m 1115 ls [.int r2, .int r]) rfl ?_
  refine lv_icmp_eq (tgt := 1156) hx hb dL_law_1115 (by decide) (fun _ => ?_) (fun c9 => absurd hF.1 c9)
  refine W.widen (k := cells + 4) (n := slots + 16) (Nat.le_add_right _ 4) (Nat.le_add_right _ 16) ?_
  exact kk S M ns _ _ hF.2 hns hP hD hS

set_option maxHeartbeats 8000000 in
set_option maxRecDepth 100000 in
theorem lc_count {p : Program} {l : Launch} {e : Env} {s : State} {m : MethodId} {below : List Frame} {meth : Method} {c : Code} {D : va_G} {cy : Nat → ClassId} {b L : Nat} {xs : Nat → Int32} {ad rr : Nat → Nat} {Q : State → Prop} {Inv : CS → MS → NS → Prop} (C : Cx p s m #[Value.ref b] meth c (miL meth) D cy) (hX : va_X b L xs s s.heap) (hbl : b < s.heap.size) (hL : L ≤ 384) (hpu : Pu_count Inv) (j : Nat) (hj : j + 6 ≤ L) {cells slots : Nat} (hc4 : cells + 4 ≤ 600000) (hs16 : slots + 16 ≤ 7302249) (S : CS) (M : MS) (ns : NS) (hV : Inv S M ns) (hns : NSok ns) (H : Heap) (locs : List Loc) (ls : Array Slot) (hP : va_P D CL (LW cy ad rr S M ++ nsW ns) H) (hD : va_D (fun q : Nat => s.heap.size ≤ q) (LW cy ad rr S M ++ nsW ns)) (hS : va_S (fun q : Nat => s.heap.size ≤ q) s.heap H locs) (hl : lv_has ls 4 [(0, .ref b), (1, .ref (ad 0)), (2, .ref (ad 1)), (3, .int (nI j))]) (kk : ∀ (S2 : CS) (M2 : MS) (ns2 : NS) (H2 : Heap) (locs2 : List Loc), Inv S2 M2 ns2 → NSok ns2 → va_P D CL (LW cy ad rr S2 M2 ++ nsW ns2) H2 → va_D (fun q : Nat => s.heap.size ≤ q) (LW cy ad rr S2 M2 ++ nsW ns2) → va_S (fun q : Nat => s.heap.size ≤ q) s.heap H2 locs2 → W p l e room_1 s m #[Value.ref b] below meth c H2 locs2 (cells + 4) (slots + 16) Q (F0 m 1156 ls [])) : W p l e room_1 s m #[Value.ref b] below meth c H locs cells slots Q (F0 m 1120 ls []) := by
  obtain ⟨hx, hb, hr, hml, hown, hts, hK, hlk, hnm⟩ := id C
  have hb : c.code = cL_law := hb
  have hA : ∀ q : Nat, s.heap.size ≤ q → (fun q : Nat => s.heap.size ≤ q) q := fun _ h => h
  have hbA : ¬ (fun q : Nat => s.heap.size ≤ q) b := Nat.not_le.mpr hbl
  have hc0 : cells ≤ 600000 := by omega
  have hs0 : slots ≤ 7302249 := by omega
  have hF := hpu S M ns hV (xs (j + 1))
  refine lv_aload_n hx hb dL_law_1120 rfl (lv_at hl 1 rfl) ?_
  refine lv_aload_n hx hb dL_law_1121 rfl (lv_at hl 0 rfl) ?_
  refine lv_iload_n hx hb dL_law_1122 rfl (lv_at hl 3 rfl) ?_
  refine lv_iconst (v := 1) hx hb dL_law_1123 (by decide) ?_
  refine lv_iadd hx hb dL_law_1124 ?_
  refine l_sld (j := j + 1) hx hb hX hbl hbA hS (nI_add j 1) (by omega) hL dL_law_1125 ?_
  refine cV_r (As := [.int (xs (j + 1))]) C mfX11_count t4_105 t4_106 t4_104 (ccX11_count l D cy (ad 0) (ad 2) (ad 12) (ad 4) (ad 18) (ad 3) (.ref (ad 5)) (.ref (ad 6)) (.ref (ad 7)) (.ref (ad 8)) (.ref (ad 9)) (.ref (ad 10)) (.ref (ad 11)) (.ref (ad 15)) (.ref (ad 16)) (.ref (ad 17)) (.ref (ad 13)) (.ref (ad 14)) S.1.1 S.1.2.1 S.1.2.2.1 S.1.2.2.2 S.2.1.2.2 S.2.2.2.1.1 S.2.2.2.1.2.1 S.2.2.2.1.2.2.1 S.2.2.2.1.2.2.2.1 S.2.2.2.1.2.2.2.2.1 S.2.2.2.1.2.2.2.2.2.1 S.2.2.2.1.2.2.2.2.2.2.2.2.2 S.2.2.1.1 S.2.2.1.2.1 S.2.2.1.2.2.1 (xs (j + 1)) _ hF) rfl rfl (hP.left.sub [0, 2, 12, 4, 18, 3] rfl) PR.np hP.left 0 10 rfl rfl rfl rfl hl.1 rfl (Nat.le_of_ble_eq_true rfl) dL_law_1126 ⟨Nat.le_of_ble_eq_true rfl, Nat.le_of_ble_eq_true rfl⟩ ⟨hc0, hs0⟩ ?_
  intro r hF
  refine W.eq (g2 := F0 m 1129 ls [.int r]) rfl ?_
  refine lv_aload_n hx hb dL_law_1129 rfl (lv_at hl 2 rfl) ?_
  refine lv_aload_n hx hb dL_law_1130 rfl (lv_at hl 0 rfl) ?_
  refine lv_iload_n hx hb dL_law_1131 rfl (lv_at hl 3 rfl) ?_
  refine lv_iconst (v := 1) hx hb dL_law_1132 (by decide) ?_
  refine lv_iadd hx hb dL_law_1133 ?_
  refine l_sld (j := j + 1) hx hb hX hbl hbA hS (nI_add j 1) (by omega) hL dL_law_1134 ?_
  refine cV_r (As := [.int (xs (j + 1))]) C mfX12_count t6_4 t6_5 t6_3 (ccX12_count l D cy (ad 1) (ad 44) (ad 39) (.ref (ad 40)) (.ref (ad 41)) (.ref (ad 42)) (.ref (ad 43)) (.ref (ad 45)) (.ref (ad 46)) (.ref (ad 47)) (.ref (ad 48)) (.ref (ad 49)) (.ref (ad 50)) (.ref (ad 51)) (.ref (ad 52)) (.ref (ad 53)) (.ref (ad 54)) M.1.1 M.1.2.1 M.1.2.2.1 M.1.2.2.2.1 M.1.2.2.2.2.1 M.1.2.2.2.2.2.1 M.1.2.2.2.2.2.2.1 M.1.2.2.2.2.2.2.2.1 M.1.2.2.2.2.2.2.2.2.1 M.1.2.2.2.2.2.2.2.2.2.1 M.1.2.2.2.2.2.2.2.2.2.2 M.2.1.2.2.2.2.2.1 M.2.1.1 (xs (j + 1)) _ hF) rfl rfl (hP.left.sub [1, 44, 39] rfl) PR.np hP.left 1 11 rfl rfl rfl rfl hl.1 rfl (Nat.le_of_ble_eq_true rfl) dL_law_1135 ⟨Nat.le_of_ble_eq_true rfl, Nat.le_of_ble_eq_true rfl⟩ ⟨hc0, hs0⟩ ?_
  intro r2 hF
  refine W.eq (g2 := F0 m 1138 ls [.int r2, .int r]) rfl ?_
  refine lv_icmp_eq (tgt := 1156) hx hb dL_law_1138 (by decide) (fun _ => ?_) (fun c9 => absurd hF.1 c9)
  refine W.widen (k := cells + 4) (n := slots + 16) (Nat.le_add_right _ 4) (Nat.le_add_right _ 16) ?_
  exact kk S M ns _ _ hF.2 hns hP hD hS

set_option maxHeartbeats 8000000 in
set_option maxRecDepth 100000 in
theorem lc_status {p : Program} {l : Launch} {e : Env} {s : State} {m : MethodId} {below : List Frame} {meth : Method} {c : Code} {D : va_G} {cy : Nat → ClassId} {b L : Nat} {xs : Nat → Int32} {ad rr : Nat → Nat} {Q : State → Prop} {Inv : CS → MS → NS → Prop} (C : Cx p s m #[Value.ref b] meth c (miL meth) D cy) (hX : va_X b L xs s s.heap) (hbl : b < s.heap.size) (hL : L ≤ 384) (hpu : Pu_status Inv) (j : Nat) (hj : j + 6 ≤ L) {cells slots : Nat} (hc4 : cells + 4 ≤ 600000) (hs16 : slots + 16 ≤ 7302249) (S : CS) (M : MS) (ns : NS) (hV : Inv S M ns) (hns : NSok ns) (H : Heap) (locs : List Loc) (ls : Array Slot) (hP : va_P D CL (LW cy ad rr S M ++ nsW ns) H) (hD : va_D (fun q : Nat => s.heap.size ≤ q) (LW cy ad rr S M ++ nsW ns)) (hS : va_S (fun q : Nat => s.heap.size ≤ q) s.heap H locs) (hl : lv_has ls 4 [(0, .ref b), (1, .ref (ad 0)), (2, .ref (ad 1)), (3, .int (nI j))]) (kk : ∀ (S2 : CS) (M2 : MS) (ns2 : NS) (H2 : Heap) (locs2 : List Loc), Inv S2 M2 ns2 → NSok ns2 → va_P D CL (LW cy ad rr S2 M2 ++ nsW ns2) H2 → va_D (fun q : Nat => s.heap.size ≤ q) (LW cy ad rr S2 M2 ++ nsW ns2) → va_S (fun q : Nat => s.heap.size ≤ q) s.heap H2 locs2 → W p l e room_1 s m #[Value.ref b] below meth c H2 locs2 (cells + 4) (slots + 16) Q (F0 m 1156 ls [])) : W p l e room_1 s m #[Value.ref b] below meth c H locs cells slots Q (F0 m 1143 ls []) := by
  obtain ⟨hx, hb, hr, hml, hown, hts, hK, hlk, hnm⟩ := id C
  have hb : c.code = cL_law := hb
  have hA : ∀ q : Nat, s.heap.size ≤ q → (fun q : Nat => s.heap.size ≤ q) q := fun _ h => h
  have hbA : ¬ (fun q : Nat => s.heap.size ≤ q) b := Nat.not_le.mpr hbl
  have hc0 : cells ≤ 600000 := by omega
  have hs0 : slots ≤ 7302249 := by omega
  have hF := hpu S M ns hV 
  refine lv_aload_n hx hb dL_law_1143 rfl (lv_at hl 1 rfl) ?_
  refine cV_r (As := []) C mfX11_status t4_114 t4_115 t4_113 (ccX11_status l D cy (ad 0) (.ref (ad 2)) (.ref (ad 3)) (.ref (ad 4)) (.ref (ad 5)) (.ref (ad 6)) (.ref (ad 7)) (.ref (ad 8)) (.ref (ad 9)) S.1.1 S.1.2.1 S.1.2.2.1 S.1.2.2.2 _ hF) rfl rfl (hP.left.sub [0] rfl) PR.np hP.left 0 10 rfl rfl rfl rfl hl.1 rfl (Nat.le_of_ble_eq_true rfl) dL_law_1144 ⟨Nat.le_of_ble_eq_true rfl, Nat.le_of_ble_eq_true rfl⟩ ⟨hc0, hs0⟩ ?_
  intro r hF
  refine W.eq (g2 := F0 m 1147 ls [.int r]) rfl ?_
  refine lv_aload_n hx hb dL_law_1147 rfl (lv_at hl 2 rfl) ?_
  refine cV_r (As := []) C mfX12_status t6_8 t6_9 t6_7 (ccX12_status l D cy (ad 1) (.ref (ad 39)) (.ref (ad 40)) (.ref (ad 41)) (.ref (ad 42)) (.ref (ad 43)) (.ref (ad 44)) (.ref (ad 45)) (.ref (ad 46)) (.ref (ad 47)) (.ref (ad 48)) (.ref (ad 49)) (.ref (ad 50)) (.ref (ad 51)) (.ref (ad 52)) (.ref (ad 53)) (.ref (ad 54)) M.1.1 M.1.2.1 M.1.2.2.1 M.1.2.2.2.1 M.1.2.2.2.2.1 M.1.2.2.2.2.2.1 M.1.2.2.2.2.2.2.1 M.1.2.2.2.2.2.2.2.1 M.1.2.2.2.2.2.2.2.2.1 M.1.2.2.2.2.2.2.2.2.2.1 M.1.2.2.2.2.2.2.2.2.2.2 _ hF) rfl rfl (hP.left.sub [1] rfl) PR.np hP.left 1 11 rfl rfl rfl rfl hl.1 rfl (Nat.le_of_ble_eq_true rfl) dL_law_1148 ⟨Nat.le_of_ble_eq_true rfl, Nat.le_of_ble_eq_true rfl⟩ ⟨hc0, hs0⟩ ?_
  intro r2 hF
  refine W.eq (g2 := F0 m 1151 ls [.int r2, .int r]) rfl ?_
  refine lv_icmp_eq (tgt := 1156) hx hb dL_law_1151 (by decide) (fun _ => ?_) (fun c9 => absurd hF.1 c9)
  refine W.widen (k := cells + 4) (n := slots + 16) (Nat.le_add_right _ 4) (Nat.le_add_right _ 16) ?_
  exact kk S M ns _ _ hF.2 hns hP hD hS
