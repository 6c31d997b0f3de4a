theorem zLaw.next {dC : Nat → ClassId} {dI : Nat → Nat → Nat} {cyI cyZ cyJ : ClassId} {q4 qd qw qc qwh qlv qt qta ql qla qn qna qe qea qr qz qm qmd qmt qml qmk qmh qmw qu : Nat} {A : Nat → Prop} {H0 : Heap} {t : Nat} {H : Heap} {locs : List Loc} (h : zLaw dC dI cyI cyZ cyJ q4 qd qw qc qwh qlv qt qta ql qla qn qna qe qea qr qz qm qmd qmt qml qmk qmh qmw qu A H0 t H locs) : zLaw dC dI cyI cyZ cyJ q4 qd qw qc qwh qlv qt qta ql qla qn qna qe qea qr qz qm qmd qmt qml qmk qmh qmw qu A H0 (t + 1) H locs := by
  obtain ⟨fp, w, on, lf, dn, WH, LV, sa, n, T, k, P, m0, C0, g, G, row, mz, nh, th, PM, M, Hd, WL, ou, ⟨hn, HT, hk, hdn, hI, HS, hPP⟩, hP, hD, hS⟩ := h
  exact ⟨fp, w, on, lf, dn, WH, LV, sa, n, T, k, P, m0, C0, g, G, row, mz, nh, th, PM, M, Hd, WL, ou, ⟨hn, HT, hk, by omega, hI.mono (Nat.le_succ t), HS, hPP⟩, hP, hD, hS⟩
set_option maxHeartbeats 4000000 in
set_option maxRecDepth 100000 in
theorem law_loop {pz : Program} {ez : Env} {sS : State} {mM : MethodId} {below : List Frame} {meth : Method} {cC : Code} (l : Launch) (hT : l.stackTraces = false) {b L : Nat} {xs : Nat → Int32} (hL : L ≤ 256) (C0 : lw_At pz sS mM meth cC b L xs) (dC : Nat → ClassId) (dI : Nat → Nat → Nat) (cyI cyZ cyJ : ClassId) (q4 qd qw qc qwh qlv qt qta ql qla qn qna qe qea qr qz qm qmd qmt qml qmk qmh qmw qu : Nat) {A : Nat → Prop} (hA : ∀ q : Nat, sS.heap.size ≤ q → A q) (hbA : ¬ A b) (hK : va_K (dC, dI) vwCl [(cyI, .int), (cyZ, .boolean), (cyJ, .long)] sS) (hXQ : xq A sS) (hAq : ∀ q, A q → sS.heap.size ≤ q) : ∀ (f t : Nat) (H : Heap) (locs : List Loc) (ls : Array Slot), L - 4 * t < f → 4 * t ≤ L → zLaw dC dI cyI cyZ cyJ q4 qd qw qc qwh qlv qt qta ql qla qn qna qe qea qr qz qm qmd qmt qml qmk qmh qmw qu A sS.heap t H locs → lv_has ls 7 [(0, .ref b), (1, .ref q4), (2, .ref qm), (3, .ref qu), (4, .int (nI (4 * t)))] → W pz l ez room_1 sS mM #[Value.ref b] below meth cC H locs (24 + t) (4865 + 6 * t) (lw_Z below #[Value.ref b] sS) (F0 mM 23 ls [])
  | 0, t, _, _, _, hf, _, _, _ => absurd hf (Nat.not_lt_zero _)
  | f + 1, t, H, locs, ls, hf, h4, hI, hl => by
    obtain ⟨hx, hb0, hr, hml, hown0, hts0, hX, hbl, hlocks, -⟩ := id C0
    have hb : cC.code = cL_law := hb0
    have hS : va_S A sS.heap H locs := by
      obtain ⟨_, _, _, _, _, _, _, _, _, _, _, _, _, _, _, _, _, _, _, _, _, _, _, _, _, -, -, -, hS⟩ := hI
      exact hS
    refine lv_iload hx hb dL_law_23 (lv_at hl 4 rfl) ?_
    refine lv_aload_n hx hb dL_law_25 rfl (lv_at hl 0 rfl) ?_
    refine va_slen hx hb hX hbl hbA hS dL_law_26 ?_
    refine zz_top (show Int32.ofNat L = nI L from rfl) ?_
    refine lv_iconst (v := nI 4) hx hb dL_law_27 (by decide) ?_
    refine lv_isub hx hb dL_law_28 ?_
    refine lv_icmp_gt (tgt := 613) hx hb dL_law_29 (by decide) (fun c_29 => ?_) (fun c_29 => ?_)
    · refine lv_iconst (v := 1) hx hb dL_law_613 (by decide) ?_
      refine va_forget (fun q hq => hAq _ (hS.2.2 q hq)) ?_
      refine W.widen (k := 157) (n := 5907) (by omega) (by omega) ?_
      exact lw_ret hx hb0 hr hlocks dL_law_614
    · have ht : 4 * t + 4 ≤ L := (i_gt4 (by omega) (by omega)).2 (Int32.not_lt.mp c_29)
      refine lv_aload_n hx hb dL_law_32 rfl (lv_at hl 0 rfl) ?_
      refine lv_iload hx hb dL_law_33 (lv_at hl 4 rfl) ?_
      refine va_sld hx hb hX hbl hbA hS (vp_in_nI (n := 4 * t) (by omega) (by omega)) dL_law_35 ?_
      refine lv_bipush (v := nI 15) hx hb dL_law_36 (by decide) ?_
      refine lv_iand hx hb dL_law_38 ?_
      obtain ⟨j, hj, ej⟩ := pk_andE (xs (nI (4 * t)).toNatClampNeg) (m := nI 15) 4 rfl
      refine zz_top ej ?_
      have tail : ∀ (H : Heap) (locs : List Loc) (ls : Array Slot), zLaw dC dI cyI cyZ cyJ q4 qd qw qc qwh qlv qt qta ql qla qn qna qe qea qr qz qm qmd qmt qml qmk qmh qmw qu A sS.heap (t + 1) H locs → lv_has ls 7 [(0, .ref b), (1, .ref q4), (2, .ref qm), (3, .ref qu), (4, .int (nI (4 * t)))] → W pz l ez room_1 sS mM #[Value.ref b] below meth cC H locs (24 + t + 1) (4865 + 6 * t + 6) (lw_Z below #[Value.ref b] sS) (F0 mM 607 ls []) := by
        intro H locs ls hI2 hl2
        refine lv_iinc (v := nI (4 * (t + 1))) (lv' := [(4, .int (nI (4 * (t + 1)))), (0, .ref b), (1, .ref q4), (2, .ref qm), (3, .ref qu)]) hx hb dL_law_607 hl2 (k := 4) rfl (nI_add (4 * t) 4) (by decide) rfl (fun ls hl2 => ?_)
        refine lv_goto (tgt := 23) hx hb dL_law_610 (by decide) ?_
        refine W.widen (k := 24 + (t + 1)) (n := 4865 + 6 * (t + 1)) (by omega) (by omega) ?_
        exact law_loop l hT hL C0 dC dI cyI cyZ cyJ q4 qd qw qc qwh qlv qt qta ql qla qn qna qe qea qr qz qm qmd qmt qml qmk qmh qmw qu hA hbA hK hXQ hAq f (t + 1) _ _ _ (by omega) (by omega) hI2 (lv_sub hl2 [1, 2, 3, 4, 0] rfl)
      rcases (show j = 0 ∨ j = 1 ∨ j = 2 ∨ j = 3 ∨ j = 4 ∨ j = 5 ∨ j = 6 ∨ j = 7 ∨ j = 8 ∨ j = 9 ∨ j = 10 ∨ j = 11 ∨ j = 12 ∨ j = 13 ∨ j = 14 ∨ j = 15 by omega) with rfl | rfl | rfl | rfl | rfl | rfl | rfl | rfl | rfl | rfl | rfl | rfl | rfl | rfl | rfl | rfl
      · refine lv_tableIn (tgt := 112) (off := 73) hx hb dL_law_39 (by decide) (by decide) (by decide) (by decide) ?_
        exact law_c0 l hT hL C0 dC dI cyI cyZ cyJ q4 qd qw qc qwh qlv qt qta ql qla qn qna qe qea qr qz qm qmd qmt qml qmk qmh qmw qu hA hbA hK hXQ ht (by omega) (by omega) hI hl tail
      · refine lv_tableIn (tgt := 212) (off := 173) hx hb dL_law_39 (by decide) (by decide) (by decide) (by decide) ?_
        exact law_c1 l hT hL C0 dC dI cyI cyZ cyJ q4 qd qw qc qwh qlv qt qta ql qla qn qna qe qea qr qz qm qmd qmt qml qmk qmh qmw qu hA hbA hK hXQ ht (by omega) (by omega) hI hl tail
      · refine lv_tableIn (tgt := 237) (off := 198) hx hb dL_law_39 (by decide) (by decide) (by decide) (by decide) ?_
        exact law_c2 l hT hL C0 dC dI cyI cyZ cyJ q4 qd qw qc qwh qlv qt qta ql qla qn qna qe qea qr qz qm qmd qmt qml qmk qmh qmw qu hA hbA hK hXQ ht (by omega) (by omega) hI hl tail
      · refine lv_tableIn (tgt := 262) (off := 223) hx hb dL_law_39 (by decide) (by decide) (by decide) (by decide) ?_
        exact law_c3 l hT hL C0 dC dI cyI cyZ cyJ q4 qd qw qc qwh qlv qt qta ql qla qn qna qe qea qr qz qm qmd qmt qml qmk qmh qmw qu hA hbA hK hXQ ht (by omega) (by omega) hI hl tail
      · refine lv_tableIn (tgt := 287) (off := 248) hx hb dL_law_39 (by decide) (by decide) (by decide) (by decide) ?_
        exact law_c4 l hT hL C0 dC dI cyI cyZ cyJ q4 qd qw qc qwh qlv qt qta ql qla qn qna qe qea qr qz qm qmd qmt qml qmk qmh qmw qu hA hbA hK hXQ ht (by omega) (by omega) hI hl tail
      · refine lv_tableIn (tgt := 312) (off := 273) hx hb dL_law_39 (by decide) (by decide) (by decide) (by decide) ?_
        exact law_c5 l hT hL C0 dC dI cyI cyZ cyJ q4 qd qw qc qwh qlv qt qta ql qla qn qna qe qea qr qz qm qmd qmt qml qmk qmh qmw qu hA hbA hK hXQ ht (by omega) (by omega) hI hl tail
      · refine lv_tableIn (tgt := 325) (off := 286) hx hb dL_law_39 (by decide) (by decide) (by decide) (by decide) ?_
        exact law_c6 l hT hL C0 dC dI cyI cyZ cyJ q4 qd qw qc qwh qlv qt qta ql qla qn qna qe qea qr qz qm qmd qmt qml qmk qmh qmw qu hA hbA hK hXQ ht (by omega) (by omega) hI hl tail
      · refine lv_tableIn (tgt := 381) (off := 342) hx hb dL_law_39 (by decide) (by decide) (by decide) (by decide) ?_
        exact law_c7 l hT hL C0 dC dI cyI cyZ cyJ q4 qd qw qc qwh qlv qt qta ql qla qn qna qe qea qr qz qm qmd qmt qml qmk qmh qmw qu hA hbA hK hXQ ht (by omega) (by omega) hI hl tail
      · refine lv_tableIn (tgt := 394) (off := 355) hx hb dL_law_39 (by decide) (by decide) (by decide) (by decide) ?_
        exact law_c8 l hT hL C0 dC dI cyI cyZ cyJ q4 qd qw qc qwh qlv qt qta ql qla qn qna qe qea qr qz qm qmd qmt qml qmk qmh qmw qu hA hbA hK hXQ ht (by omega) (by omega) hI hl tail
      · refine lv_tableIn (tgt := 462) (off := 423) hx hb dL_law_39 (by decide) (by decide) (by decide) (by decide) ?_
        exact law_c9 l hT hL C0 dC dI cyI cyZ cyJ q4 qd qw qc qwh qlv qt qta ql qla qn qna qe qea qr qz qm qmd qmt qml qmk qmh qmw qu hA hbA hK hXQ ht (by omega) (by omega) hI hl tail
      · refine lv_tableIn (tgt := 518) (off := 479) hx hb dL_law_39 (by decide) (by decide) (by decide) (by decide) ?_
        exact law_c10 l hT hL C0 dC dI cyI cyZ cyJ q4 qd qw qc qwh qlv qt qta ql qla qn qna qe qea qr qz qm qmd qmt qml qmk qmh qmw qu hA hbA hK hXQ ht (by omega) (by omega) hI hl tail
      · refine lv_tableIn (tgt := 543) (off := 504) hx hb dL_law_39 (by decide) (by decide) (by decide) (by decide) ?_
        exact law_c11 l hT hL C0 dC dI cyI cyZ cyJ q4 qd qw qc qwh qlv qt qta ql qla qn qna qe qea qr qz qm qmd qmt qml qmk qmh qmw qu hA hbA hK hXQ ht (by omega) (by omega) hI hl tail
      · refine lv_tableIn (tgt := 568) (off := 529) hx hb dL_law_39 (by decide) (by decide) (by decide) (by decide) ?_
        exact law_c12 l hT hL C0 dC dI cyI cyZ cyJ q4 qd qw qc qwh qlv qt qta ql qla qn qna qe qea qr qz qm qmd qmt qml qmk qmh qmw qu hA hbA hK hXQ ht (by omega) (by omega) hI hl tail
      · refine lv_tableIn (tgt := 581) (off := 542) hx hb dL_law_39 (by decide) (by decide) (by decide) (by decide) ?_
        exact law_c13 l hT hL C0 dC dI cyI cyZ cyJ q4 qd qw qc qwh qlv qt qta ql qla qn qna qe qea qr qz qm qmd qmt qml qmk qmh qmw qu hA hbA hK hXQ ht (by omega) (by omega) hI hl tail
      · refine lv_tableIn (tgt := 594) (off := 555) hx hb dL_law_39 (by decide) (by decide) (by decide) (by decide) ?_
        exact law_c14 l hT hL C0 dC dI cyI cyZ cyJ q4 qd qw qc qwh qlv qt qta ql qla qn qna qe qea qr qz qm qmd qmt qml qmk qmh qmw qu hA hbA hK hXQ ht (by omega) (by omega) hI hl tail
      · refine lv_tableOut (tgt := 607) hx hb dL_law_39 (by decide) (by decide) ?_
        refine W.widen (k := 24 + t + 1) (n := 4865 + 6 * t + 6) (by omega) (by omega) ?_
        exact tail _ _ _ (hI.next) hl
