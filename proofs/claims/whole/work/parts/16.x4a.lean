set_option maxHeartbeats 4000000 in
set_option maxRecDepth 100000 in
theorem c_X4_surveyed (l : Launch) (dC : Nat → ClassId) (dI : Nat → Nat → Nat) (cyI cyZ : ClassId) (q4 qd qw qc qwh qlv qt ql qn qe qr qz : Nat) (sz : Nat) (w : Nat → Int32) (on : Bool) (lf : Int32) (dn : Nat) (WH LV : Nat → Int32) (sa : Int32) (fp : Int32) (HS : sa = nI dn → ∀ j, j < 64 → LV j = bI (kLive w j)) : Met l yX4_surveyed wsX4_surveyed ({ frames := 4, cells := 0, slots := 0, locals := 87 }) (va_Pc [.ref q4] (fun U => U.heap.size = sz ∧ va_P (dC, dI) vwCl [(q4, .inr (3, [.ref qd, .ref qc, .ref qt, .ref ql, .ref qn, .ref qe, .ref qr, .ref qz, .int fp])), (qd, .inr (1, [.ref qw, .int (bI on), .int lf, .int (nI dn)])), (qw, .inl (cyI, 512, .inl w)), (qc, .inr (0, [.ref qd, .ref qwh, .ref qlv, .int sa])), (qwh, .inl (cyZ, 64, .inl WH)), (qlv, .inl (cyZ, 64, .inl LV))] U.heap ∧ va_K (dC, dI) vwCl [(cyI, .int), (cyZ, .boolean)] U ∧ va_D (fun _ => True) [(q4, .inr (3, [.ref qd, .ref qc, .ref qt, .ref ql, .ref qn, .ref qe, .ref qr, .ref qz, .int fp])), (qd, .inr (1, [.ref qw, .int (bI on), .int lf, .int (nI dn)])), (qw, .inl (cyI, 512, .inl w)), (qc, .inr (0, [.ref qd, .ref qwh, .ref qlv, .int sa])), (qwh, .inl (cyZ, 64, .inl WH)), (qlv, .inl (cyZ, 64, .inl LV))])) (va_Qr (S := (Nat → Int32) × (Nat → Int32)) (fun (uU : (Nat → Int32) × (Nat → Int32)) => match uU with | (WH1, LV1) => (∀ j, j < 64 → LV1 j = bI (kLive w j))) (fun (uU : (Nat → Int32) × (Nat → Int32)) (ra : Nat) tS => match uU with | (WH1, LV1) => ra = qc ∧ va_P (dC, dI) vwCl [(q4, .inr (3, [.ref qd, .ref qc, .ref qt, .ref ql, .ref qn, .ref qe, .ref qr, .ref qz, .int fp])), (qd, .inr (1, [.ref qw, .int (bI on), .int lf, .int (nI dn)])), (qw, .inl (cyI, 512, .inl w)), (qc, .inr (0, [.ref qd, .ref qwh, .ref qlv, .int (nI dn)])), (qwh, .inl (cyZ, 64, .inl WH1)), (qlv, .inl (cyZ, 64, .inl LV1))] tS.heap ∧ va_K (dC, dI) vwCl [(cyI, .int), (cyZ, .boolean)] tS ∧ va_D (va_A [(q4, .inr (3, [.ref qd, .ref qc, .ref qt, .ref ql, .ref qn, .ref qe, .ref qr, .ref qz, .int fp])), (qd, .inr (1, [.ref qw, .int (bI on), .int lf, .int (nI dn)])), (qw, .inl (cyI, 512, .inl w)), (qc, .inr (0, [.ref qd, .ref qwh, .ref qlv, .int sa])), (qwh, .inl (cyZ, 64, .inl WH)), (qlv, .inl (cyZ, 64, .inl LV))] sz) [(q4, .inr (3, [.ref qd, .ref qc, .ref qt, .ref ql, .ref qn, .ref qe, .ref qr, .ref qz, .int fp])), (qd, .inr (1, [.ref qw, .int (bI on), .int lf, .int (nI dn)])), (qw, .inl (cyI, 512, .inl w)), (qc, .inr (0, [.ref qd, .ref qwh, .ref qlv, .int (nI dn)])), (qwh, .inl (cyZ, 64, .inl WH1)), (qlv, .inl (cyZ, 64, .inl LV1))]) (va_A [(q4, .inr (3, [.ref qd, .ref qc, .ref qt, .ref ql, .ref qn, .ref qe, .ref qr, .ref qz, .int fp])), (qd, .inr (1, [.ref qw, .int (bI on), .int lf, .int (nI dn)])), (qw, .inl (cyI, 512, .inl w)), (qc, .inr (0, [.ref qd, .ref qwh, .ref qlv, .int sa])), (qwh, .inl (cyZ, 64, .inl WH)), (qlv, .inl (cyZ, 64, .inl LV))] sz)) 0 0 (va_A [(q4, .inr (3, [.ref qd, .ref qc, .ref qt, .ref ql, .ref qn, .ref qe, .ref qr, .ref qz, .int fp])), (qd, .inr (1, [.ref qw, .int (bI on), .int lf, .int (nI dn)])), (qw, .inl (cyI, 512, .inl w)), (qc, .inr (0, [.ref qd, .ref qwh, .ref qlv, .int sa])), (qwh, .inl (cyZ, 64, .inl WH)), (qlv, .inl (cyZ, 64, .inl LV))] sz) := by
  refine Met.ofW (cc := cX4_surveyed) (maxL := 1) (ret := (some (.object "CodedStore$Catalog"))) (by decide) rfl ?_
  intro pz ez sS mM args below meth cC s₁ B hml hv
  obtain ⟨rfl, hsz, hP, hK, hD0⟩ := hv
  have hx := B.exec
  have hb := B.bytes
  have hr := B.returns
  have hts := atoms_spec (ws := wsX4_surveyed) B.pre
  have hown : sS.vm.findClass RX4 = some mM.cls := findClass_of_methodNamed B.named
  have hlocks := B.notSynchronized
  subst hsz
  have hD := hD0.self (sz := sS.heap.size)
  generalize hAe : va_A [(q4, .inr (3, [.ref qd, .ref qc, .ref qt, .ref ql, .ref qn, .ref qe, .ref qr, .ref qz, .int fp])), (qd, .inr (1, [.ref qw, .int (bI on), .int lf, .int (nI dn)])), (qw, .inl (cyI, 512, .inl w)), (qc, .inr (0, [.ref qd, .ref qwh, .ref qlv, .int sa])), (qwh, .inl (cyZ, 64, .inl WH)), (qlv, .inl (cyZ, 64, .inl LV))] sS.heap.size = A at hD ⊢
  have hA : ∀ q : Nat, sS.heap.size ≤ q → A q := fun q h => by rw [← hAe]; exact Or.inr h
  have hS : va_S A sS.heap sS.heap [] := va_S.rf
  have hP : va_P (dC, dI) vwCl [(q4, .inr (3, [.ref qd, .ref qc, .ref qt, .ref ql, .ref qn, .ref qe, .ref qr, .ref qz, .int fp])), (qd, .inr (1, [.ref qw, .int (bI on), .int lf, .int (nI dn)])), (qw, .inl (cyI, 512, .inl w)), (qc, .inr (0, [.ref qd, .ref qwh, .ref qlv, .int sa])), (qwh, .inl (cyZ, 64, .inl WH)), (qlv, .inl (cyZ, 64, .inl LV))] sS.heap := hP
  have iwX4 : ∀ w ∈ wsX40, w ∈ wsX4_surveyed := by decide +kernel
  have fk21 := hts (.fieldLink RX4 21 "CodedStore" "catalog" "LCodedStore$Catalog;") (by decide +kernel)
  have hl := lv_entry ([.ref q4]) (n := 1) (Nat.le_of_ble_eq_true rfl)
  rw [lg_entry_eq]
  generalize (lg_sl ([.ref q4]) ++ List.replicate (1 - (lg_sl ([.ref q4])).length) Slot.unset).toArray = ls at hl ⊢
  have hl : lv_has ls 1 [(0, .ref q4)] := hl
  refine lv_aload_n hx hb dX4_surveyed_0 rfl (lv_at hl 0 rfl) ?_
  refine va_get (D := (dC, dI)) (ci := 3) (v := .ref qc) (C := RX4) (T := TX4) (N := 9) hx hb hts iwX4 hown hK hP 0 rfl rfl 1 (by decide) fk21 (fun _ h9 => h9) rfl dX4_surveyed_1 ?_
  have hPc := hP.sub (ws' := [(qc, .inr (0, [.ref qd, .ref qwh, .ref qlv, .int sa])), (qwh, .inl (cyZ, 64, .inl WH)), (qlv, .inl (cyZ, 64, .inl LV)), (qd, .inr (1, [.ref qw, .int (bI on), .int lf, .int (nI dn)])), (qw, .inl (cyI, 512, .inl w))]) [3, 4, 5, 1, 2] rfl
  have hKc := hK.sub (tys' := [(cyI, .int), (cyZ, .boolean)]) [0, 1] rfl
  have hDc := hD.sub (ws' := [(qc, .inr (0, [.ref qd, .ref qwh, .ref qlv, .int sa])), (qwh, .inl (cyZ, 64, .inl WH)), (qlv, .inl (cyZ, 64, .inl LV)), (qd, .inr (1, [.ref qw, .int (bI on), .int lf, .int (nI dn)])), (qw, .inl (cyI, 512, .inl w))]) [3, 4, 5, 1, 2] (by decide) rfl
  have hFc := va_free (wc := [(qc, .inr (0, [.ref qd, .ref qwh, .ref qlv, .int sa])), (qwh, .inl (cyZ, 64, .inl WH)), (qlv, .inl (cyZ, 64, .inl LV)), (qd, .inr (1, [.ref qw, .int (bI on), .int lf, .int (nI dn)])), (qw, .inl (cyI, 512, .inl w))]) hD hS hA [3, 4, 5, 1, 2] rfl
  refine va_callv (va_runV (As := []) (rest := []) ⟨hx, hb, hml, hown, hts⟩ (c_X0_survey l dC dI cyI cyZ qc qwh qlv qd qw sS.heap.size WH LV sa w on lf dn (HS)) (cwV 0 hts gX4_surveyed_X0_survey rfl rfl rfl (by decide +kernel) ⟨Nat.le_of_ble_eq_true rfl, Nat.le_of_ble_eq_true rfl⟩) ⟨zz_blW, va_recv hKc hPc (ci := 0) (q0 := 0) rfl rfl, fun U hU hW => ⟨rfl, by rw [hU], by rw [hU]; exact hPc, va_K.moved hW.alike hKc, hDc.weaken (fun _ _ _ _ => trivial)⟩⟩ rfl rfl hl.1 rfl (lv_room (Nat.le_of_ble_eq_true rfl)) dX4_surveyed_4 ⟨Nat.zero_le _, Nat.zero_le _⟩) hS (fun q _ h => hFc q h) hFc (fun uU tS H1 locs ht9 hvm9 hw9 hB9 hz1 hk1 hS => ?_)
  obtain ⟨WH1_4, LV1_4⟩ := uU
  obtain ⟨hP1, hK1, hD1⟩ := hB9
  have hw9 : (∀ j, j < 64 → LV1_4 j = bI (kLive w j)) := hw9
  have HL_4 := hw9
  rw [ht9] at hP1
  have hK1 := va_K.moved hvm9.symm hK1
  obtain ⟨hP, hD⟩ := va_join (wr := [(q4, .inr (3, [.ref qd, .ref qc, .ref qt, .ref ql, .ref qn, .ref qe, .ref qr, .ref qz, .int fp]))]) (w1 := [(qc, .inr (0, [.ref qd, .ref qwh, .ref qlv, .int (nI dn)])), (qwh, .inl (cyZ, 64, .inl WH1_4)), (qlv, .inl (cyZ, 64, .inl LV1_4)), (qd, .inr (1, [.ref qw, .int (bI on), .int lf, .int (nI dn)])), (qw, .inl (cyI, 512, .inl w))]) hP hD [3, 4, 5, 1, 2] [0] rfl rfl (by decide) (by decide) hk1 hFc hP1 hD1
  generalize H1 = H at hP hS ⊢
  have hP : va_P (dC, dI) vwCl [(q4, .inr (3, [.ref qd, .ref qc, .ref qt, .ref ql, .ref qn, .ref qe, .ref qr, .ref qz, .int fp])), (qc, .inr (0, [.ref qd, .ref qwh, .ref qlv, .int (nI dn)])), (qwh, .inl (cyZ, 64, .inl WH1_4)), (qlv, .inl (cyZ, 64, .inl LV1_4)), (qd, .inr (1, [.ref qw, .int (bI on), .int lf, .int (nI dn)])), (qw, .inl (cyI, 512, .inl w))] H := hP
  have hD : va_D A [(q4, .inr (3, [.ref qd, .ref qc, .ref qt, .ref ql, .ref qn, .ref qe, .ref qr, .ref qz, .int fp])), (qc, .inr (0, [.ref qd, .ref qwh, .ref qlv, .int (nI dn)])), (qwh, .inl (cyZ, 64, .inl WH1_4)), (qlv, .inl (cyZ, 64, .inl LV1_4)), (qd, .inr (1, [.ref qw, .int (bI on), .int lf, .int (nI dn)])), (qw, .inl (cyI, 512, .inl w))] := hD
  refine lv_aload_n hx hb dX4_surveyed_7 rfl (lv_at hl 0 rfl) ?_
  refine va_get (D := (dC, dI)) (ci := 3) (v := .ref qc) (C := RX4) (T := TX4) (N := 9) hx hb hts iwX4 hown hK hP 0 rfl rfl 1 (by decide) fk21 (fun _ h9 => h9) rfl dX4_surveyed_8 ?_
  have hP9 := hP.sub (ws' := [(q4, .inr (3, [.ref qd, .ref qc, .ref qt, .ref ql, .ref qn, .ref qe, .ref qr, .ref qz, .int fp])), (qd, .inr (1, [.ref qw, .int (bI on), .int lf, .int (nI dn)])), (qw, .inl (cyI, 512, .inl w)), (qc, .inr (0, [.ref qd, .ref qwh, .ref qlv, .int (nI dn)])), (qwh, .inl (cyZ, 64, .inl WH1_4)), (qlv, .inl (cyZ, 64, .inl LV1_4))]) [0, 4, 5, 1, 2, 3] rfl
  have hD9 := hD.sub (ws' := [(q4, .inr (3, [.ref qd, .ref qc, .ref qt, .ref ql, .ref qn, .ref qe, .ref qr, .ref qz, .int fp])), (qd, .inr (1, [.ref qw, .int (bI on), .int lf, .int (nI dn)])), (qw, .inl (cyI, 512, .inl w)), (qc, .inr (0, [.ref qd, .ref qwh, .ref qlv, .int (nI dn)])), (qwh, .inl (cyZ, 64, .inl WH1_4)), (qlv, .inl (cyZ, 64, .inl LV1_4))]) [0, 4, 5, 1, 2, 3] (by decide) rfl
  have hK9 := hK.sub (tys' := [(cyI, .int), (cyZ, .boolean)]) [0, 1] rfl
  exact W.aret (v := .ref qc) hx hb hr (Or.inl ⟨_, rfl⟩) (Or.inr ⟨_, rfl⟩) (fun tS ht hW => ⟨⟨(WH1_4, LV1_4), _, rfl, HL_4, rfl, by rw [ht]; exact hP9, va_K.moved hW.alike hK9, hD9⟩, hS.F ht⟩) hS.2.2 dX4_surveyed_11
set_option maxHeartbeats 4000000 in
set_option maxRecDepth 100000 in
theorem c_X4_partsFor (l : Launch) (dC : Nat → ClassId) (dI : Nat → Nat → Nat) (cyI cyZ : ClassId) (n : Nat) (hn : n ≤ 1000) : Met l yX4_partsFor wsX4_partsFor ({ frames := 0, cells := 0, slots := 0, locals := 0 }) (va_Pc [.int (nI n)] (fun U => va_P (dC, dI) vwCl [] U.heap ∧ va_K (dC, dI) vwCl [(cyI, .int), (cyZ, .boolean)] U)) (vp_Si (fun r => r = nI (zParts n))) 0 0 (fun _ => False) := by
  refine Met.ofW (cc := cX4_partsFor) (maxL := 1) (ret := (some .int)) (by decide) rfl ?_
  intro pz ez sS mM args below meth cC s₁ B hml hv
  obtain ⟨rfl, hP, hK⟩ := hv
  have hx := B.exec
  have hb := B.bytes
  have hr := B.returns
  have hts := atoms_spec (ws := wsX4_partsFor) B.pre
  have hown : sS.vm.findClass RX4 = some mM.cls := findClass_of_methodNamed B.named
  have hlocks := B.notSynchronized
  have hl := lv_entry ([.int (nI n)]) (n := 1) (Nat.le_of_ble_eq_true rfl)
  rw [lg_entry_eq]
  generalize (lg_sl ([.int (nI n)]) ++ List.replicate (1 - (lg_sl ([.int (nI n)])).length) Slot.unset).toArray = ls at hl ⊢
  have hl : lv_has ls 1 [(0, .int (nI n))] := hl
  refine lv_iload_n hx hb dX4_partsFor_0 rfl (lv_at hl 0 rfl) ?_
  refine lv_bipush (v := nI 16) hx hb dX4_partsFor_1 (by decide) ?_
  refine zn_icmp_gt (tgt := 10) hx hb dX4_partsFor_3 (by decide) (by omega) (by omega) (fun c_3 => ?_) (fun c_3 => ?_)
  ·
    refine lv_iload_n hx hb dX4_partsFor_10 rfl (lv_at hl 0 rfl) ?_
    refine lv_bipush (v := nI 16) hx hb dX4_partsFor_11 (by decide) ?_
    refine lv_iadd hx hb dX4_partsFor_13 ?_
    refine zz_top (nI_add n 16) ?_
    refine lv_iconst (v := nI 1) hx hb dX4_partsFor_14 (by decide) ?_
    refine lv_isub hx hb dX4_partsFor_15 ?_
    refine zz_top (pk_sub (a := n + 16) (b := 1) (by omega)) ?_
    refine lv_bipush (v := nI 16) hx hb dX4_partsFor_16 (by decide) ?_
    refine lv_idiv hx hb dX4_partsFor_18 (by decide) ?_
    refine zz_top (pk_div (a := (n + 16) - 1) (d := 16) (by omega) (by decide) (by decide)) ?_
    have hret : nI (((n + 16) - 1) / 16) = nI (zParts n) := congrArg nI (by unfold zParts; split <;> omega)
    refine zz_top hret ?_
    exact W.iret hx hb hr (fun tS ht hW => ⟨_, rfl, rfl, ht⟩) (fun _ h => nomatch h) dX4_partsFor_19
  ·
    refine lv_iconst (v := nI 1) hx hb dX4_partsFor_6 (by decide) ?_
    refine lv_goto (tgt := 19) hx hb dX4_partsFor_7 (by decide) ?_
    have hret : nI 1 = nI (zParts n) := congrArg nI (by unfold zParts; split <;> omega)
    refine zz_top hret ?_
    exact W.iret hx hb hr (fun tS ht hW => ⟨_, rfl, rfl, ht⟩) (fun _ h => nomatch h) dX4_partsFor_19
set_option maxHeartbeats 4000000 in
set_option maxRecDepth 100000 in
theorem c_X4_fillRow (l : Launch) (dC : Nat → ClassId) (dI : Nat → Nat → Nat) (cyI cyZ : ClassId) (q4 qn qna qr qd qc qt ql qe qz : Nat) (sz : Nat) (fp : Int32) (C : Nat → Int32) (m : Nat) (row : Nat → Int32) (rn : Int32) (q ps fm : Nat) (ky : Int32) (hm : m ≤ 450) (hq : q < 1000) : Met l yX4_fillRow wsX4_fillRow ({ frames := 2, cells := 0, slots := 0, locals := 42 }) (va_Pc [.ref q4, .int rn, .int (nI q), .int (nI ps), .int (nI fm), .int ky] (fun U => U.heap.size = sz ∧ va_P (dC, dI) vwCl [(q4, .inr (3, [.ref qd, .ref qc, .ref qt, .ref ql, .ref qn, .ref qe, .ref qr, .ref qz, .int fp])), (qn, .inr (2, [.ref qna, .int (nI m)])), (qna, .inl (cyI, 450, .inl C)), (qr, .inl (cyI, 8, .inl row))] U.heap ∧ va_K (dC, dI) vwCl [(cyI, .int), (cyZ, .boolean)] U ∧ va_D (fun _ => True) [(q4, .inr (3, [.ref qd, .ref qc, .ref qt, .ref ql, .ref qn, .ref qe, .ref qr, .ref qz, .int fp])), (qn, .inr (2, [.ref qna, .int (nI m)])), (qna, .inl (cyI, 450, .inl C)), (qr, .inl (cyI, 8, .inl row))])) (va_Qv (S := (Nat → Int32)) (fun (row1 : (Nat → Int32)) => (∀ j, j < 8 → row1 j = zRow rn ps fm ky m C q j)) (fun (row1 : (Nat → Int32)) tS => va_P (dC, dI) vwCl [(q4, .inr (3, [.ref qd, .ref qc, .ref qt, .ref ql, .ref qn, .ref qe, .ref qr, .ref qz, .int fp])), (qn, .inr (2, [.ref qna, .int (nI m)])), (qna, .inl (cyI, 450, .inl C)), (qr, .inl (cyI, 8, .inl row1))] tS.heap ∧ va_K (dC, dI) vwCl [(cyI, .int), (cyZ, .boolean)] tS ∧ va_D (va_A [(q4, .inr (3, [.ref qd, .ref qc, .ref qt, .ref ql, .ref qn, .ref qe, .ref qr, .ref qz, .int fp])), (qn, .inr (2, [.ref qna, .int (nI m)])), (qna, .inl (cyI, 450, .inl C)), (qr, .inl (cyI, 8, .inl row))] sz) [(q4, .inr (3, [.ref qd, .ref qc, .ref qt, .ref ql, .ref qn, .ref qe, .ref qr, .ref qz, .int fp])), (qn, .inr (2, [.ref qna, .int (nI m)])), (qna, .inl (cyI, 450, .inl C)), (qr, .inl (cyI, 8, .inl row1))]) (va_A [(q4, .inr (3, [.ref qd, .ref qc, .ref qt, .ref ql, .ref qn, .ref qe, .ref qr, .ref qz, .int fp])), (qn, .inr (2, [.ref qna, .int (nI m)])), (qna, .inl (cyI, 450, .inl C)), (qr, .inl (cyI, 8, .inl row))] sz)) 0 0 (va_A [(q4, .inr (3, [.ref qd, .ref qc, .ref qt, .ref ql, .ref qn, .ref qe, .ref qr, .ref qz, .int fp])), (qn, .inr (2, [.ref qna, .int (nI m)])), (qna, .inl (cyI, 450, .inl C)), (qr, .inl (cyI, 8, .inl row))] sz) := by
  refine Met.ofW (cc := cX4_fillRow) (maxL := 7) (ret := none) (by decide) rfl ?_
  intro pz ez sS mM args below meth cC s₁ B hml hv
  obtain ⟨rfl, hsz, hP, hK, hD0⟩ := hv
  have hx := B.exec
  have hb := B.bytes
  have hr := B.returns
  have hts := atoms_spec (ws := wsX4_fillRow) B.pre
  have hown : sS.vm.findClass RX4 = some mM.cls := findClass_of_methodNamed B.named
  have hlocks := B.notSynchronized
  subst hsz
  have hD := hD0.self (sz := sS.heap.size)
  generalize hAe : va_A [(q4, .inr (3, [.ref qd, .ref qc, .ref qt, .ref ql, .ref qn, .ref qe, .ref qr, .ref qz, .int fp])), (qn, .inr (2, [.ref qna, .int (nI m)])), (qna, .inl (cyI, 450, .inl C)), (qr, .inl (cyI, 8, .inl row))] sS.heap.size = A at hD ⊢
  have hA : ∀ q : Nat, sS.heap.size ≤ q → A q := fun q h => by rw [← hAe]; exact Or.inr h
  have hS : va_S A sS.heap sS.heap [] := va_S.rf
  have hP : va_P (dC, dI) vwCl [(q4, .inr (3, [.ref qd, .ref qc, .ref qt, .ref ql, .ref qn, .ref qe, .ref qr, .ref qz, .int fp])), (qn, .inr (2, [.ref qna, .int (nI m)])), (qna, .inl (cyI, 450, .inl C)), (qr, .inl (cyI, 8, .inl row))] sS.heap := hP
  have iwX4 : ∀ w ∈ wsX40, w ∈ wsX4_fillRow := by decide +kernel
  have fk35 := hts (.fieldLink RX4 35 "CodedStore" "content" "LCodedStore$Octets;") (by decide +kernel)
  have fk41 := hts (.fieldLink RX4 41 "CodedStore" "row" "[I") (by decide +kernel)
  have hl := lv_entry ([.ref q4, .int rn, .int (nI q), .int (nI ps), .int (nI fm), .int ky]) (n := 7) (Nat.le_of_ble_eq_true rfl)
  rw [lg_entry_eq]
  generalize (lg_sl ([.ref q4, .int rn, .int (nI q), .int (nI ps), .int (nI fm), .int ky]) ++ List.replicate (7 - (lg_sl ([.ref q4, .int rn, .int (nI q), .int (nI ps), .int (nI fm), .int ky])).length) Slot.unset).toArray = ls at hl ⊢
  have hl : lv_has ls 7 [(0, .ref q4), (1, .int rn), (2, .int (nI q)), (3, .int (nI ps)), (4, .int (nI fm)), (5, .int ky)] := hl
  refine lv_aload_n hx hb dX4_fillRow_0 rfl (lv_at hl 0 rfl) ?_
  refine va_get (D := (dC, dI)) (ci := 3) (v := .ref qr) (C := RX4) (T := TX4) (N := 9) hx hb hts iwX4 hown hK hP 0 rfl rfl 6 (by decide) fk41 (fun _ h9 => h9) rfl dX4_fillRow_1 ?_
  refine lv_iconst (v := nI 0) hx hb dX4_fillRow_4 (by decide) ?_
  refine lv_iload_n hx hb dX4_fillRow_5 rfl (lv_at hl 1 rfl) ?_
  refine va_iast hx hb hK hP hD hS 3 0 rfl rfl (vp_in_nI (n := 0) (by omega) (by decide)) dX4_fillRow_6 (fun H locs hP hD hS => ?_)
  rw [nI_clamp (n := 0) (by omega)] at hP hD
  have hP : va_P (dC, dI) vwCl [(q4, .inr (3, [.ref qd, .ref qc, .ref qt, .ref ql, .ref qn, .ref qe, .ref qr, .ref qz, .int fp])), (qn, .inr (2, [.ref qna, .int (nI m)])), (qna, .inl (cyI, 450, .inl C)), (qr, .inl (cyI, 8, .inl (upd row 0 rn)))] H := hP
  have hD : va_D A [(q4, .inr (3, [.ref qd, .ref qc, .ref qt, .ref ql, .ref qn, .ref qe, .ref qr, .ref qz, .int fp])), (qn, .inr (2, [.ref qna, .int (nI m)])), (qna, .inl (cyI, 450, .inl C)), (qr, .inl (cyI, 8, .inl (upd row 0 rn)))] := hD
  refine lv_aload_n hx hb dX4_fillRow_7 rfl (lv_at hl 0 rfl) ?_
  refine va_get (D := (dC, dI)) (ci := 3) (v := .ref qr) (C := RX4) (T := TX4) (N := 9) hx hb hts iwX4 hown hK hP 0 rfl rfl 6 (by decide) fk41 (fun _ h9 => h9) rfl dX4_fillRow_8 ?_
  refine lv_iconst (v := nI 1) hx hb dX4_fillRow_11 (by decide) ?_
  refine lv_iload_n hx hb dX4_fillRow_12 rfl (lv_at hl 2 rfl) ?_
  refine lv_sipush (v := nI 256) hx hb dX4_fillRow_13 (by decide) ?_
  refine lv_iload_n hx hb dX4_fillRow_16 rfl (lv_at hl 3 rfl) ?_
  refine lv_imul hx hb dX4_fillRow_17 ?_
  refine zz_top (pk_mul 256 ps) ?_
  refine lv_iadd hx hb dX4_fillRow_18 ?_
  refine zz_top (nI_add q (256 * ps)) ?_
  refine lv_ldc (v := nI 65536) hx hb hown (hts (.constant RX4 174 65536) (by decide +kernel)) dX4_fillRow_19 ?_
  refine lv_iload hx hb dX4_fillRow_21 (lv_at hl 4 rfl) ?_
  refine lv_imul hx hb dX4_fillRow_23 ?_
  refine zz_top (pk_mul 65536 fm) ?_
  refine lv_iadd hx hb dX4_fillRow_24 ?_
  refine zz_top (nI_add (q + 256 * ps) (65536 * fm)) ?_
  refine va_iast hx hb hK hP hD hS 3 0 rfl rfl (vp_in_nI (n := 1) (by omega) (by decide)) dX4_fillRow_25 (fun H locs hP hD hS => ?_)
  rw [nI_clamp (n := 1) (by omega)] at hP hD
  have hP : va_P (dC, dI) vwCl [(q4, .inr (3, [.ref qd, .ref qc, .ref qt, .ref ql, .ref qn, .ref qe, .ref qr, .ref qz, .int fp])), (qn, .inr (2, [.ref qna, .int (nI m)])), (qna, .inl (cyI, 450, .inl C)), (qr, .inl (cyI, 8, .inl (upd (upd row 0 rn) 1 (nI (q + 256 * ps + 65536 * fm)))))] H := hP
  have hD : va_D A [(q4, .inr (3, [.ref qd, .ref qc, .ref qt, .ref ql, .ref qn, .ref qe, .ref qr, .ref qz, .int fp])), (qn, .inr (2, [.ref qna, .int (nI m)])), (qna, .inl (cyI, 450, .inl C)), (qr, .inl (cyI, 8, .inl (upd (upd row 0 rn) 1 (nI (q + 256 * ps + 65536 * fm)))))] := hD
  refine lv_aload_n hx hb dX4_fillRow_26 rfl (lv_at hl 0 rfl) ?_
  refine va_get (D := (dC, dI)) (ci := 3) (v := .ref qr) (C := RX4) (T := TX4) (N := 9) hx hb hts iwX4 hown hK hP 0 rfl rfl 6 (by decide) fk41 (fun _ h9 => h9) rfl dX4_fillRow_27 ?_
  refine lv_iconst (v := nI 2) hx hb dX4_fillRow_30 (by decide) ?_
  refine lv_iload hx hb dX4_fillRow_31 (lv_at hl 5 rfl) ?_
  refine va_iast hx hb hK hP hD hS 3 0 rfl rfl (vp_in_nI (n := 2) (by omega) (by decide)) dX4_fillRow_33 (fun H locs hP hD hS => ?_)
  rw [nI_clamp (n := 2) (by omega)] at hP hD
  have hP : va_P (dC, dI) vwCl [(q4, .inr (3, [.ref qd, .ref qc, .ref qt, .ref ql, .ref qn, .ref qe, .ref qr, .ref qz, .int fp])), (qn, .inr (2, [.ref qna, .int (nI m)])), (qna, .inl (cyI, 450, .inl C)), (qr, .inl (cyI, 8, .inl (upd (upd (upd row 0 rn) 1 (nI (q + 256 * ps + 65536 * fm))) 2 ky)))] H := hP
  have hD : va_D A [(q4, .inr (3, [.ref qd, .ref qc, .ref qt, .ref ql, .ref qn, .ref qe, .ref qr, .ref qz, .int fp])), (qn, .inr (2, [.ref qna, .int (nI m)])), (qna, .inl (cyI, 450, .inl C)), (qr, .inl (cyI, 8, .inl (upd (upd (upd row 0 rn) 1 (nI (q + 256 * ps + 65536 * fm))) 2 ky)))] := hD
  refine lv_aload_n hx hb dX4_fillRow_34 rfl (lv_at hl 0 rfl) ?_
  refine va_get (D := (dC, dI)) (ci := 3) (v := .ref qr) (C := RX4) (T := TX4) (N := 9) hx hb hts iwX4 hown hK hP 0 rfl rfl 6 (by decide) fk41 (fun _ h9 => h9) rfl dX4_fillRow_35 ?_
  refine lv_iconst (v := nI 3) hx hb dX4_fillRow_38 (by decide) ?_
  refine lv_aload_n hx hb dX4_fillRow_39 rfl (lv_at hl 0 rfl) ?_
  refine va_get (D := (dC, dI)) (ci := 3) (v := .ref qn) (C := RX4) (T := TX4) (N := 9) hx hb hts iwX4 hown hK hP 0 rfl rfl 4 (by decide) fk35 (fun _ h9 => h9) rfl dX4_fillRow_40 ?_
  have hPc := hP.sub (ws' := [(qn, .inr (2, [.ref qna, .int (nI m)])), (qna, .inl (cyI, 450, .inl C))]) [1, 2] rfl
  have hKc := hK.sub (tys' := [(cyI, .int), (cyZ, .boolean)]) [0, 1] rfl
  refine vp_callSi (va_Run.run (va_runV (As := []) (rest := [.int (nI 3), .ref qr]) ⟨hx, hb, hml, hown, hts⟩ (c_X3_size l dC dI cyI cyZ qn qna C m) (cwV 0 hts gX4_fillRow_X3_size rfl rfl rfl (by decide +kernel) ⟨Nat.le_of_ble_eq_true rfl, Nat.le_of_ble_eq_true rfl⟩) ⟨zz_blR, va_recv hKc hPc (ci := 2) (q0 := 0) rfl rfl, fun U hU hW => ⟨rfl, by rw [hU]; exact hPc, va_K.moved hW.alike hKc⟩⟩ rfl rfl hl.1 rfl (lv_room (Nat.le_of_ble_eq_true rfl)) dX4_fillRow_43 ⟨Nat.zero_le _, Nat.zero_le _⟩)) (fun r_43 hr_43 => ?_)
  have hr_43 : nI m = r_43 := Eq.symm hr_43
  subst hr_43
  refine va_iast hx hb hK hP hD hS 3 0 rfl rfl (vp_in_nI (n := 3) (by omega) (by decide)) dX4_fillRow_46 (fun H locs hP hD hS => ?_)
  rw [nI_clamp (n := 3) (by omega)] at hP hD
  have hP : va_P (dC, dI) vwCl [(q4, .inr (3, [.ref qd, .ref qc, .ref qt, .ref ql, .ref qn, .ref qe, .ref qr, .ref qz, .int fp])), (qn, .inr (2, [.ref qna, .int (nI m)])), (qna, .inl (cyI, 450, .inl C)), (qr, .inl (cyI, 8, .inl (upd (upd (upd (upd row 0 rn) 1 (nI (q + 256 * ps + 65536 * fm))) 2 ky) 3 (nI m))))] H := hP
  have hD : va_D A [(q4, .inr (3, [.ref qd, .ref qc, .ref qt, .ref ql, .ref qn, .ref qe, .ref qr, .ref qz, .int fp])), (qn, .inr (2, [.ref qna, .int (nI m)])), (qna, .inl (cyI, 450, .inl C)), (qr, .inl (cyI, 8, .inl (upd (upd (upd (upd row 0 rn) 1 (nI (q + 256 * ps + 65536 * fm))) 2 ky) 3 (nI m))))] := hD
  refine lv_iconst (v := nI 4) hx hb dX4_fillRow_47 (by decide) ?_
  refine lv_istore (lv' := [(6, .int (nI 4)), (0, .ref q4), (1, .int rn), (2, .int (nI q)), (3, .int (nI ps)), (4, .int (nI fm)), (5, .int ky)]) hx hb dX4_fillRow_48 hl (by decide) rfl (fun ls hl => ?_)
  refine zz_loopW (pc := 50) (μ := fun (x : Nat × (Nat → Int32)) => match x with | (j, row1) => 8 - j) (Inv := fun (x : Nat × (Nat → Int32)) (H : Heap) (locs : List Loc) (ls : Array Slot) => match x with | (j, row1) => (4 ≤ j) ∧ (j ≤ 8) ∧ (∀ i, i < j → row1 i = zRow rn ps fm ky m C q i) ∧ va_P (dC, dI) vwCl [(q4, .inr (3, [.ref qd, .ref qc, .ref qt, .ref ql, .ref qn, .ref qe, .ref qr, .ref qz, .int fp])), (qn, .inr (2, [.ref qna, .int (nI m)])), (qna, .inl (cyI, 450, .inl C)), (qr, .inl (cyI, 8, .inl row1))] H ∧ va_D A [(q4, .inr (3, [.ref qd, .ref qc, .ref qt, .ref ql, .ref qn, .ref qe, .ref qr, .ref qz, .int fp])), (qn, .inr (2, [.ref qna, .int (nI m)])), (qna, .inl (cyI, 450, .inl C)), (qr, .inl (cyI, 8, .inl row1))] ∧ va_S A sS.heap H locs ∧ lv_has ls 7 [(0, .ref q4), (1, .int rn), (2, .int (nI q)), (3, .int (nI ps)), (4, .int (nI fm)), (5, .int ky), (6, .int (nI j))]) (x0 := (4, upd (upd (upd (upd row 0 rn) 1 (nI (q + 256 * ps + 65536 * fm))) 2 ky) 3 (nI m))) ⟨by omega, by omega, fun i hi => by rcases (show i = 0 ∨ i = 1 ∨ i = 2 ∨ i = 3 by omega) with rfl | rfl | rfl | rfl <;> rfl, hP, hD, hS, lv_sub hl [1, 2, 3, 4, 5, 6, 0] rfl⟩ ?_
  intro ⟨j, row1⟩ H locs ls hI ih50
  obtain ⟨hj4, hj8, hR, hP, hD, hS, hl⟩ := hI
  have hl : lv_has ls 7 [(0, .ref q4), (1, .int rn), (2, .int (nI q)), (3, .int (nI ps)), (4, .int (nI fm)), (5, .int ky), (6, .int (nI j))] := hl
  have hP : va_P (dC, dI) vwCl [(q4, .inr (3, [.ref qd, .ref qc, .ref qt, .ref ql, .ref qn, .ref qe, .ref qr, .ref qz, .int fp])), (qn, .inr (2, [.ref qna, .int (nI m)])), (qna, .inl (cyI, 450, .inl C)), (qr, .inl (cyI, 8, .inl row1))] H := hP
  have hD : va_D A [(q4, .inr (3, [.ref qd, .ref qc, .ref qt, .ref ql, .ref qn, .ref qe, .ref qr, .ref qz, .int fp])), (qn, .inr (2, [.ref qna, .int (nI m)])), (qna, .inl (cyI, 450, .inl C)), (qr, .inl (cyI, 8, .inl row1))] := hD
  have hj4 : 4 ≤ j := hj4
  have hj8 : j ≤ 8 := hj8
  have hR : ∀ i, i < j → row1 i = zRow rn ps fm ky m C q i := hR
  refine lv_iload hx hb dX4_fillRow_50 (lv_at hl 6 rfl) ?_
  refine lv_bipush (v := nI 8) hx hb dX4_fillRow_52 (by decide) ?_
  refine zn_icmp_ge (tgt := 88) hx hb dX4_fillRow_54 (by decide) (by omega) (by omega) (fun c_54 => ?_) (fun c_54 => ?_)
  ·
    have hP9 := hP.sub (ws' := [(q4, .inr (3, [.ref qd, .ref qc, .ref qt, .ref ql, .ref qn, .ref qe, .ref qr, .ref qz, .int fp])), (qn, .inr (2, [.ref qna, .int (nI m)])), (qna, .inl (cyI, 450, .inl C)), (qr, .inl (cyI, 8, .inl row1))]) [0, 1, 2, 3] rfl
    have hD9 := hD.sub (ws' := [(q4, .inr (3, [.ref qd, .ref qc, .ref qt, .ref ql, .ref qn, .ref qe, .ref qr, .ref qz, .int fp])), (qn, .inr (2, [.ref qna, .int (nI m)])), (qna, .inl (cyI, 450, .inl C)), (qr, .inl (cyI, 8, .inl row1))]) [0, 1, 2, 3] (by decide) rfl
    have hK9 := hK.sub (tys' := [(cyI, .int), (cyZ, .boolean)]) [0, 1] rfl
    exact W.vret hx hb hr (fun tS ht hW => ⟨⟨row1, rfl, fun i hi => hR i (by omega), by rw [ht]; exact hP9, va_K.moved hW.alike hK9, hD9⟩, hS.F ht⟩) hS.2.2 dX4_fillRow_88
  ·
    refine lv_aload_n hx hb dX4_fillRow_57 rfl (lv_at hl 0 rfl) ?_
    refine va_get (D := (dC, dI)) (ci := 3) (v := .ref qr) (C := RX4) (T := TX4) (N := 9) hx hb hts iwX4 hown hK hP 0 rfl rfl 6 (by decide) fk41 (fun _ h9 => h9) rfl dX4_fillRow_58 ?_
    refine lv_iload hx hb dX4_fillRow_61 (lv_at hl 6 rfl) ?_
    refine lv_aload_n hx hb dX4_fillRow_63 rfl (lv_at hl 0 rfl) ?_
    refine va_get (D := (dC, dI)) (ci := 3) (v := .ref qn) (C := RX4) (T := TX4) (N := 9) hx hb hts iwX4 hown hK hP 0 rfl rfl 4 (by decide) fk35 (fun _ h9 => h9) rfl dX4_fillRow_64 ?_
    refine lv_bipush (v := nI 16) hx hb dX4_fillRow_67 (by decide) ?_
    refine lv_iload_n hx hb dX4_fillRow_69 rfl (lv_at hl 2 rfl) ?_
    refine lv_imul hx hb dX4_fillRow_70 ?_
    refine zz_top (pk_mul 16 q) ?_
    refine lv_iconst (v := nI 4) hx hb dX4_fillRow_71 (by decide) ?_
    refine lv_iload hx hb dX4_fillRow_72 (lv_at hl 6 rfl) ?_
    refine lv_iconst (v := nI 4) hx hb dX4_fillRow_74 (by decide) ?_
    refine lv_isub hx hb dX4_fillRow_75 ?_
    refine zz_top (pk_sub (a := j) (b := 4) (by omega)) ?_
    refine lv_imul hx hb dX4_fillRow_76 ?_
    refine zz_top (pk_mul 4 (j - 4)) ?_
    refine lv_iadd hx hb dX4_fillRow_77 ?_
    refine zz_top (nI_add (16 * q) (4 * (j - 4))) ?_
    have hPc := hP.sub (ws' := [(qn, .inr (2, [.ref qna, .int (nI m)])), (qna, .inl (cyI, 450, .inl C))]) [1, 2] rfl
    have hKc := hK.sub (tys' := [(cyI, .int), (cyZ, .boolean)]) [0, 1] rfl
    refine vp_callSi (va_Run.run (va_runV (As := [.int (nI (16 * q + (4 * (j - 4))))]) (rest := [.int (nI j), .ref qr]) ⟨hx, hb, hml, hown, hts⟩ (c_X3_fourFrom l dC dI cyI cyZ qn qna C m (16 * q + (4 * (j - 4))) (by omega) (by omega)) (cwV 1 hts gX4_fillRow_X3_fourFrom rfl rfl rfl (by decide +kernel) ⟨Nat.le_of_ble_eq_true rfl, Nat.le_of_ble_eq_true rfl⟩) ⟨zz_blR, va_recv hKc hPc (ci := 2) (q0 := 0) rfl rfl, fun U hU hW => ⟨rfl, by rw [hU]; exact hPc, va_K.moved hW.alike hKc⟩⟩ rfl rfl hl.1 rfl (lv_room (Nat.le_of_ble_eq_true rfl)) dX4_fillRow_78 ⟨Nat.zero_le _, Nat.zero_le _⟩)) (fun r_78 hr_78 => ?_)
    have hr_78 : zfour C m (16 * q + (4 * (j - 4))) = r_78 := Eq.symm hr_78
    subst hr_78
    refine va_iast hx hb hK hP hD hS 3 0 rfl rfl (vp_in_nI (n := j) (by omega) (by decide)) dX4_fillRow_81 (fun H locs hP hD hS => ?_)
    rw [nI_clamp (n := j) (by omega)] at hP hD
    have hP : va_P (dC, dI) vwCl [(q4, .inr (3, [.ref qd, .ref qc, .ref qt, .ref ql, .ref qn, .ref qe, .ref qr, .ref qz, .int fp])), (qn, .inr (2, [.ref qna, .int (nI m)])), (qna, .inl (cyI, 450, .inl C)), (qr, .inl (cyI, 8, .inl (upd row1 j (zfour C m (16 * q + (4 * (j - 4)))))))] H := hP
    have hD : va_D A [(q4, .inr (3, [.ref qd, .ref qc, .ref qt, .ref ql, .ref qn, .ref qe, .ref qr, .ref qz, .int fp])), (qn, .inr (2, [.ref qna, .int (nI m)])), (qna, .inl (cyI, 450, .inl C)), (qr, .inl (cyI, 8, .inl (upd row1 j (zfour C m (16 * q + (4 * (j - 4)))))))] := hD
    refine lv_iinc (v := nI (j + 1)) (lv' := [(6, .int (nI (j + 1))), (0, .ref q4), (1, .int rn), (2, .int (nI q)), (3, .int (nI ps)), (4, .int (nI fm)), (5, .int ky)]) hx hb dX4_fillRow_82 hl (k := 6) rfl (nI_add j 1) (by decide) rfl (fun ls hl => ?_)
    refine lv_goto (tgt := 50) hx hb dX4_fillRow_85 (by decide) ?_
    exact ih50 (j + 1, upd row1 j (zfour C m (16 * q + (4 * (j - 4))))) _ _ _ ⟨by omega, by omega, arr_step hR (by unfold zRow; rw [if_neg (by omega), if_neg (by omega), if_neg (by omega), if_neg (by omega)]), hP, hD, hS, lv_sub hl [1, 2, 3, 4, 5, 6, 0] rfl⟩ (by first | omega | (dsimp only; omega))
set_option maxHeartbeats 4000000 in
set_option maxRecDepth 100000 in
theorem c_X4_putRecord (l : Launch) (dC : Nat → ClassId) (dI : Nat → Nat → Nat) (cyI cyZ : ClassId) (q4 qd qw qc qwh qlv qn qna qr qt ql qe qz : Nat) (sz : Nat) (w : Nat → Int32) (lf : Int32) (dn : Nat) (WH LV : Nat → Int32) (sa : Int32) (fp : Int32) (C : Nat → Int32) (m : Nat) (row : Nat → Int32) (ky : Int32) (fm : Nat) (hm : m ≤ 450) (hdn0 : dn < 1000000) (HS : sa = nI dn → ∀ j, j < 64 → LV j = bI (kLive w j)) : Met l yX4_putRecord wsX4_putRecord ({ frames := 5, cells := 0, slots := 0, locals := 107 }) (va_Pc [.ref q4, .int ky, .int (nI fm)] (fun U => U.heap.size = sz ∧ va_P (dC, dI) vwCl [(q4, .inr (3, [.ref qd, .ref qc, .ref qt, .ref ql, .ref qn, .ref qe, .ref qr, .ref qz, .int fp])), (qd, .inr (1, [.ref qw, .int (bI true), .int lf, .int (nI dn)])), (qw, .inl (cyI, 512, .inl w)), (qc, .inr (0, [.ref qd, .ref qwh, .ref qlv, .int sa])), (qwh, .inl (cyZ, 64, .inl WH)), (qlv, .inl (cyZ, 64, .inl LV)), (qn, .inr (2, [.ref qna, .int (nI m)])), (qna, .inl (cyI, 450, .inl C)), (qr, .inl (cyI, 8, .inl row))] U.heap ∧ va_K (dC, dI) vwCl [(cyI, .int), (cyZ, .boolean)] U ∧ va_D (fun _ => True) [(q4, .inr (3, [.ref qd, .ref qc, .ref qt, .ref ql, .ref qn, .ref qe, .ref qr, .ref qz, .int fp])), (qd, .inr (1, [.ref qw, .int (bI true), .int lf, .int (nI dn)])), (qw, .inl (cyI, 512, .inl w)), (qc, .inr (0, [.ref qd, .ref qwh, .ref qlv, .int sa])), (qwh, .inl (cyZ, 64, .inl WH)), (qlv, .inl (cyZ, 64, .inl LV)), (qn, .inr (2, [.ref qna, .int (nI m)])), (qna, .inl (cyI, 450, .inl C)), (qr, .inl (cyI, 8, .inl row))])) (va_Qi (S := Bool × (Nat → Int32) × Int32 × Nat × (Nat → Int32) × (Nat → Int32) × (Nat → Int32)) (fun (r : Int32) (uU : Bool × (Nat → Int32) × Int32 × Nat × (Nat → Int32) × (Nat → Int32) × (Nat → Int32)) => match uU with | (on1, w1, lf1, dn1, WH1, LV1, row1) => ((r, on1, w1, lf1, dn1) = kPut w lf dn ky fm m C) ∧ (nI dn = nI dn1 → ∀ j, j < 64 → LV1 j = bI (kLive w1 j)) ∧ (dn ≤ dn1 ∧ dn1 ≤ dn + 64)) (fun (uU : Bool × (Nat → Int32) × Int32 × Nat × (Nat → Int32) × (Nat → Int32) × (Nat → Int32)) tS => match uU with | (on1, w1, lf1, dn1, WH1, LV1, row1) => va_P (dC, dI) vwCl [(q4, .inr (3, [.ref qd, .ref qc, .ref qt, .ref ql, .ref qn, .ref qe, .ref qr, .ref qz, .int fp])), (qd, .inr (1, [.ref qw, .int (bI on1), .int lf1, .int (nI dn1)])), (qw, .inl (cyI, 512, .inl w1)), (qc, .inr (0, [.ref qd, .ref qwh, .ref qlv, .int (nI dn)])), (qwh, .inl (cyZ, 64, .inl WH1)), (qlv, .inl (cyZ, 64, .inl LV1)), (qn, .inr (2, [.ref qna, .int (nI m)])), (qna, .inl (cyI, 450, .inl C)), (qr, .inl (cyI, 8, .inl row1))] tS.heap ∧ va_K (dC, dI) vwCl [(cyI, .int), (cyZ, .boolean)] tS ∧ va_D (va_A [(q4, .inr (3, [.ref qd, .ref qc, .ref qt, .ref ql, .ref qn, .ref qe, .ref qr, .ref qz, .int fp])), (qd, .inr (1, [.ref qw, .int (bI true), .int lf, .int (nI dn)])), (qw, .inl (cyI, 512, .inl w)), (qc, .inr (0, [.ref qd, .ref qwh, .ref qlv, .int sa])), (qwh, .inl (cyZ, 64, .inl WH)), (qlv, .inl (cyZ, 64, .inl LV)), (qn, .inr (2, [.ref qna, .int (nI m)])), (qna, .inl (cyI, 450, .inl C)), (qr, .inl (cyI, 8, .inl row))] sz) [(q4, .inr (3, [.ref qd, .ref qc, .ref qt, .ref ql, .ref qn, .ref qe, .ref qr, .ref qz, .int fp])), (qd, .inr (1, [.ref qw, .int (bI on1), .int lf1, .int (nI dn1)])), (qw, .inl (cyI, 512, .inl w1)), (qc, .inr (0, [.ref qd, .ref qwh, .ref qlv, .int (nI dn)])), (qwh, .inl (cyZ, 64, .inl WH1)), (qlv, .inl (cyZ, 64, .inl LV1)), (qn, .inr (2, [.ref qna, .int (nI m)])), (qna, .inl (cyI, 450, .inl C)), (qr, .inl (cyI, 8, .inl row1))]) (va_A [(q4, .inr (3, [.ref qd, .ref qc, .ref qt, .ref ql, .ref qn, .ref qe, .ref qr, .ref qz, .int fp])), (qd, .inr (1, [.ref qw, .int (bI true), .int lf, .int (nI dn)])), (qw, .inl (cyI, 512, .inl w)), (qc, .inr (0, [.ref qd, .ref qwh, .ref qlv, .int sa])), (qwh, .inl (cyZ, 64, .inl WH)), (qlv, .inl (cyZ, 64, .inl LV)), (qn, .inr (2, [.ref qna, .int (nI m)])), (qna, .inl (cyI, 450, .inl C)), (qr, .inl (cyI, 8, .inl row))] sz)) 0 0 (va_A [(q4, .inr (3, [.ref qd, .ref qc, .ref qt, .ref ql, .ref qn, .ref qe, .ref qr, .ref qz, .int fp])), (qd, .inr (1, [.ref qw, .int (bI true), .int lf, .int (nI dn)])), (qw, .inl (cyI, 512, .inl w)), (qc, .inr (0, [.ref qd, .ref qwh, .ref qlv, .int sa])), (qwh, .inl (cyZ, 64, .inl WH)), (qlv, .inl (cyZ, 64, .inl LV)), (qn, .inr (2, [.ref qna, .int (nI m)])), (qna, .inl (cyI, 450, .inl C)), (qr, .inl (cyI, 8, .inl row))] sz) := by
  refine Met.ofW (cc := cX4_putRecord) (maxL := 7) (ret := (some .int)) (by decide) rfl ?_
  intro pz ez sS mM args below meth cC s₁ B hml hv
  obtain ⟨rfl, hsz, hP, hK, hD0⟩ := hv
  have hx := B.exec
  have hb := B.bytes
  have hr := B.returns
  have hts := atoms_spec (ws := wsX4_putRecord) B.pre
  have hown : sS.vm.findClass RX4 = some mM.cls := findClass_of_methodNamed B.named
  have hlocks := B.notSynchronized
  subst hsz
  have hD := hD0.self (sz := sS.heap.size)
  generalize hAe : va_A [(q4, .inr (3, [.ref qd, .ref qc, .ref qt, .ref ql, .ref qn, .ref qe, .ref qr, .ref qz, .int fp])), (qd, .inr (1, [.ref qw, .int (bI true), .int lf, .int (nI dn)])), (qw, .inl (cyI, 512, .inl w)), (qc, .inr (0, [.ref qd, .ref qwh, .ref qlv, .int sa])), (qwh, .inl (cyZ, 64, .inl WH)), (qlv, .inl (cyZ, 64, .inl LV)), (qn, .inr (2, [.ref qna, .int (nI m)])), (qna, .inl (cyI, 450, .inl C)), (qr, .inl (cyI, 8, .inl row))] sS.heap.size = A at hD ⊢
  have hA : ∀ q : Nat, sS.heap.size ≤ q → A q := fun q h => by rw [← hAe]; exact Or.inr h
  have hS : va_S A sS.heap sS.heap [] := va_S.rf
  have hP : va_P (dC, dI) vwCl [(q4, .inr (3, [.ref qd, .ref qc, .ref qt, .ref ql, .ref qn, .ref qe, .ref qr, .ref qz, .int fp])), (qd, .inr (1, [.ref qw, .int (bI true), .int lf, .int (nI dn)])), (qw, .inl (cyI, 512, .inl w)), (qc, .inr (0, [.ref qd, .ref qwh, .ref qlv, .int sa])), (qwh, .inl (cyZ, 64, .inl WH)), (qlv, .inl (cyZ, 64, .inl LV)), (qn, .inr (2, [.ref qna, .int (nI m)])), (qna, .inl (cyI, 450, .inl C)), (qr, .inl (cyI, 8, .inl row))] sS.heap := hP
  have iwX4 : ∀ w ∈ wsX40, w ∈ wsX4_putRecord := by decide +kernel
  have fk10 := hts (.fieldLink RX4 10 "CodedStore" "disk" "LCodedStore$Disk;") (by decide +kernel)
  have fk21 := hts (.fieldLink RX4 21 "CodedStore" "catalog" "LCodedStore$Catalog;") (by decide +kernel)
  have fk35 := hts (.fieldLink RX4 35 "CodedStore" "content" "LCodedStore$Octets;") (by decide +kernel)
  have fk41 := hts (.fieldLink RX4 41 "CodedStore" "row" "[I") (by decide +kernel)
  have hl := lv_entry ([.ref q4, .int ky, .int (nI fm)]) (n := 7) (Nat.le_of_ble_eq_true rfl)
  rw [lg_entry_eq]
  generalize (lg_sl ([.ref q4, .int ky, .int (nI fm)]) ++ List.replicate (7 - (lg_sl ([.ref q4, .int ky, .int (nI fm)])).length) Slot.unset).toArray = ls at hl ⊢
  have hl : lv_has ls 7 [(0, .ref q4), (1, .int ky), (2, .int (nI fm))] := hl
  have hct := fb_ct_le (kLive w) 64
  have hps : zParts m ≤ 30 := by unfold zParts; split <;> omega
  obtain ⟨Z0, hZ0⟩ : ∃ Z, Z = kPutF (kLive w) (zRow (kGr w 64 + nI 1) (zParts m) fm ky m C) (zParts m) 64 0 0 w lf dn := ⟨_, rfl⟩
  refine lv_aload_n hx hb dX4_putRecord_0 rfl (lv_at hl 0 rfl) ?_
  refine va_get (D := (dC, dI)) (ci := 3) (v := .ref qn) (C := RX4) (T := TX4) (N := 9) hx hb hts iwX4 hown hK hP 0 rfl rfl 4 (by decide) fk35 (fun _ h9 => h9) rfl dX4_putRecord_1 ?_
  have hPc := hP.sub (ws' := [(qn, .inr (2, [.ref qna, .int (nI m)])), (qna, .inl (cyI, 450, .inl C))]) [6, 7] rfl
  have hKc := hK.sub (tys' := [(cyI, .int), (cyZ, .boolean)]) [0, 1] rfl
  refine vp_callSi (va_Run.run (va_runV (As := []) (rest := []) ⟨hx, hb, hml, hown, hts⟩ (c_X3_size l dC dI cyI cyZ qn qna C m) (cwV 0 hts gX4_putRecord_X3_size rfl rfl rfl (by decide +kernel) ⟨Nat.le_of_ble_eq_true rfl, Nat.le_of_ble_eq_true rfl⟩) ⟨zz_blR, va_recv hKc hPc (ci := 2) (q0 := 0) rfl rfl, fun U hU hW => ⟨rfl, by rw [hU]; exact hPc, va_K.moved hW.alike hKc⟩⟩ rfl rfl hl.1 rfl (lv_room (Nat.le_of_ble_eq_true rfl)) dX4_putRecord_4 ⟨Nat.zero_le _, Nat.zero_le _⟩)) (fun r_4 hr_4 => ?_)
  have hr_4 : nI m = r_4 := Eq.symm hr_4
  subst hr_4
  have hPc := hP.sub (ws' := []) [] rfl
  have hKc := hK.sub (tys' := [(cyI, .int), (cyZ, .boolean)]) [0, 1] rfl
  refine vp_callSi (va_Run.run (va_runS (As := [.int (nI m)]) (rest := []) ⟨hx, hb, hml, hown, hts⟩ (c_X4_partsFor l dC dI cyI cyZ m (by omega)) (va_cwS 1 hts gX4_putRecord_X4_partsFor rfl rfl rfl (by decide +kernel) ⟨Nat.le_of_ble_eq_true rfl, Nat.le_of_ble_eq_true rfl⟩) ⟨zz_blR, fun U hU hW => ⟨rfl, by rw [hU]; exact hPc, va_K.moved hW.alike hKc⟩⟩ rfl rfl hl.1 rfl (lv_room (Nat.le_of_ble_eq_true rfl)) dX4_putRecord_7 ⟨Nat.zero_le _, Nat.zero_le _⟩)) (fun r_7 hr_7 => ?_)
  have hr_7 : nI (zParts m) = r_7 := Eq.symm hr_7
  subst hr_7
  refine lv_istore_n (lv' := [(3, .int (nI (zParts m))), (0, .ref q4), (1, .int ky), (2, .int (nI fm))]) hx hb dX4_putRecord_10 rfl hl (by decide) rfl (fun ls hl => ?_)
  refine lv_bipush (v := nI 64) hx hb dX4_putRecord_11 (by decide) ?_
  refine lv_aload_n hx hb dX4_putRecord_13 rfl (lv_at hl 1 rfl) ?_
  have hPc := hP.sub (ws' := [(q4, .inr (3, [.ref qd, .ref qc, .ref qt, .ref ql, .ref qn, .ref qe, .ref qr, .ref qz, .int fp])), (qd, .inr (1, [.ref qw, .int (bI true), .int lf, .int (nI dn)])), (qw, .inl (cyI, 512, .inl w)), (qc, .inr (0, [.ref qd, .ref qwh, .ref qlv, .int sa])), (qwh, .inl (cyZ, 64, .inl WH)), (qlv, .inl (cyZ, 64, .inl LV))]) [0, 1, 2, 3, 4, 5] rfl
  have hKc := hK.sub (tys' := [(cyI, .int), (cyZ, .boolean)]) [0, 1] rfl
  have hDc := hD.sub (ws' := [(q4, .inr (3, [.ref qd, .ref qc, .ref qt, .ref ql, .ref qn, .ref qe, .ref qr, .ref qz, .int fp])), (qd, .inr (1, [.ref qw, .int (bI true), .int lf, .int (nI dn)])), (qw, .inl (cyI, 512, .inl w)), (qc, .inr (0, [.ref qd, .ref qwh, .ref qlv, .int sa])), (qwh, .inl (cyZ, 64, .inl WH)), (qlv, .inl (cyZ, 64, .inl LV))]) [0, 1, 2, 3, 4, 5] (by decide) rfl
  have hFc := va_free (wc := [(q4, .inr (3, [.ref qd, .ref qc, .ref qt, .ref ql, .ref qn, .ref qe, .ref qr, .ref qz, .int fp])), (qd, .inr (1, [.ref qw, .int (bI true), .int lf, .int (nI dn)])), (qw, .inl (cyI, 512, .inl w)), (qc, .inr (0, [.ref qd, .ref qwh, .ref qlv, .int sa])), (qwh, .inl (cyZ, 64, .inl WH)), (qlv, .inl (cyZ, 64, .inl LV))]) hD hS hA [0, 1, 2, 3, 4, 5] rfl
  refine va_callr (va_runV (As := []) (rest := [.int (nI 64)]) ⟨hx, hb, hml, hown, hts⟩ (c_X4_surveyed l dC dI cyI cyZ q4 qd qw qc qwh qlv qt ql qn qe qr qz sS.heap.size w true lf dn WH LV sa fp (HS)) (cwV 0 hts gX4_putRecord_X4_surveyed rfl rfl rfl (by decide +kernel) ⟨Nat.le_of_ble_eq_true rfl, Nat.le_of_ble_eq_true rfl⟩) ⟨zz_blW, va_recv hKc hPc (ci := 3) (q0 := 0) rfl rfl, fun U hU hW => ⟨rfl, by rw [hU], by rw [hU]; exact hPc, va_K.moved hW.alike hKc, hDc.weaken (fun _ _ _ _ => trivial)⟩⟩ rfl rfl hl.1 rfl (lv_room (Nat.le_of_ble_eq_true rfl)) dX4_putRecord_14 ⟨Nat.zero_le _, Nat.zero_le _⟩) hS (fun q _ h => hFc q h) hFc (fun uU ra tS H1 locs ht9 hvm9 hw9 hB9 hz1 hk1 hS => ?_)
  obtain ⟨WH1_14, LV1_14⟩ := uU
  obtain ⟨e9r, hP1, hK1, hD1⟩ := hB9
  have e9r : qc = ra := e9r.symm
  subst e9r
  have hw9 : (∀ j, j < 64 → LV1_14 j = bI (kLive w j)) := hw9
  have HL_14 := hw9
  rw [ht9] at hP1
  have hK1 := va_K.moved hvm9.symm hK1
  obtain ⟨hP, hD⟩ := va_join (wr := [(qn, .inr (2, [.ref qna, .int (nI m)])), (qna, .inl (cyI, 450, .inl C)), (qr, .inl (cyI, 8, .inl row))]) (w1 := [(q4, .inr (3, [.ref qd, .ref qc, .ref qt, .ref ql, .ref qn, .ref qe, .ref qr, .ref qz, .int fp])), (qd, .inr (1, [.ref qw, .int (bI true), .int lf, .int (nI dn)])), (qw, .inl (cyI, 512, .inl w)), (qc, .inr (0, [.ref qd, .ref qwh, .ref qlv, .int (nI dn)])), (qwh, .inl (cyZ, 64, .inl WH1_14)), (qlv, .inl (cyZ, 64, .inl LV1_14))]) hP hD [0, 1, 2, 3, 4, 5] [6, 7, 8] rfl rfl (by decide) (by decide) hk1 hFc hP1 hD1
  generalize H1 = H at hP hS ⊢
  have hP : va_P (dC, dI) vwCl [(qn, .inr (2, [.ref qna, .int (nI m)])), (qna, .inl (cyI, 450, .inl C)), (qr, .inl (cyI, 8, .inl row)), (q4, .inr (3, [.ref qd, .ref qc, .ref qt, .ref ql, .ref qn, .ref qe, .ref qr, .ref qz, .int fp])), (qd, .inr (1, [.ref qw, .int (bI true), .int lf, .int (nI dn)])), (qw, .inl (cyI, 512, .inl w)), (qc, .inr (0, [.ref qd, .ref qwh, .ref qlv, .int (nI dn)])), (qwh, .inl (cyZ, 64, .inl WH1_14)), (qlv, .inl (cyZ, 64, .inl LV1_14))] H := hP
  have hD : va_D A [(qn, .inr (2, [.ref qna, .int (nI m)])), (qna, .inl (cyI, 450, .inl C)), (qr, .inl (cyI, 8, .inl row)), (q4, .inr (3, [.ref qd, .ref qc, .ref qt, .ref ql, .ref qn, .ref qe, .ref qr, .ref qz, .int fp])), (qd, .inr (1, [.ref qw, .int (bI true), .int lf, .int (nI dn)])), (qw, .inl (cyI, 512, .inl w)), (qc, .inr (0, [.ref qd, .ref qwh, .ref qlv, .int (nI dn)])), (qwh, .inl (cyZ, 64, .inl WH1_14)), (qlv, .inl (cyZ, 64, .inl LV1_14))] := hD
  have hPc := hP.sub (ws' := [(qc, .inr (0, [.ref qd, .ref qwh, .ref qlv, .int (nI dn)])), (qwh, .inl (cyZ, 64, .inl WH1_14)), (qlv, .inl (cyZ, 64, .inl LV1_14))]) [6, 7, 8] rfl
  have hKc := hK.sub (tys' := [(cyI, .int), (cyZ, .boolean)]) [0, 1] rfl
  refine vp_callSi (va_Run.run (va_runV (As := []) (rest := [.int (nI 64)]) ⟨hx, hb, hml, hown, hts⟩ (c_X0_countLive l dC dI cyI cyZ qc qwh qlv qd WH1_14 LV1_14 (nI dn) (kLive w) (HL_14)) (cwV 0 hts gX4_putRecord_X0_countLive rfl rfl rfl (by decide +kernel) ⟨Nat.le_of_ble_eq_true rfl, Nat.le_of_ble_eq_true rfl⟩) ⟨zz_blR, va_recv hKc hPc (ci := 0) (q0 := 0) rfl rfl, fun U hU hW => ⟨rfl, by rw [hU]; exact hPc, va_K.moved hW.alike hKc⟩⟩ rfl rfl hl.1 rfl (lv_room (Nat.le_of_ble_eq_true rfl)) dX4_putRecord_17 ⟨Nat.zero_le _, Nat.zero_le _⟩)) (fun r_17 hr_17 => ?_)
  have hr_17 : nI (fb_ct (kLive w) 64) = r_17 := Eq.symm hr_17
  subst hr_17
  refine lv_isub hx hb dX4_putRecord_20 ?_
  refine zz_top (pk_sub (a := 64) (b := fb_ct (kLive w) 64) (by omega)) ?_
  refine lv_iload_n hx hb dX4_putRecord_21 rfl (lv_at hl 0 rfl) ?_
  refine zn_icmp_ge (tgt := 28) hx hb dX4_putRecord_22 (by decide) (by omega) (by omega) (fun c_22 => ?_) (fun c_22 => ?_)
  ·
    refine lv_aload_n hx hb dX4_putRecord_28 rfl (lv_at hl 1 rfl) ?_
    refine va_get (D := (dC, dI)) (ci := 3) (v := .ref qd) (C := RX4) (T := TX4) (N := 9) hx hb hts iwX4 hown hK hP 3 rfl rfl 0 (by decide) fk10 (fun _ h9 => h9) rfl dX4_putRecord_29 ?_
    have hPc := hP.sub (ws' := [(qd, .inr (1, [.ref qw, .int (bI true), .int lf, .int (nI dn)])), (qw, .inl (cyI, 512, .inl w))]) [4, 5] rfl
    have hKc := hK.sub (tys' := [(cyI, .int), (cyZ, .boolean)]) [0, 1] rfl
    refine vp_callSi (va_Run.run (va_runV (As := []) (rest := []) ⟨hx, hb, hml, hown, hts⟩ (c_X2_greatestNumber l dC dI cyI cyZ qd qw w true lf dn) (cwV 0 hts gX4_putRecord_X2_greatestNumber rfl rfl rfl (by decide +kernel) ⟨Nat.le_of_ble_eq_true rfl, Nat.le_of_ble_eq_true rfl⟩) ⟨zz_blR, va_recv hKc hPc (ci := 1) (q0 := 0) rfl rfl, fun U hU hW => ⟨rfl, by rw [hU]; exact hPc, va_K.moved hW.alike hKc⟩⟩ rfl rfl hl.1 rfl (lv_room (Nat.le_of_ble_eq_true rfl)) dX4_putRecord_32 ⟨Nat.zero_le _, Nat.zero_le _⟩)) (fun r_32 hr_32 => ?_)
    have hr_32 : kGr w 64 = r_32 := Eq.symm hr_32
    subst hr_32
    refine lv_iconst (v := nI 1) hx hb dX4_putRecord_35 (by decide) ?_
    refine lv_iadd hx hb dX4_putRecord_36 ?_
    refine lv_istore (lv' := [(4, .int ((kGr w 64) + (nI 1))), (3, .int (nI (zParts m))), (0, .ref q4), (1, .int ky), (2, .int (nI fm))]) hx hb dX4_putRecord_37 hl (by decide) rfl (fun ls hl => ?_)
    refine lv_iconst (v := nI 0) hx hb dX4_putRecord_39 (by decide) ?_
    refine lv_istore (lv' := [(5, .int (nI 0)), (4, .int ((kGr w 64) + (nI 1))), (3, .int (nI (zParts m))), (0, .ref q4), (1, .int ky), (2, .int (nI fm))]) hx hb dX4_putRecord_40 hl (by decide) rfl (fun ls hl => ?_)
    refine lv_iconst (v := nI 0) hx hb dX4_putRecord_42 (by decide) ?_
    refine lv_istore (lv' := [(6, .int (nI 0)), (5, .int (nI 0)), (4, .int ((kGr w 64) + (nI 1))), (3, .int (nI (zParts m))), (0, .ref q4), (1, .int ky), (2, .int (nI fm))]) hx hb dX4_putRecord_43 hl (by decide) rfl (fun ls hl => ?_)
    refine zz_loopW (pc := 45) (μ := fun (x : Nat × Nat × Nat × (Nat → Int32) × Int32 × Nat × (Nat → Int32)) => match x with | (b, q, f, w1, lf1, dn1, row1) => 64 - b) (Inv := fun (x : Nat × Nat × Nat × (Nat → Int32) × Int32 × Nat × (Nat → Int32)) (H : Heap) (locs : List Loc) (ls : Array Slot) => match x with | (b, q, f, w1, lf1, dn1, row1) => (b ≤ 64) ∧ (b + f = 64) ∧ (q ≤ b) ∧ (dn ≤ dn1) ∧ (dn1 ≤ dn + b) ∧ (dn1 = dn → w1 = w) ∧ (kPutF (kLive w) (zRow (kGr w 64 + nI 1) (zParts m) fm ky m C) (zParts m) f b q w1 lf1 dn1 = Z0) ∧ va_P (dC, dI) vwCl [(qn, .inr (2, [.ref qna, .int (nI m)])), (qna, .inl (cyI, 450, .inl C)), (qr, .inl (cyI, 8, .inl row1)), (q4, .inr (3, [.ref qd, .ref qc, .ref qt, .ref ql, .ref qn, .ref qe, .ref qr, .ref qz, .int fp])), (qd, .inr (1, [.ref qw, .int (bI true), .int lf1, .int (nI dn1)])), (qw, .inl (cyI, 512, .inl w1)), (qc, .inr (0, [.ref qd, .ref qwh, .ref qlv, .int (nI dn)])), (qwh, .inl (cyZ, 64, .inl WH1_14)), (qlv, .inl (cyZ, 64, .inl LV1_14))] H ∧ va_D A [(qn, .inr (2, [.ref qna, .int (nI m)])), (qna, .inl (cyI, 450, .inl C)), (qr, .inl (cyI, 8, .inl row1)), (q4, .inr (3, [.ref qd, .ref qc, .ref qt, .ref ql, .ref qn, .ref qe, .ref qr, .ref qz, .int fp])), (qd, .inr (1, [.ref qw, .int (bI true), .int lf1, .int (nI dn1)])), (qw, .inl (cyI, 512, .inl w1)), (qc, .inr (0, [.ref qd, .ref qwh, .ref qlv, .int (nI dn)])), (qwh, .inl (cyZ, 64, .inl WH1_14)), (qlv, .inl (cyZ, 64, .inl LV1_14))] ∧ va_S A sS.heap H locs ∧ lv_has ls 7 [(0, .ref q4), (1, .int ky), (2, .int (nI fm)), (3, .int (nI (zParts m))), (4, .int ((kGr w 64) + (nI 1))), (5, .int (nI q)), (6, .int (nI b))]) (x0 := (0, 0, 64, w, lf, dn, row)) ⟨by omega, by omega, by omega, by omega, by omega, fun _ => rfl, hZ0.symm, hP, hD, hS, lv_sub hl [4, 5, 6, 3, 2, 1, 0] rfl⟩ ?_
    intro ⟨b, q, f, w1, lf1, dn1, row1⟩ H locs ls hI ih45
    obtain ⟨hb9, hf, hq9, hd1, hd2, hw1, hE, hP, hD, hS, hl⟩ := hI
    have hl : lv_has ls 7 [(0, .ref q4), (1, .int ky), (2, .int (nI fm)), (3, .int (nI (zParts m))), (4, .int ((kGr w 64) + (nI 1))), (5, .int (nI q)), (6, .int (nI b))] := hl
    have hP : va_P (dC, dI) vwCl [(qn, .inr (2, [.ref qna, .int (nI m)])), (qna, .inl (cyI, 450, .inl C)), (qr, .inl (cyI, 8, .inl row1)), (q4, .inr (3, [.ref qd, .ref qc, .ref qt, .ref ql, .ref qn, .ref qe, .ref qr, .ref qz, .int fp])), (qd, .inr (1, [.ref qw, .int (bI true), .int lf1, .int (nI dn1)])), (qw, .inl (cyI, 512, .inl w1)), (qc, .inr (0, [.ref qd, .ref qwh, .ref qlv, .int (nI dn)])), (qwh, .inl (cyZ, 64, .inl WH1_14)), (qlv, .inl (cyZ, 64, .inl LV1_14))] H := hP
    have hD : va_D A [(qn, .inr (2, [.ref qna, .int (nI m)])), (qna, .inl (cyI, 450, .inl C)), (qr, .inl (cyI, 8, .inl row1)), (q4, .inr (3, [.ref qd, .ref qc, .ref qt, .ref ql, .ref qn, .ref qe, .ref qr, .ref qz, .int fp])), (qd, .inr (1, [.ref qw, .int (bI true), .int lf1, .int (nI dn1)])), (qw, .inl (cyI, 512, .inl w1)), (qc, .inr (0, [.ref qd, .ref qwh, .ref qlv, .int (nI dn)])), (qwh, .inl (cyZ, 64, .inl WH1_14)), (qlv, .inl (cyZ, 64, .inl LV1_14))] := hD
    have hb9 : b ≤ 64 := hb9
    have hf : b + f = 64 := hf
    have hq9 : q ≤ b := hq9
    have hd1 : dn ≤ dn1 := hd1
    have hd2 : dn1 ≤ dn + b := hd2
    have hw1 : dn1 = dn → w1 = w := hw1
    have hE : kPutF (kLive w) (zRow (kGr w 64 + nI 1) (zParts m) fm ky m C) (zParts m) f b q w1 lf1 dn1 = Z0 := hE
    refine lv_iload hx hb dX4_putRecord_45 (lv_at hl 6 rfl) ?_
    refine lv_bipush (v := nI 64) hx hb dX4_putRecord_47 (by decide) ?_
    refine zn_icmp_ge (tgt := 109) hx hb dX4_putRecord_49 (by decide) (by omega) (by omega) (fun c_49 => ?_) (fun c_49 => ?_)
    ·
      refine lv_iload hx hb dX4_putRecord_109 (lv_at hl 4 rfl) ?_
      have hend : kPutF (kLive w) (zRow (kGr w 64 + nI 1) (zParts m) fm ky m C) (zParts m) f b q w1 lf1 dn1 = (true, w1, lf1, dn1) := by first | exact kPutF_end (by omega) | (have e0 : f = 0 := (by omega); subst e0; rfl)
      have hP9 := hP.sub (ws' := [(q4, .inr (3, [.ref qd, .ref qc, .ref qt, .ref ql, .ref qn, .ref qe, .ref qr, .ref qz, .int fp])), (qd, .inr (1, [.ref qw, .int (bI true), .int lf1, .int (nI dn1)])), (qw, .inl (cyI, 512, .inl w1)), (qc, .inr (0, [.ref qd, .ref qwh, .ref qlv, .int (nI dn)])), (qwh, .inl (cyZ, 64, .inl WH1_14)), (qlv, .inl (cyZ, 64, .inl LV1_14)), (qn, .inr (2, [.ref qna, .int (nI m)])), (qna, .inl (cyI, 450, .inl C)), (qr, .inl (cyI, 8, .inl row1))]) [3, 4, 5, 6, 7, 8, 0, 1, 2] rfl
      have hD9 := hD.sub (ws' := [(q4, .inr (3, [.ref qd, .ref qc, .ref qt, .ref ql, .ref qn, .ref qe, .ref qr, .ref qz, .int fp])), (qd, .inr (1, [.ref qw, .int (bI true), .int lf1, .int (nI dn1)])), (qw, .inl (cyI, 512, .inl w1)), (qc, .inr (0, [.ref qd, .ref qwh, .ref qlv, .int (nI dn)])), (qwh, .inl (cyZ, 64, .inl WH1_14)), (qlv, .inl (cyZ, 64, .inl LV1_14)), (qn, .inr (2, [.ref qna, .int (nI m)])), (qna, .inl (cyI, 450, .inl C)), (qr, .inl (cyI, 8, .inl row1))]) [3, 4, 5, 6, 7, 8, 0, 1, 2] (by decide) rfl
      have hK9 := hK.sub (tys' := [(cyI, .int), (cyZ, .boolean)]) [0, 1] rfl
      exact W.iret hx hb hr (fun tS ht hW => ⟨⟨_, (true, w1, lf1, dn1, WH1_14, LV1_14, row1), rfl, ⟨by rw [kPut_go c_22 (hZ0.symm.trans (hE.symm.trans hend))]; rfl, fun h => by rw [hw1 ((nI_eq (by omega) (by omega)).mp h).symm]; exact HL_14, by omega⟩, by rw [ht]; exact hP9, va_K.moved hW.alike hK9, hD9⟩, hS.F ht⟩) hS.2.2 dX4_putRecord_111
    ·
      refine lv_iload hx hb dX4_putRecord_52 (lv_at hl 5 rfl) ?_
      refine lv_iload_n hx hb dX4_putRecord_54 rfl (lv_at hl 3 rfl) ?_
      refine zn_icmp_ge (tgt := 109) hx hb dX4_putRecord_55 (by decide) (by omega) (by omega) (fun c_55 => ?_) (fun c_55 => ?_)
      ·
        refine lv_iload hx hb dX4_putRecord_109 (lv_at hl 4 rfl) ?_
        have hend : kPutF (kLive w) (zRow (kGr w 64 + nI 1) (zParts m) fm ky m C) (zParts m) f b q w1 lf1 dn1 = (true, w1, lf1, dn1) := by first | exact kPutF_end (by omega) | (have e0 : f = 0 := (by omega); subst e0; rfl)
        have hP9 := hP.sub (ws' := [(q4, .inr (3, [.ref qd, .ref qc, .ref qt, .ref ql, .ref qn, .ref qe, .ref qr, .ref qz, .int fp])), (qd, .inr (1, [.ref qw, .int (bI true), .int lf1, .int (nI dn1)])), (qw, .inl (cyI, 512, .inl w1)), (qc, .inr (0, [.ref qd, .ref qwh, .ref qlv, .int (nI dn)])), (qwh, .inl (cyZ, 64, .inl WH1_14)), (qlv, .inl (cyZ, 64, .inl LV1_14)), (qn, .inr (2, [.ref qna, .int (nI m)])), (qna, .inl (cyI, 450, .inl C)), (qr, .inl (cyI, 8, .inl row1))]) [3, 4, 5, 6, 7, 8, 0, 1, 2] rfl
        have hD9 := hD.sub (ws' := [(q4, .inr (3, [.ref qd, .ref qc, .ref qt, .ref ql, .ref qn, .ref qe, .ref qr, .ref qz, .int fp])), (qd, .inr (1, [.ref qw, .int (bI true), .int lf1, .int (nI dn1)])), (qw, .inl (cyI, 512, .inl w1)), (qc, .inr (0, [.ref qd, .ref qwh, .ref qlv, .int (nI dn)])), (qwh, .inl (cyZ, 64, .inl WH1_14)), (qlv, .inl (cyZ, 64, .inl LV1_14)), (qn, .inr (2, [.ref qna, .int (nI m)])), (qna, .inl (cyI, 450, .inl C)), (qr, .inl (cyI, 8, .inl row1))]) [3, 4, 5, 6, 7, 8, 0, 1, 2] (by decide) rfl
        have hK9 := hK.sub (tys' := [(cyI, .int), (cyZ, .boolean)]) [0, 1] rfl
        exact W.iret hx hb hr (fun tS ht hW => ⟨⟨_, (true, w1, lf1, dn1, WH1_14, LV1_14, row1), rfl, ⟨by rw [kPut_go c_22 (hZ0.symm.trans (hE.symm.trans hend))]; rfl, fun h => by rw [hw1 ((nI_eq (by omega) (by omega)).mp h).symm]; exact HL_14, by omega⟩, by rw [ht]; exact hP9, va_K.moved hW.alike hK9, hD9⟩, hS.F ht⟩) hS.2.2 dX4_putRecord_111
      ·
        obtain ⟨f9, e9⟩ : ∃ f9, f = f9 + 1 := ⟨f - 1, by omega⟩
        subst e9
        refine lv_aload_n hx hb dX4_putRecord_58 rfl (lv_at hl 0 rfl) ?_
        refine va_get (D := (dC, dI)) (ci := 3) (v := .ref qc) (C := RX4) (T := TX4) (N := 9) hx hb hts iwX4 hown hK hP 3 rfl rfl 1 (by decide) fk21 (fun _ h9 => h9) rfl dX4_putRecord_59 ?_
        refine lv_iload hx hb dX4_putRecord_62 (lv_at hl 6 rfl) ?_
        have hPc := hP.sub (ws' := [(qc, .inr (0, [.ref qd, .ref qwh, .ref qlv, .int (nI dn)])), (qwh, .inl (cyZ, 64, .inl WH1_14)), (qlv, .inl (cyZ, 64, .inl LV1_14))]) [6, 7, 8] rfl
        have hKc := hK.sub (tys' := [(cyI, .int), (cyZ, .boolean)]) [0, 1] rfl
        refine vp_callSi (va_Run.run (va_runV (As := [.int (nI b)]) (rest := []) ⟨hx, hb, hml, hown, hts⟩ (c_X0_isLive l dC dI cyI cyZ qc qwh qlv qd WH1_14 LV1_14 (nI dn) (kLive w) b (by omega) (HL_14)) (cwV 1 hts gX4_putRecord_X0_isLive rfl rfl rfl (by decide +kernel) ⟨Nat.le_of_ble_eq_true rfl, Nat.le_of_ble_eq_true rfl⟩) ⟨zz_blR, va_recv hKc hPc (ci := 0) (q0 := 0) rfl rfl, fun U hU hW => ⟨rfl, by rw [hU]; exact hPc, va_K.moved hW.alike hKc⟩⟩ rfl rfl hl.1 rfl (lv_room (Nat.le_of_ble_eq_true rfl)) dX4_putRecord_64 ⟨Nat.zero_le _, Nat.zero_le _⟩)) (fun r_64 hr_64 => ?_)
        have hr_64 : bI ((kLive w) b) = r_64 := Eq.symm hr_64
        subst hr_64
        refine zb_if_ne (tgt := 103) hx hb dX4_putRecord_67 (by decide) (fun c_67 => ?_) (fun c_67 => ?_)
        ·
          refine lv_iinc (v := nI (b + 1)) (lv' := [(6, .int (nI (b + 1))), (0, .ref q4), (1, .int ky), (2, .int (nI fm)), (3, .int (nI (zParts m))), (4, .int ((kGr w 64) + (nI 1))), (5, .int (nI q))]) hx hb dX4_putRecord_103 hl (k := 6) rfl (nI_add b 1) (by decide) rfl (fun ls hl => ?_)
          refine lv_goto (tgt := 45) hx hb dX4_putRecord_106 (by decide) ?_
          exact ih45 (b + 1, q, f9, w1, lf1, dn1, row1) _ _ _ ⟨by omega, by omega, by omega, by omega, by omega, hw1, (kPutF_live c_55 c_67).symm.trans hE, hP, hD, hS, lv_sub hl [1, 2, 3, 4, 5, 6, 0] rfl⟩ (by first | omega | (dsimp only; omega))
        ·
          refine lv_aload_n hx hb dX4_putRecord_70 rfl (lv_at hl 0 rfl) ?_
          refine lv_iload hx hb dX4_putRecord_71 (lv_at hl 4 rfl) ?_
          refine lv_iload hx hb dX4_putRecord_73 (lv_at hl 5 rfl) ?_
          refine lv_iload_n hx hb dX4_putRecord_75 rfl (lv_at hl 3 rfl) ?_
          refine lv_iload_n hx hb dX4_putRecord_76 rfl (lv_at hl 2 rfl) ?_
          refine lv_iload_n hx hb dX4_putRecord_77 rfl (lv_at hl 1 rfl) ?_
          have hPc := hP.sub (ws' := [(q4, .inr (3, [.ref qd, .ref qc, .ref qt, .ref ql, .ref qn, .ref qe, .ref qr, .ref qz, .int fp])), (qn, .inr (2, [.ref qna, .int (nI m)])), (qna, .inl (cyI, 450, .inl C)), (qr, .inl (cyI, 8, .inl row1))]) [3, 0, 1, 2] rfl
          have hKc := hK.sub (tys' := [(cyI, .int), (cyZ, .boolean)]) [0, 1] rfl
          have hDc := hD.sub (ws' := [(q4, .inr (3, [.ref qd, .ref qc, .ref qt, .ref ql, .ref qn, .ref qe, .ref qr, .ref qz, .int fp])), (qn, .inr (2, [.ref qna, .int (nI m)])), (qna, .inl (cyI, 450, .inl C)), (qr, .inl (cyI, 8, .inl row1))]) [3, 0, 1, 2] (by decide) rfl
          have hFc := va_free (wc := [(q4, .inr (3, [.ref qd, .ref qc, .ref qt, .ref ql, .ref qn, .ref qe, .ref qr, .ref qz, .int fp])), (qn, .inr (2, [.ref qna, .int (nI m)])), (qna, .inl (cyI, 450, .inl C)), (qr, .inl (cyI, 8, .inl row1))]) hD hS hA [3, 0, 1, 2] rfl
          refine va_callv (va_runV (As := [.int ((kGr w 64) + (nI 1)), .int (nI q), .int (nI (zParts m)), .int (nI fm), .int ky]) (rest := []) ⟨hx, hb, hml, hown, hts⟩ (c_X4_fillRow l dC dI cyI cyZ q4 qn qna qr qd qc qt ql qe qz H.size fp C m row1 ((kGr w 64) + (nI 1)) q (zParts m) fm ky (by omega) (by omega)) (cwV 5 hts gX4_putRecord_X4_fillRow rfl rfl rfl (by decide +kernel) ⟨Nat.le_of_ble_eq_true rfl, Nat.le_of_ble_eq_true rfl⟩) ⟨zz_blW, va_recv hKc hPc (ci := 3) (q0 := 0) rfl rfl, fun U hU hW => ⟨rfl, by rw [hU], by rw [hU]; exact hPc, va_K.moved hW.alike hKc, hDc.weaken (fun _ _ _ _ => trivial)⟩⟩ rfl rfl hl.1 rfl (lv_room (Nat.le_of_ble_eq_true rfl)) dX4_putRecord_78 ⟨Nat.zero_le _, Nat.zero_le _⟩) hS (fun q _ h => hFc q h) hFc (fun uU tS H1 locs ht9 hvm9 hw9 hB9 hz1 hk1 hS => ?_)
          obtain ⟨row1_78, rfl⟩ : ∃ z, z = uU := ⟨_, rfl⟩
          obtain ⟨hP1, hK1, hD1⟩ := hB9
          have hw9 : (∀ j, j < 8 → row1_78 j = zRow ((kGr w 64) + (nI 1)) (zParts m) fm ky m C q j) := hw9
          have hR_78 := hw9
          rw [ht9] at hP1
          have hK1 := va_K.moved hvm9.symm hK1
          obtain ⟨hP, hD⟩ := va_join (wr := [(qd, .inr (1, [.ref qw, .int (bI true), .int lf1, .int (nI dn1)])), (qw, .inl (cyI, 512, .inl w1)), (qc, .inr (0, [.ref qd, .ref qwh, .ref qlv, .int (nI dn)])), (qwh, .inl (cyZ, 64, .inl WH1_14)), (qlv, .inl (cyZ, 64, .inl LV1_14))]) (w1 := [(q4, .inr (3, [.ref qd, .ref qc, .ref qt, .ref ql, .ref qn, .ref qe, .ref qr, .ref qz, .int fp])), (qn, .inr (2, [.ref qna, .int (nI m)])), (qna, .inl (cyI, 450, .inl C)), (qr, .inl (cyI, 8, .inl row1_78))]) hP hD [3, 0, 1, 2] [4, 5, 6, 7, 8] rfl rfl (by decide) (by decide) hk1 hFc hP1 hD1
          generalize H1 = H at hP hS ⊢
          have hP : va_P (dC, dI) vwCl [(qd, .inr (1, [.ref qw, .int (bI true), .int lf1, .int (nI dn1)])), (qw, .inl (cyI, 512, .inl w1)), (qc, .inr (0, [.ref qd, .ref qwh, .ref qlv, .int (nI dn)])), (qwh, .inl (cyZ, 64, .inl WH1_14)), (qlv, .inl (cyZ, 64, .inl LV1_14)), (q4, .inr (3, [.ref qd, .ref qc, .ref qt, .ref ql, .ref qn, .ref qe, .ref qr, .ref qz, .int fp])), (qn, .inr (2, [.ref qna, .int (nI m)])), (qna, .inl (cyI, 450, .inl C)), (qr, .inl (cyI, 8, .inl row1_78))] H := hP
          have hD : va_D A [(qd, .inr (1, [.ref qw, .int (bI true), .int lf1, .int (nI dn1)])), (qw, .inl (cyI, 512, .inl w1)), (qc, .inr (0, [.ref qd, .ref qwh, .ref qlv, .int (nI dn)])), (qwh, .inl (cyZ, 64, .inl WH1_14)), (qlv, .inl (cyZ, 64, .inl LV1_14)), (q4, .inr (3, [.ref qd, .ref qc, .ref qt, .ref ql, .ref qn, .ref qe, .ref qr, .ref qz, .int fp])), (qn, .inr (2, [.ref qna, .int (nI m)])), (qna, .inl (cyI, 450, .inl C)), (qr, .inl (cyI, 8, .inl row1_78))] := hD
          refine lv_aload_n hx hb dX4_putRecord_81 rfl (lv_at hl 0 rfl) ?_
          refine va_get (D := (dC, dI)) (ci := 3) (v := .ref qd) (C := RX4) (T := TX4) (N := 9) hx hb hts iwX4 hown hK hP 5 rfl rfl 0 (by decide) fk10 (fun _ h9 => h9) rfl dX4_putRecord_82 ?_
          refine lv_iload hx hb dX4_putRecord_85 (lv_at hl 6 rfl) ?_
          refine lv_aload_n hx hb dX4_putRecord_87 rfl (lv_at hl 0 rfl) ?_
          refine va_get (D := (dC, dI)) (ci := 3) (v := .ref qr) (C := RX4) (T := TX4) (N := 9) hx hb hts iwX4 hown hK hP 5 rfl rfl 6 (by decide) fk41 (fun _ h9 => h9) rfl dX4_putRecord_88 ?_
          by_cases hz : lf1 = nI 0
          ·
            have hPc := hP.sub (ws' := [(qd, .inr (1, [.ref qw, .int (bI true), .int lf1, .int (nI dn1)])), (qw, .inl (cyI, 512, .inl w1)), (qr, .inl (cyI, 8, .inl row1_78))]) [0, 1, 8] rfl
            have hKc := hK.sub (tys' := [(cyI, .int), (cyZ, .boolean)]) [0, 1] rfl
            have hDc := hD.sub (ws' := [(qd, .inr (1, [.ref qw, .int (bI true), .int lf1, .int (nI dn1)])), (qw, .inl (cyI, 512, .inl w1)), (qr, .inl (cyI, 8, .inl row1_78))]) [0, 1, 8] (by decide) rfl
            have hFc := va_free (wc := [(qd, .inr (1, [.ref qw, .int (bI true), .int lf1, .int (nI dn1)])), (qw, .inl (cyI, 512, .inl w1)), (qr, .inl (cyI, 8, .inl row1_78))]) hD hS hA [0, 1, 8] rfl
            refine va_calli (va_runV (As := [.int (nI b), .ref qr]) (rest := []) ⟨hx, hb, hml, hown, hts⟩ (c_X2_write_off l dC dI cyI cyZ qd qw qr H.size w1 lf1 dn1 row1_78 b (by omega) (hz)) (cwV 2 hts gX4_putRecord_X2_write rfl rfl rfl (by decide +kernel) ⟨Nat.le_of_ble_eq_true rfl, Nat.le_of_ble_eq_true rfl⟩) ⟨zz_blW, va_recv hKc hPc (ci := 1) (q0 := 0) rfl rfl, fun U hU hW => ⟨rfl, by rw [hU], by rw [hU]; exact hPc, va_K.moved hW.alike hKc, hDc.weaken (fun _ _ _ _ => trivial)⟩⟩ rfl rfl hl.1 rfl (lv_room (Nat.le_of_ble_eq_true rfl)) dX4_putRecord_91 ⟨Nat.zero_le _, Nat.zero_le _⟩) hS (fun q _ h => hFc q h) hFc (fun r_91 uU tS H1 locs ht9 hvm9 hw9 hB9 hz1 hk1 hS => ?_)
            obtain ⟨hP1, hK1, hD1⟩ := hB9
            have hw9 : (r_91 = bI false) := hw9
            have hr_91 := hw9
            have hr_91 := Eq.symm hr_91
            subst hr_91
            rw [ht9] at hP1
            have hK1 := va_K.moved hvm9.symm hK1
            obtain ⟨hP, hD⟩ := va_join (wr := [(qc, .inr (0, [.ref qd, .ref qwh, .ref qlv, .int (nI dn)])), (qwh, .inl (cyZ, 64, .inl WH1_14)), (qlv, .inl (cyZ, 64, .inl LV1_14)), (q4, .inr (3, [.ref qd, .ref qc, .ref qt, .ref ql, .ref qn, .ref qe, .ref qr, .ref qz, .int fp])), (qn, .inr (2, [.ref qna, .int (nI m)])), (qna, .inl (cyI, 450, .inl C))]) (w1 := [(qd, .inr (1, [.ref qw, .int (bI false), .int lf1, .int (nI dn1)])), (qw, .inl (cyI, 512, .inl w1)), (qr, .inl (cyI, 8, .inl row1_78))]) hP hD [0, 1, 8] [2, 3, 4, 5, 6, 7] rfl rfl (by decide) (by decide) hk1 hFc hP1 hD1
            generalize H1 = H at hP hS ⊢
            have hP : va_P (dC, dI) vwCl [(qc, .inr (0, [.ref qd, .ref qwh, .ref qlv, .int (nI dn)])), (qwh, .inl (cyZ, 64, .inl WH1_14)), (qlv, .inl (cyZ, 64, .inl LV1_14)), (q4, .inr (3, [.ref qd, .ref qc, .ref qt, .ref ql, .ref qn, .ref qe, .ref qr, .ref qz, .int fp])), (qn, .inr (2, [.ref qna, .int (nI m)])), (qna, .inl (cyI, 450, .inl C)), (qd, .inr (1, [.ref qw, .int (bI false), .int lf1, .int (nI dn1)])), (qw, .inl (cyI, 512, .inl w1)), (qr, .inl (cyI, 8, .inl row1_78))] H := hP
            have hD : va_D A [(qc, .inr (0, [.ref qd, .ref qwh, .ref qlv, .int (nI dn)])), (qwh, .inl (cyZ, 64, .inl WH1_14)), (qlv, .inl (cyZ, 64, .inl LV1_14)), (q4, .inr (3, [.ref qd, .ref qc, .ref qt, .ref ql, .ref qn, .ref qe, .ref qr, .ref qz, .int fp])), (qn, .inr (2, [.ref qna, .int (nI m)])), (qna, .inl (cyI, 450, .inl C)), (qd, .inr (1, [.ref qw, .int (bI false), .int lf1, .int (nI dn1)])), (qw, .inl (cyI, 512, .inl w1)), (qr, .inl (cyI, 8, .inl row1_78))] := hD
            refine lv_if_ne (tgt := 100) hx hb dX4_putRecord_94 (by decide) (fun c_94 => absurd (by decide) c_94) (fun c_94 => ?_)
            refine lv_bipush (v := (-4)) hx hb dX4_putRecord_97 (by decide) ?_
            have hP9 := hP.sub (ws' := [(q4, .inr (3, [.ref qd, .ref qc, .ref qt, .ref ql, .ref qn, .ref qe, .ref qr, .ref qz, .int fp])), (qd, .inr (1, [.ref qw, .int (bI false), .int lf1, .int (nI dn1)])), (qw, .inl (cyI, 512, .inl w1)), (qc, .inr (0, [.ref qd, .ref qwh, .ref qlv, .int (nI dn)])), (qwh, .inl (cyZ, 64, .inl WH1_14)), (qlv, .inl (cyZ, 64, .inl LV1_14)), (qn, .inr (2, [.ref qna, .int (nI m)])), (qna, .inl (cyI, 450, .inl C)), (qr, .inl (cyI, 8, .inl row1_78))]) [3, 6, 7, 0, 1, 2, 4, 5, 8] rfl
            have hD9 := hD.sub (ws' := [(q4, .inr (3, [.ref qd, .ref qc, .ref qt, .ref ql, .ref qn, .ref qe, .ref qr, .ref qz, .int fp])), (qd, .inr (1, [.ref qw, .int (bI false), .int lf1, .int (nI dn1)])), (qw, .inl (cyI, 512, .inl w1)), (qc, .inr (0, [.ref qd, .ref qwh, .ref qlv, .int (nI dn)])), (qwh, .inl (cyZ, 64, .inl WH1_14)), (qlv, .inl (cyZ, 64, .inl LV1_14)), (qn, .inr (2, [.ref qna, .int (nI m)])), (qna, .inl (cyI, 450, .inl C)), (qr, .inl (cyI, 8, .inl row1_78))]) [3, 6, 7, 0, 1, 2, 4, 5, 8] (by decide) rfl
            have hK9 := hK.sub (tys' := [(cyI, .int), (cyZ, .boolean)]) [0, 1] rfl
            exact W.iret hx hb hr (fun tS ht hW => ⟨⟨_, (false, w1, lf1, dn1, WH1_14, LV1_14, row1_78), rfl, ⟨by rw [kPut_go c_22 (hZ0.symm.trans (hE.symm.trans (kPutF_off c_55 c_67 hz)))]; rfl, fun h => by rw [hw1 ((nI_eq (by omega) (by omega)).mp h).symm]; exact HL_14, by omega⟩, by rw [ht]; exact hP9, va_K.moved hW.alike hK9, hD9⟩, hS.F ht⟩) hS.2.2 dX4_putRecord_99
          ·
            have hPc := hP.sub (ws' := [(qd, .inr (1, [.ref qw, .int (bI true), .int lf1, .int (nI dn1)])), (qw, .inl (cyI, 512, .inl w1)), (qr, .inl (cyI, 8, .inl row1_78))]) [0, 1, 8] rfl
            have hKc := hK.sub (tys' := [(cyI, .int), (cyZ, .boolean)]) [0, 1] rfl
            have hDc := hD.sub (ws' := [(qd, .inr (1, [.ref qw, .int (bI true), .int lf1, .int (nI dn1)])), (qw, .inl (cyI, 512, .inl w1)), (qr, .inl (cyI, 8, .inl row1_78))]) [0, 1, 8] (by decide) rfl
            have hFc := va_free (wc := [(qd, .inr (1, [.ref qw, .int (bI true), .int lf1, .int (nI dn1)])), (qw, .inl (cyI, 512, .inl w1)), (qr, .inl (cyI, 8, .inl row1_78))]) hD hS hA [0, 1, 8] rfl
            refine va_calli (va_runV (As := [.int (nI b), .ref qr]) (rest := []) ⟨hx, hb, hml, hown, hts⟩ (c_X2_write_on l dC dI cyI cyZ qd qw qr H.size w1 lf1 dn1 row1_78 b (by omega) (hz)) (cwV 2 hts gX4_putRecord_X2_write rfl rfl rfl (by decide +kernel) ⟨Nat.le_of_ble_eq_true rfl, Nat.le_of_ble_eq_true rfl⟩) ⟨zz_blW, va_recv hKc hPc (ci := 1) (q0 := 0) rfl rfl, fun U hU hW => ⟨rfl, by rw [hU], by rw [hU]; exact hPc, va_K.moved hW.alike hKc, hDc.weaken (fun _ _ _ _ => trivial)⟩⟩ rfl rfl hl.1 rfl (lv_room (Nat.le_of_ble_eq_true rfl)) dX4_putRecord_91 ⟨Nat.zero_le _, Nat.zero_le _⟩) hS (fun q _ h => hFc q h) hFc (fun r_91 uU tS H1 locs ht9 hvm9 hw9 hB9 hz1 hk1 hS => ?_)
            obtain ⟨hP1, hK1, hD1⟩ := hB9
            have hw9 : (r_91 = bI true) := hw9
            have hr_91 := hw9
            have hr_91 := Eq.symm hr_91
            subst hr_91
            rw [ht9] at hP1
            have hK1 := va_K.moved hvm9.symm hK1
            obtain ⟨hP, hD⟩ := va_join (wr := [(qc, .inr (0, [.ref qd, .ref qwh, .ref qlv, .int (nI dn)])), (qwh, .inl (cyZ, 64, .inl WH1_14)), (qlv, .inl (cyZ, 64, .inl LV1_14)), (q4, .inr (3, [.ref qd, .ref qc, .ref qt, .ref ql, .ref qn, .ref qe, .ref qr, .ref qz, .int fp])), (qn, .inr (2, [.ref qna, .int (nI m)])), (qna, .inl (cyI, 450, .inl C))]) (w1 := [(qd, .inr (1, [.ref qw, .int (bI true), .int (kDec lf1), .int (nI (dn1 + 1))])), (qw, .inl (cyI, 512, .inl (fb_put w1 row1_78 (8 * b) 8))), (qr, .inl (cyI, 8, .inl row1_78))]) hP hD [0, 1, 8] [2, 3, 4, 5, 6, 7] rfl rfl (by decide) (by decide) hk1 hFc hP1 hD1
            generalize H1 = H at hP hS ⊢
            have hP : va_P (dC, dI) vwCl [(qc, .inr (0, [.ref qd, .ref qwh, .ref qlv, .int (nI dn)])), (qwh, .inl (cyZ, 64, .inl WH1_14)), (qlv, .inl (cyZ, 64, .inl LV1_14)), (q4, .inr (3, [.ref qd, .ref qc, .ref qt, .ref ql, .ref qn, .ref qe, .ref qr, .ref qz, .int fp])), (qn, .inr (2, [.ref qna, .int (nI m)])), (qna, .inl (cyI, 450, .inl C)), (qd, .inr (1, [.ref qw, .int (bI true), .int (kDec lf1), .int (nI (dn1 + 1))])), (qw, .inl (cyI, 512, .inl (fb_put w1 row1_78 (8 * b) 8))), (qr, .inl (cyI, 8, .inl row1_78))] H := hP
            have hD : va_D A [(qc, .inr (0, [.ref qd, .ref qwh, .ref qlv, .int (nI dn)])), (qwh, .inl (cyZ, 64, .inl WH1_14)), (qlv, .inl (cyZ, 64, .inl LV1_14)), (q4, .inr (3, [.ref qd, .ref qc, .ref qt, .ref ql, .ref qn, .ref qe, .ref qr, .ref qz, .int fp])), (qn, .inr (2, [.ref qna, .int (nI m)])), (qna, .inl (cyI, 450, .inl C)), (qd, .inr (1, [.ref qw, .int (bI true), .int (kDec lf1), .int (nI (dn1 + 1))])), (qw, .inl (cyI, 512, .inl (fb_put w1 row1_78 (8 * b) 8))), (qr, .inl (cyI, 8, .inl row1_78))] := hD
            have eqc : fb_put w1 row1_78 (8 * b) 8 = fb_put w1 ((zRow (kGr w 64 + nI 1) (zParts m) fm ky m C) q) (8 * b) 8 := fb_put_cong (fun _ _ => rfl) (fun k hk => hR_78 k hk)
            rw [eqc] at hP hD
            have hP : va_P (dC, dI) vwCl [(qc, .inr (0, [.ref qd, .ref qwh, .ref qlv, .int (nI dn)])), (qwh, .inl (cyZ, 64, .inl WH1_14)), (qlv, .inl (cyZ, 64, .inl LV1_14)), (q4, .inr (3, [.ref qd, .ref qc, .ref qt, .ref ql, .ref qn, .ref qe, .ref qr, .ref qz, .int fp])), (qn, .inr (2, [.ref qna, .int (nI m)])), (qna, .inl (cyI, 450, .inl C)), (qd, .inr (1, [.ref qw, .int (bI true), .int (kDec lf1), .int (nI (dn1 + 1))])), (qw, .inl (cyI, 512, .inl (fb_put w1 ((zRow (kGr w 64 + nI 1) (zParts m) fm ky m C) q) (8 * b) 8))), (qr, .inl (cyI, 8, .inl row1_78))] H := hP
            have hD : va_D A [(qc, .inr (0, [.ref qd, .ref qwh, .ref qlv, .int (nI dn)])), (qwh, .inl (cyZ, 64, .inl WH1_14)), (qlv, .inl (cyZ, 64, .inl LV1_14)), (q4, .inr (3, [.ref qd, .ref qc, .ref qt, .ref ql, .ref qn, .ref qe, .ref qr, .ref qz, .int fp])), (qn, .inr (2, [.ref qna, .int (nI m)])), (qna, .inl (cyI, 450, .inl C)), (qd, .inr (1, [.ref qw, .int (bI true), .int (kDec lf1), .int (nI (dn1 + 1))])), (qw, .inl (cyI, 512, .inl (fb_put w1 ((zRow (kGr w 64 + nI 1) (zParts m) fm ky m C) q) (8 * b) 8))), (qr, .inl (cyI, 8, .inl row1_78))] := hD
            refine lv_if_ne (tgt := 100) hx hb dX4_putRecord_94 (by decide) (fun c_94 => ?_) (fun c_94 => absurd c_94 (by decide))
            refine lv_iinc (v := nI (q + 1)) (lv' := [(5, .int (nI (q + 1))), (0, .ref q4), (1, .int ky), (2, .int (nI fm)), (3, .int (nI (zParts m))), (4, .int ((kGr w 64) + (nI 1))), (6, .int (nI b))]) hx hb dX4_putRecord_100 hl (k := 5) rfl (nI_add q 1) (by decide) rfl (fun ls hl => ?_)
            refine lv_iinc (v := nI (b + 1)) (lv' := [(6, .int (nI (b + 1))), (5, .int (nI (q + 1))), (0, .ref q4), (1, .int ky), (2, .int (nI fm)), (3, .int (nI (zParts m))), (4, .int ((kGr w 64) + (nI 1)))]) hx hb dX4_putRecord_103 hl (k := 6) rfl (nI_add b 1) (by decide) rfl (fun ls hl => ?_)
            refine lv_goto (tgt := 45) hx hb dX4_putRecord_106 (by decide) ?_
            have hP := hP.sub (ws' := [(qn, .inr (2, [.ref qna, .int (nI m)])), (qna, .inl (cyI, 450, .inl C)), (qr, .inl (cyI, 8, .inl row1_78)), (q4, .inr (3, [.ref qd, .ref qc, .ref qt, .ref ql, .ref qn, .ref qe, .ref qr, .ref qz, .int fp])), (qd, .inr (1, [.ref qw, .int (bI true), .int (kDec lf1), .int (nI (dn1 + 1))])), (qw, .inl (cyI, 512, .inl (fb_put w1 ((zRow (kGr w 64 + nI 1) (zParts m) fm ky m C) q) (8 * b) 8))), (qc, .inr (0, [.ref qd, .ref qwh, .ref qlv, .int (nI dn)])), (qwh, .inl (cyZ, 64, .inl WH1_14)), (qlv, .inl (cyZ, 64, .inl LV1_14))]) [4, 5, 8, 3, 6, 7, 0, 1, 2] rfl
            have hD := hD.sub (ws' := [(qn, .inr (2, [.ref qna, .int (nI m)])), (qna, .inl (cyI, 450, .inl C)), (qr, .inl (cyI, 8, .inl row1_78)), (q4, .inr (3, [.ref qd, .ref qc, .ref qt, .ref ql, .ref qn, .ref qe, .ref qr, .ref qz, .int fp])), (qd, .inr (1, [.ref qw, .int (bI true), .int (kDec lf1), .int (nI (dn1 + 1))])), (qw, .inl (cyI, 512, .inl (fb_put w1 ((zRow (kGr w 64 + nI 1) (zParts m) fm ky m C) q) (8 * b) 8))), (qc, .inr (0, [.ref qd, .ref qwh, .ref qlv, .int (nI dn)])), (qwh, .inl (cyZ, 64, .inl WH1_14)), (qlv, .inl (cyZ, 64, .inl LV1_14))]) [4, 5, 8, 3, 6, 7, 0, 1, 2] (by decide) rfl
            exact ih45 (b + 1, q + 1, f9, fb_put w1 ((zRow (kGr w 64 + nI 1) (zParts m) fm ky m C) q) (8 * b) 8, kDec lf1, dn1 + 1, row1_78) _ _ _ ⟨by omega, by omega, by omega, by omega, by omega, fun h => absurd h (by omega), (kPutF_put c_55 c_67 hz).symm.trans hE, hP, hD, hS, lv_sub hl [2, 3, 4, 5, 6, 1, 0] rfl⟩ (by first | omega | (dsimp only; omega))
  ·
    refine lv_bipush (v := (-3)) hx hb dX4_putRecord_25 (by decide) ?_
    have hP9 := hP.sub (ws' := [(q4, .inr (3, [.ref qd, .ref qc, .ref qt, .ref ql, .ref qn, .ref qe, .ref qr, .ref qz, .int fp])), (qd, .inr (1, [.ref qw, .int (bI true), .int lf, .int (nI dn)])), (qw, .inl (cyI, 512, .inl w)), (qc, .inr (0, [.ref qd, .ref qwh, .ref qlv, .int (nI dn)])), (qwh, .inl (cyZ, 64, .inl WH1_14)), (qlv, .inl (cyZ, 64, .inl LV1_14)), (qn, .inr (2, [.ref qna, .int (nI m)])), (qna, .inl (cyI, 450, .inl C)), (qr, .inl (cyI, 8, .inl row))]) [3, 4, 5, 6, 7, 8, 0, 1, 2] rfl
    have hD9 := hD.sub (ws' := [(q4, .inr (3, [.ref qd, .ref qc, .ref qt, .ref ql, .ref qn, .ref qe, .ref qr, .ref qz, .int fp])), (qd, .inr (1, [.ref qw, .int (bI true), .int lf, .int (nI dn)])), (qw, .inl (cyI, 512, .inl w)), (qc, .inr (0, [.ref qd, .ref qwh, .ref qlv, .int (nI dn)])), (qwh, .inl (cyZ, 64, .inl WH1_14)), (qlv, .inl (cyZ, 64, .inl LV1_14)), (qn, .inr (2, [.ref qna, .int (nI m)])), (qna, .inl (cyI, 450, .inl C)), (qr, .inl (cyI, 8, .inl row))]) [3, 4, 5, 6, 7, 8, 0, 1, 2] (by decide) rfl
    have hK9 := hK.sub (tys' := [(cyI, .int), (cyZ, .boolean)]) [0, 1] rfl
    exact W.iret hx hb hr (fun tS ht hW => ⟨⟨_, (true, w, lf, dn, WH1_14, LV1_14, row), rfl, ⟨(kPut_room c_22).symm, fun _ => HL_14, by omega⟩, by rw [ht]; exact hP9, va_K.moved hW.alike hK9, hD9⟩, hS.F ht⟩) hS.2.2 dX4_putRecord_27
set_option maxHeartbeats 4000000 in
set_option maxRecDepth 100000 in
theorem c_X4_gatherContent (l : Launch) (dC : Nat → ClassId) (dI : Nat → Nat → Nat) (cyI cyZ : ClassId) (q4 qd qw qn qna qc qt ql qe qr qz : Nat) (sz : Nat) (w : Nat → Int32) (on : Bool) (lf : Int32) (dn : Nat) (fp : Int32) (F0 : Nat → Int32) (m0 b ps zn : Nat) (hb9 : b < 64) (hps : kParts w b = nI ps) (hps2 : ps ≤ 64) (hzn : kOct w b = nI zn) (hzn2 : zn ≤ 450) (hzn3 : zn ≤ 16 * ps) (hPB : ∀ q, q < ps → zPB w b q < 64) : Met l yX4_gatherContent wsX4_gatherContent ({ frames := 3, cells := 0, slots := 0, locals := 66 }) (va_Pc [.ref q4, .int (nI b)] (fun U => U.heap.size = sz ∧ va_P (dC, dI) vwCl [(q4, .inr (3, [.ref qd, .ref qc, .ref qt, .ref ql, .ref qn, .ref qe, .ref qr, .ref qz, .int fp])), (qd, .inr (1, [.ref qw, .int (bI on), .int lf, .int (nI dn)])), (qw, .inl (cyI, 512, .inl w)), (qn, .inr (2, [.ref qna, .int (nI m0)])), (qna, .inl (cyI, 450, .inl F0))] U.heap ∧ va_K (dC, dI) vwCl [(cyI, .int), (cyZ, .boolean)] U ∧ va_D (fun _ => True) [(q4, .inr (3, [.ref qd, .ref qc, .ref qt, .ref ql, .ref qn, .ref qe, .ref qr, .ref qz, .int fp])), (qd, .inr (1, [.ref qw, .int (bI on), .int lf, .int (nI dn)])), (qw, .inl (cyI, 512, .inl w)), (qn, .inr (2, [.ref qna, .int (nI m0)])), (qna, .inl (cyI, 450, .inl F0))])) (va_Qv (S := (Nat → Int32)) (fun (F1 : (Nat → Int32)) => (∀ k, k < zn → F1 k = zGat w b k)) (fun (F1 : (Nat → Int32)) tS => va_P (dC, dI) vwCl [(q4, .inr (3, [.ref qd, .ref qc, .ref qt, .ref ql, .ref qn, .ref qe, .ref qr, .ref qz, .int fp])), (qd, .inr (1, [.ref qw, .int (bI on), .int lf, .int (nI dn)])), (qw, .inl (cyI, 512, .inl w)), (qn, .inr (2, [.ref qna, .int (nI zn)])), (qna, .inl (cyI, 450, .inl F1))] tS.heap ∧ va_K (dC, dI) vwCl [(cyI, .int), (cyZ, .boolean)] tS ∧ va_D (va_A [(q4, .inr (3, [.ref qd, .ref qc, .ref qt, .ref ql, .ref qn, .ref qe, .ref qr, .ref qz, .int fp])), (qd, .inr (1, [.ref qw, .int (bI on), .int lf, .int (nI dn)])), (qw, .inl (cyI, 512, .inl w)), (qn, .inr (2, [.ref qna, .int (nI m0)])), (qna, .inl (cyI, 450, .inl F0))] sz) [(q4, .inr (3, [.ref qd, .ref qc, .ref qt, .ref ql, .ref qn, .ref qe, .ref qr, .ref qz, .int fp])), (qd, .inr (1, [.ref qw, .int (bI on), .int lf, .int (nI dn)])), (qw, .inl (cyI, 512, .inl w)), (qn, .inr (2, [.ref qna, .int (nI zn)])), (qna, .inl (cyI, 450, .inl F1))]) (va_A [(q4, .inr (3, [.ref qd, .ref qc, .ref qt, .ref ql, .ref qn, .ref qe, .ref qr, .ref qz, .int fp])), (qd, .inr (1, [.ref qw, .int (bI on), .int lf, .int (nI dn)])), (qw, .inl (cyI, 512, .inl w)), (qn, .inr (2, [.ref qna, .int (nI m0)])), (qna, .inl (cyI, 450, .inl F0))] sz)) 0 0 (va_A [(q4, .inr (3, [.ref qd, .ref qc, .ref qt, .ref ql, .ref qn, .ref qe, .ref qr, .ref qz, .int fp])), (qd, .inr (1, [.ref qw, .int (bI on), .int lf, .int (nI dn)])), (qw, .inl (cyI, 512, .inl w)), (qn, .inr (2, [.ref qna, .int (nI m0)])), (qna, .inl (cyI, 450, .inl F0))] sz) := by
  refine Met.ofW (cc := cX4_gatherContent) (maxL := 6) (ret := none) (by decide) rfl ?_
  intro pz ez sS mM args below meth cC s₁ B hml hv
  obtain ⟨rfl, hsz, hP, hK, hD0⟩ := hv
  have hx := B.exec
  have hb := B.bytes
  have hr := B.returns
  have hts := atoms_spec (ws := wsX4_gatherContent) B.pre
  have hown : sS.vm.findClass RX4 = some mM.cls := findClass_of_methodNamed B.named
  have hlocks := B.notSynchronized
  subst hsz
  have hD := hD0.self (sz := sS.heap.size)
  generalize hAe : va_A [(q4, .inr (3, [.ref qd, .ref qc, .ref qt, .ref ql, .ref qn, .ref qe, .ref qr, .ref qz, .int fp])), (qd, .inr (1, [.ref qw, .int (bI on), .int lf, .int (nI dn)])), (qw, .inl (cyI, 512, .inl w)), (qn, .inr (2, [.ref qna, .int (nI m0)])), (qna, .inl (cyI, 450, .inl F0))] sS.heap.size = A at hD ⊢
  have hA : ∀ q : Nat, sS.heap.size ≤ q → A q := fun q h => by rw [← hAe]; exact Or.inr h
  have hS : va_S A sS.heap sS.heap [] := va_S.rf
  have hP : va_P (dC, dI) vwCl [(q4, .inr (3, [.ref qd, .ref qc, .ref qt, .ref ql, .ref qn, .ref qe, .ref qr, .ref qz, .int fp])), (qd, .inr (1, [.ref qw, .int (bI on), .int lf, .int (nI dn)])), (qw, .inl (cyI, 512, .inl w)), (qn, .inr (2, [.ref qna, .int (nI m0)])), (qna, .inl (cyI, 450, .inl F0))] sS.heap := hP
  have iwX4 : ∀ w ∈ wsX40, w ∈ wsX4_gatherContent := by decide +kernel
  have fk10 := hts (.fieldLink RX4 10 "CodedStore" "disk" "LCodedStore$Disk;") (by decide +kernel)
  have fk35 := hts (.fieldLink RX4 35 "CodedStore" "content" "LCodedStore$Octets;") (by decide +kernel)
  have hl := lv_entry ([.ref q4, .int (nI b)]) (n := 6) (Nat.le_of_ble_eq_true rfl)
  rw [lg_entry_eq]
  generalize (lg_sl ([.ref q4, .int (nI b)]) ++ List.replicate (6 - (lg_sl ([.ref q4, .int (nI b)])).length) Slot.unset).toArray = ls at hl ⊢
  have hl : lv_has ls 6 [(0, .ref q4), (1, .int (nI b))] := hl
  refine lv_aload_n hx hb dX4_gatherContent_0 rfl (lv_at hl 0 rfl) ?_
  refine va_get (D := (dC, dI)) (ci := 3) (v := .ref qn) (C := RX4) (T := TX4) (N := 9) hx hb hts iwX4 hown hK hP 0 rfl rfl 4 (by decide) fk35 (fun _ h9 => h9) rfl dX4_gatherContent_1 ?_
  have hPc := hP.sub (ws' := [(qn, .inr (2, [.ref qna, .int (nI m0)])), (qna, .inl (cyI, 450, .inl F0))]) [3, 4] rfl
  have hKc := hK.sub (tys' := [(cyI, .int), (cyZ, .boolean)]) [0, 1] rfl
  have hDc := hD.sub (ws' := [(qn, .inr (2, [.ref qna, .int (nI m0)])), (qna, .inl (cyI, 450, .inl F0))]) [3, 4] (by decide) rfl
  have hFc := va_free (wc := [(qn, .inr (2, [.ref qna, .int (nI m0)])), (qna, .inl (cyI, 450, .inl F0))]) hD hS hA [3, 4] rfl
  refine va_callv (va_runV (As := []) (rest := []) ⟨hx, hb, hml, hown, hts⟩ (c_X3_empty l dC dI cyI cyZ qn qna sS.heap.size F0 m0) (cwV 0 hts gX4_gatherContent_X3_empty rfl rfl rfl (by decide +kernel) ⟨Nat.le_of_ble_eq_true rfl, Nat.le_of_ble_eq_true rfl⟩) ⟨zz_blW, va_recv hKc hPc (ci := 2) (q0 := 0) rfl rfl, fun U hU hW => ⟨rfl, by rw [hU], by rw [hU]; exact hPc, va_K.moved hW.alike hKc, hDc.weaken (fun _ _ _ _ => trivial)⟩⟩ rfl rfl hl.1 rfl (lv_room (Nat.le_of_ble_eq_true rfl)) dX4_gatherContent_4 ⟨Nat.zero_le _, Nat.zero_le _⟩) hS (fun q _ h => hFc q h) hFc (fun uU tS H1 locs ht9 hvm9 hw9 hB9 hz1 hk1 hS => ?_)
  obtain ⟨hP1, hK1, hD1⟩ := hB9
  rw [ht9] at hP1
  have hK1 := va_K.moved hvm9.symm hK1
  obtain ⟨hP, hD⟩ := va_join (wr := [(q4, .inr (3, [.ref qd, .ref qc, .ref qt, .ref ql, .ref qn, .ref qe, .ref qr, .ref qz, .int fp])), (qd, .inr (1, [.ref qw, .int (bI on), .int lf, .int (nI dn)])), (qw, .inl (cyI, 512, .inl w))]) (w1 := [(qn, .inr (2, [.ref qna, .int (nI 0)])), (qna, .inl (cyI, 450, .inl F0))]) hP hD [3, 4] [0, 1, 2] rfl rfl (by decide) (by decide) hk1 hFc hP1 hD1
  generalize H1 = H at hP hS ⊢
  have hP : va_P (dC, dI) vwCl [(q4, .inr (3, [.ref qd, .ref qc, .ref qt, .ref ql, .ref qn, .ref qe, .ref qr, .ref qz, .int fp])), (qd, .inr (1, [.ref qw, .int (bI on), .int lf, .int (nI dn)])), (qw, .inl (cyI, 512, .inl w)), (qn, .inr (2, [.ref qna, .int (nI 0)])), (qna, .inl (cyI, 450, .inl F0))] H := hP
  have hD : va_D A [(q4, .inr (3, [.ref qd, .ref qc, .ref qt, .ref ql, .ref qn, .ref qe, .ref qr, .ref qz, .int fp])), (qd, .inr (1, [.ref qw, .int (bI on), .int lf, .int (nI dn)])), (qw, .inl (cyI, 512, .inl w)), (qn, .inr (2, [.ref qna, .int (nI 0)])), (qna, .inl (cyI, 450, .inl F0))] := hD
  refine lv_aload_n hx hb dX4_gatherContent_7 rfl (lv_at hl 0 rfl) ?_
  refine va_get (D := (dC, dI)) (ci := 3) (v := .ref qd) (C := RX4) (T := TX4) (N := 9) hx hb hts iwX4 hown hK hP 0 rfl rfl 0 (by decide) fk10 (fun _ h9 => h9) rfl dX4_gatherContent_8 ?_
  refine lv_iload_n hx hb dX4_gatherContent_11 rfl (lv_at hl 1 rfl) ?_
  have hPc := hP.sub (ws' := [(qd, .inr (1, [.ref qw, .int (bI on), .int lf, .int (nI dn)])), (qw, .inl (cyI, 512, .inl w))]) [1, 2] rfl
  have hKc := hK.sub (tys' := [(cyI, .int), (cyZ, .boolean)]) [0, 1] rfl
  refine vp_callSi (va_Run.run (va_runV (As := [.int (nI b)]) (rest := []) ⟨hx, hb, hml, hown, hts⟩ (c_X2_partsOf l dC dI cyI cyZ qd qw w on lf dn b (by omega)) (cwV 1 hts gX4_gatherContent_X2_partsOf rfl rfl rfl (by decide +kernel) ⟨Nat.le_of_ble_eq_true rfl, Nat.le_of_ble_eq_true rfl⟩) ⟨zz_blR, va_recv hKc hPc (ci := 1) (q0 := 0) rfl rfl, fun U hU hW => ⟨rfl, by rw [hU]; exact hPc, va_K.moved hW.alike hKc⟩⟩ rfl rfl hl.1 rfl (lv_room (Nat.le_of_ble_eq_true rfl)) dX4_gatherContent_12 ⟨Nat.zero_le _, Nat.zero_le _⟩)) (fun r_12 hr_12 => ?_)
  have hr_12 : kParts w b = r_12 := Eq.symm hr_12
  subst hr_12
  refine zz_top (hps) ?_
  refine lv_istore_n (lv' := [(2, .int (nI ps)), (0, .ref q4), (1, .int (nI b))]) hx hb dX4_gatherContent_15 rfl hl (by decide) rfl (fun ls hl => ?_)
  refine lv_iconst (v := nI 0) hx hb dX4_gatherContent_16 (by decide) ?_
  refine lv_istore_n (lv' := [(3, .int (nI 0)), (2, .int (nI ps)), (0, .ref q4), (1, .int (nI b))]) hx hb dX4_gatherContent_17 rfl hl (by decide) rfl (fun ls hl => ?_)
  have e18 : 0 = min (16 * 0) zn := by omega
  rw [show nI 0 = nI (min (16 * 0) zn) from congrArg nI e18] at hP hD
  refine zz_loopW (pc := 18) (μ := fun (x : Nat × (Nat → Int32)) => match x with | (q, F) => ps - q) (Inv := fun (x : Nat × (Nat → Int32)) (H : Heap) (locs : List Loc) (ls : Array Slot) => match x with | (q, F) => (q ≤ ps) ∧ (∀ k, k < min (16 * q) zn → F k = zGat w b k) ∧ va_P (dC, dI) vwCl [(q4, .inr (3, [.ref qd, .ref qc, .ref qt, .ref ql, .ref qn, .ref qe, .ref qr, .ref qz, .int fp])), (qd, .inr (1, [.ref qw, .int (bI on), .int lf, .int (nI dn)])), (qw, .inl (cyI, 512, .inl w)), (qn, .inr (2, [.ref qna, .int (nI (min (16 * q) zn))])), (qna, .inl (cyI, 450, .inl F))] H ∧ va_D A [(q4, .inr (3, [.ref qd, .ref qc, .ref qt, .ref ql, .ref qn, .ref qe, .ref qr, .ref qz, .int fp])), (qd, .inr (1, [.ref qw, .int (bI on), .int lf, .int (nI dn)])), (qw, .inl (cyI, 512, .inl w)), (qn, .inr (2, [.ref qna, .int (nI (min (16 * q) zn))])), (qna, .inl (cyI, 450, .inl F))] ∧ va_S A sS.heap H locs ∧ lv_has ls 6 [(0, .ref q4), (1, .int (nI b)), (2, .int (nI ps)), (3, .int (nI q))]) (x0 := (0, F0)) ⟨by omega, fun k hk => absurd hk (by omega), hP, hD, hS, lv_sub hl [2, 3, 1, 0] rfl⟩ ?_
  intro ⟨q, F⟩ H locs ls hI ih18
  obtain ⟨hq, hF, hP, hD, hS, hl⟩ := hI
  have hl : lv_has ls 6 [(0, .ref q4), (1, .int (nI b)), (2, .int (nI ps)), (3, .int (nI q))] := hl
  have hP : va_P (dC, dI) vwCl [(q4, .inr (3, [.ref qd, .ref qc, .ref qt, .ref ql, .ref qn, .ref qe, .ref qr, .ref qz, .int fp])), (qd, .inr (1, [.ref qw, .int (bI on), .int lf, .int (nI dn)])), (qw, .inl (cyI, 512, .inl w)), (qn, .inr (2, [.ref qna, .int (nI (min (16 * q) zn))])), (qna, .inl (cyI, 450, .inl F))] H := hP
  have hD : va_D A [(q4, .inr (3, [.ref qd, .ref qc, .ref qt, .ref ql, .ref qn, .ref qe, .ref qr, .ref qz, .int fp])), (qd, .inr (1, [.ref qw, .int (bI on), .int lf, .int (nI dn)])), (qw, .inl (cyI, 512, .inl w)), (qn, .inr (2, [.ref qna, .int (nI (min (16 * q) zn))])), (qna, .inl (cyI, 450, .inl F))] := hD
  have hq : q ≤ ps := hq
  have hF : ∀ k, k < min (16 * q) zn → F k = zGat w b k := hF
  refine lv_iload_n hx hb dX4_gatherContent_18 rfl (lv_at hl 3 rfl) ?_
  refine lv_iload_n hx hb dX4_gatherContent_19 rfl (lv_at hl 2 rfl) ?_
  refine zn_icmp_ge (tgt := 111) hx hb dX4_gatherContent_20 (by decide) (by omega) (by omega) (fun c_20 => ?_) (fun c_20 => ?_)
  ·
    have e111 : min (16 * q) zn = zn := by omega
    rw [e111] at hP hD hF
    -- qn : .inr (2, [.ref qna, .int (nI (min (16 * q) zn))])  ~  .inr (2, [.ref qna, .int (nI zn)])
    have hP9 := hP.sub (ws' := [(q4, .inr (3, [.ref qd, .ref qc, .ref qt, .ref ql, .ref qn, .ref qe, .ref qr, .ref qz, .int fp])), (qd, .inr (1, [.ref qw, .int (bI on), .int lf, .int (nI dn)])), (qw, .inl (cyI, 512, .inl w)), (qn, .inr (2, [.ref qna, .int (nI zn)])), (qna, .inl (cyI, 450, .inl F))]) [0, 1, 2, 3, 4] rfl
    have hD9 := hD.sub (ws' := [(q4, .inr (3, [.ref qd, .ref qc, .ref qt, .ref ql, .ref qn, .ref qe, .ref qr, .ref qz, .int fp])), (qd, .inr (1, [.ref qw, .int (bI on), .int lf, .int (nI dn)])), (qw, .inl (cyI, 512, .inl w)), (qn, .inr (2, [.ref qna, .int (nI zn)])), (qna, .inl (cyI, 450, .inl F))]) [0, 1, 2, 3, 4] (by decide) rfl
    have hK9 := hK.sub (tys' := [(cyI, .int), (cyZ, .boolean)]) [0, 1] rfl
    exact W.vret hx hb hr (fun tS ht hW => ⟨⟨F, rfl, hF, by rw [ht]; exact hP9, va_K.moved hW.alike hK9, hD9⟩, hS.F ht⟩) hS.2.2 dX4_gatherContent_111
  ·
    refine lv_aload_n hx hb dX4_gatherContent_23 rfl (lv_at hl 0 rfl) ?_
    refine va_get (D := (dC, dI)) (ci := 3) (v := .ref qd) (C := RX4) (T := TX4) (N := 9) hx hb hts iwX4 hown hK hP 0 rfl rfl 0 (by decide) fk10 (fun _ h9 => h9) rfl dX4_gatherContent_24 ?_
    refine lv_aload_n hx hb dX4_gatherContent_27 rfl (lv_at hl 0 rfl) ?_
    refine va_get (D := (dC, dI)) (ci := 3) (v := .ref qd) (C := RX4) (T := TX4) (N := 9) hx hb hts iwX4 hown hK hP 0 rfl rfl 0 (by decide) fk10 (fun _ h9 => h9) rfl dX4_gatherContent_28 ?_
    refine lv_iload_n hx hb dX4_gatherContent_31 rfl (lv_at hl 1 rfl) ?_
    have hPc := hP.sub (ws' := [(qd, .inr (1, [.ref qw, .int (bI on), .int lf, .int (nI dn)])), (qw, .inl (cyI, 512, .inl w))]) [1, 2] rfl
    have hKc := hK.sub (tys' := [(cyI, .int), (cyZ, .boolean)]) [0, 1] rfl
    refine vp_callSi (va_Run.run (va_runV (As := [.int (nI b)]) (rest := [.ref qd]) ⟨hx, hb, hml, hown, hts⟩ (c_X2_numberOf l dC dI cyI cyZ qd qw w on lf dn b (by omega)) (cwV 1 hts gX4_gatherContent_X2_numberOf rfl rfl rfl (by decide +kernel) ⟨Nat.le_of_ble_eq_true rfl, Nat.le_of_ble_eq_true rfl⟩) ⟨zz_blR, va_recv hKc hPc (ci := 1) (q0 := 0) rfl rfl, fun U hU hW => ⟨rfl, by rw [hU]; exact hPc, va_K.moved hW.alike hKc⟩⟩ rfl rfl hl.1 rfl (lv_room (Nat.le_of_ble_eq_true rfl)) dX4_gatherContent_32 ⟨Nat.zero_le _, Nat.zero_le _⟩)) (fun r_32 hr_32 => ?_)
    have hr_32 : kNum w b = r_32 := Eq.symm hr_32
    subst hr_32
    refine lv_iload_n hx hb dX4_gatherContent_35 rfl (lv_at hl 3 rfl) ?_
    have hPc := hP.sub (ws' := [(qd, .inr (1, [.ref qw, .int (bI on), .int lf, .int (nI dn)])), (qw, .inl (cyI, 512, .inl w))]) [1, 2] rfl
    have hKc := hK.sub (tys' := [(cyI, .int), (cyZ, .boolean)]) [0, 1] rfl
    refine vp_callSi (va_Run.run (va_runV (As := [.int (kNum w b), .int (nI q)]) (rest := []) ⟨hx, hb, hml, hown, hts⟩ (c_X2_blockOf l dC dI cyI cyZ qd qw w on lf dn (kNum w b) (nI q)) (cwV 2 hts gX4_gatherContent_X2_blockOf rfl rfl rfl (by decide +kernel) ⟨Nat.le_of_ble_eq_true rfl, Nat.le_of_ble_eq_true rfl⟩) ⟨zz_blR, va_recv hKc hPc (ci := 1) (q0 := 0) rfl rfl, fun U hU hW => ⟨rfl, by rw [hU]; exact hPc, va_K.moved hW.alike hKc⟩⟩ rfl rfl hl.1 rfl (lv_room (Nat.le_of_ble_eq_true rfl)) dX4_gatherContent_36 ⟨Nat.zero_le _, Nat.zero_le _⟩)) (fun r_36 hr_36 => ?_)
    have hr_36 : zFI (zFst (kAt w (kNum w b) (nI q)) 64) 64 = r_36 := Eq.symm hr_36
    subst hr_36
    have hpb := hPB q (by omega)
    refine zz_top (zFI_t hpb) ?_
    refine lv_istore (lv' := [(4, .int (nI (zPB w b q))), (0, .ref q4), (1, .int (nI b)), (2, .int (nI ps)), (3, .int (nI q))]) hx hb dX4_gatherContent_39 hl (by decide) rfl (fun ls hl => ?_)
    refine lv_iconst (v := nI 0) hx hb dX4_gatherContent_41 (by decide) ?_
    refine lv_istore (lv' := [(5, .int (nI 0)), (4, .int (nI (zPB w b q))), (0, .ref q4), (1, .int (nI b)), (2, .int (nI ps)), (3, .int (nI q))]) hx hb dX4_gatherContent_42 hl (by decide) rfl (fun ls hl => ?_)
    refine zz_loopW (pc := 44) (μ := fun (x : Nat × (Nat → Int32)) => match x with | (i, F) => 16 - i) (Inv := fun (x : Nat × (Nat → Int32)) (H : Heap) (locs : List Loc) (ls : Array Slot) => match x with | (i, F) => (i ≤ 16) ∧ (∀ k, k < min (16 * q + i) zn → F k = zGat w b k) ∧ va_P (dC, dI) vwCl [(q4, .inr (3, [.ref qd, .ref qc, .ref qt, .ref ql, .ref qn, .ref qe, .ref qr, .ref qz, .int fp])), (qd, .inr (1, [.ref qw, .int (bI on), .int lf, .int (nI dn)])), (qw, .inl (cyI, 512, .inl w)), (qn, .inr (2, [.ref qna, .int (nI (min (16 * q + i) zn))])), (qna, .inl (cyI, 450, .inl F))] H ∧ va_D A [(q4, .inr (3, [.ref qd, .ref qc, .ref qt, .ref ql, .ref qn, .ref qe, .ref qr, .ref qz, .int fp])), (qd, .inr (1, [.ref qw, .int (bI on), .int lf, .int (nI dn)])), (qw, .inl (cyI, 512, .inl w)), (qn, .inr (2, [.ref qna, .int (nI (min (16 * q + i) zn))])), (qna, .inl (cyI, 450, .inl F))] ∧ va_S A sS.heap H locs ∧ lv_has ls 6 [(0, .ref q4), (1, .int (nI b)), (2, .int (nI ps)), (3, .int (nI q)), (4, .int (nI (zPB w b q))), (5, .int (nI i))]) (x0 := (0, F)) ⟨by omega, hF, hP, hD, hS, lv_sub hl [2, 3, 4, 5, 1, 0] rfl⟩ ?_
    intro ⟨i, F⟩ H locs ls hI ih44
    obtain ⟨hi, hF, hP, hD, hS, hl⟩ := hI
    have hl : lv_has ls 6 [(0, .ref q4), (1, .int (nI b)), (2, .int (nI ps)), (3, .int (nI q)), (4, .int (nI (zPB w b q))), (5, .int (nI i))] := hl
    have hP : va_P (dC, dI) vwCl [(q4, .inr (3, [.ref qd, .ref qc, .ref qt, .ref ql, .ref qn, .ref qe, .ref qr, .ref qz, .int fp])), (qd, .inr (1, [.ref qw, .int (bI on), .int lf, .int (nI dn)])), (qw, .inl (cyI, 512, .inl w)), (qn, .inr (2, [.ref qna, .int (nI (min (16 * q + i) zn))])), (qna, .inl (cyI, 450, .inl F))] H := hP
    have hD : va_D A [(q4, .inr (3, [.ref qd, .ref qc, .ref qt, .ref ql, .ref qn, .ref qe, .ref qr, .ref qz, .int fp])), (qd, .inr (1, [.ref qw, .int (bI on), .int lf, .int (nI dn)])), (qw, .inl (cyI, 512, .inl w)), (qn, .inr (2, [.ref qna, .int (nI (min (16 * q + i) zn))])), (qna, .inl (cyI, 450, .inl F))] := hD
    have hi : i ≤ 16 := hi
    have hF : ∀ k, k < min (16 * q + i) zn → F k = zGat w b k := hF
    refine lv_iload hx hb dX4_gatherContent_44 (lv_at hl 5 rfl) ?_
    refine lv_bipush (v := nI 16) hx hb dX4_gatherContent_46 (by decide) ?_
    refine zn_icmp_ge (tgt := 105) hx hb dX4_gatherContent_48 (by decide) (by omega) (by omega) (fun c_48 => ?_) (fun c_48 => ?_)
    ·
      refine lv_iinc (v := nI (q + 1)) (lv' := [(3, .int (nI (q + 1))), (0, .ref q4), (1, .int (nI b)), (2, .int (nI ps)), (4, .int (nI (zPB w b q))), (5, .int (nI i))]) hx hb dX4_gatherContent_105 hl (k := 3) rfl (nI_add q 1) (by decide) rfl (fun ls hl => ?_)
      refine lv_goto (tgt := 18) hx hb dX4_gatherContent_108 (by decide) ?_
      have e18 : min (16 * q + i) zn = min (16 * (q + 1)) zn := by omega
      rw [e18] at hP hD hF
      -- cell qn: .inr (2, [.ref qna, .int (nI (min (16 * q + i) zn))]) ~ .inr (2, [.ref qna, .int (nI (min (16 * (q + 1)) zn))])
      exact ih18 (q + 1, F) _ _ _ ⟨by omega, hF, hP, hD, hS, lv_sub hl [1, 2, 3, 0] rfl⟩ (by first | omega | (dsimp only; omega))
    ·
      refine lv_aload_n hx hb dX4_gatherContent_51 rfl (lv_at hl 0 rfl) ?_
      refine va_get (D := (dC, dI)) (ci := 3) (v := .ref qn) (C := RX4) (T := TX4) (N := 9) hx hb hts iwX4 hown hK hP 0 rfl rfl 4 (by decide) fk35 (fun _ h9 => h9) rfl dX4_gatherContent_52 ?_
      have hPc := hP.sub (ws' := [(qn, .inr (2, [.ref qna, .int (nI (min (16 * q + i) zn))])), (qna, .inl (cyI, 450, .inl F))]) [3, 4] rfl
      have hKc := hK.sub (tys' := [(cyI, .int), (cyZ, .boolean)]) [0, 1] rfl
      refine vp_callSi (va_Run.run (va_runV (As := []) (rest := []) ⟨hx, hb, hml, hown, hts⟩ (c_X3_size l dC dI cyI cyZ qn qna F (min (16 * q + i) zn)) (cwV 0 hts gX4_gatherContent_X3_size rfl rfl rfl (by decide +kernel) ⟨Nat.le_of_ble_eq_true rfl, Nat.le_of_ble_eq_true rfl⟩) ⟨zz_blR, va_recv hKc hPc (ci := 2) (q0 := 0) rfl rfl, fun U hU hW => ⟨rfl, by rw [hU]; exact hPc, va_K.moved hW.alike hKc⟩⟩ rfl rfl hl.1 rfl (lv_room (Nat.le_of_ble_eq_true rfl)) dX4_gatherContent_55 ⟨Nat.zero_le _, Nat.zero_le _⟩)) (fun r_55 hr_55 => ?_)
      have hr_55 : nI (min (16 * q + i) zn) = r_55 := Eq.symm hr_55
      subst hr_55
      refine lv_aload_n hx hb dX4_gatherContent_58 rfl (lv_at hl 0 rfl) ?_
      refine va_get (D := (dC, dI)) (ci := 3) (v := .ref qd) (C := RX4) (T := TX4) (N := 9) hx hb hts iwX4 hown hK hP 0 rfl rfl 0 (by decide) fk10 (fun _ h9 => h9) rfl dX4_gatherContent_59 ?_
      refine lv_iload_n hx hb dX4_gatherContent_62 rfl (lv_at hl 1 rfl) ?_
      have hPc := hP.sub (ws' := [(qd, .inr (1, [.ref qw, .int (bI on), .int lf, .int (nI dn)])), (qw, .inl (cyI, 512, .inl w))]) [1, 2] rfl
      have hKc := hK.sub (tys' := [(cyI, .int), (cyZ, .boolean)]) [0, 1] rfl
      refine vp_callSi (va_Run.run (va_runV (As := [.int (nI b)]) (rest := [.int (nI (min (16 * q + i) zn))]) ⟨hx, hb, hml, hown, hts⟩ (c_X2_octetsOf l dC dI cyI cyZ qd qw w on lf dn b (by omega)) (cwV 1 hts gX4_gatherContent_X2_octetsOf rfl rfl rfl (by decide +kernel) ⟨Nat.le_of_ble_eq_true rfl, Nat.le_of_ble_eq_true rfl⟩) ⟨zz_blR, va_recv hKc hPc (ci := 1) (q0 := 0) rfl rfl, fun U hU hW => ⟨rfl, by rw [hU]; exact hPc, va_K.moved hW.alike hKc⟩⟩ rfl rfl hl.1 rfl (lv_room (Nat.le_of_ble_eq_true rfl)) dX4_gatherContent_63 ⟨Nat.zero_le _, Nat.zero_le _⟩)) (fun r_63 hr_63 => ?_)
      have hr_63 : kOct w b = r_63 := Eq.symm hr_63
      subst hr_63
      refine zz_top (hzn) ?_
      refine zn_icmp_ge (tgt := 105) hx hb dX4_gatherContent_66 (by decide) (by omega) (by omega) (fun c_66 => ?_) (fun c_66 => ?_)
      ·
        refine lv_iinc (v := nI (q + 1)) (lv' := [(3, .int (nI (q + 1))), (0, .ref q4), (1, .int (nI b)), (2, .int (nI ps)), (4, .int (nI (zPB w b q))), (5, .int (nI i))]) hx hb dX4_gatherContent_105 hl (k := 3) rfl (nI_add q 1) (by decide) rfl (fun ls hl => ?_)
        refine lv_goto (tgt := 18) hx hb dX4_gatherContent_108 (by decide) ?_
        have e18 : min (16 * q + i) zn = min (16 * (q + 1)) zn := by omega
        rw [e18] at hP hD hF
        -- cell qn: .inr (2, [.ref qna, .int (nI (min (16 * q + i) zn))]) ~ .inr (2, [.ref qna, .int (nI (min (16 * (q + 1)) zn))])
        exact ih18 (q + 1, F) _ _ _ ⟨by omega, hF, hP, hD, hS, lv_sub hl [1, 2, 3, 0] rfl⟩ (by first | omega | (dsimp only; omega))
      ·
        refine lv_aload_n hx hb dX4_gatherContent_69 rfl (lv_at hl 0 rfl) ?_
        refine va_get (D := (dC, dI)) (ci := 3) (v := .ref qn) (C := RX4) (T := TX4) (N := 9) hx hb hts iwX4 hown hK hP 0 rfl rfl 4 (by decide) fk35 (fun _ h9 => h9) rfl dX4_gatherContent_70 ?_
        refine lv_aload_n hx hb dX4_gatherContent_73 rfl (lv_at hl 0 rfl) ?_
        refine va_get (D := (dC, dI)) (ci := 3) (v := .ref qd) (C := RX4) (T := TX4) (N := 9) hx hb hts iwX4 hown hK hP 0 rfl rfl 0 (by decide) fk10 (fun _ h9 => h9) rfl dX4_gatherContent_74 ?_
        refine lv_iload hx hb dX4_gatherContent_77 (lv_at hl 4 rfl) ?_
        refine lv_iconst (v := nI 4) hx hb dX4_gatherContent_79 (by decide) ?_
        refine lv_iload hx hb dX4_gatherContent_80 (lv_at hl 5 rfl) ?_
        refine lv_iconst (v := nI 4) hx hb dX4_gatherContent_82 (by decide) ?_
        refine lv_idiv hx hb dX4_gatherContent_83 (by decide) ?_
        refine zz_top (pk_div (a := i) (d := 4) (by omega) (by decide) (by decide)) ?_
        refine lv_iadd hx hb dX4_gatherContent_84 ?_
        refine zz_top (nI_add 4 (i / 4)) ?_
        have hPc := hP.sub (ws' := [(qd, .inr (1, [.ref qw, .int (bI on), .int lf, .int (nI dn)])), (qw, .inl (cyI, 512, .inl w))]) [1, 2] rfl
        have hKc := hK.sub (tys' := [(cyI, .int), (cyZ, .boolean)]) [0, 1] rfl
        refine vp_callSi (va_Run.run (va_runV (As := [.int (nI (zPB w b q)), .int (nI (4 + (i / 4)))]) (rest := [.ref qn]) ⟨hx, hb, hml, hown, hts⟩ (c_X2_wordAt l dC dI cyI cyZ qd qw w on lf dn (zPB w b q) (4 + (i / 4)) (by omega) (by omega)) (cwV 2 hts gX4_gatherContent_X2_wordAt rfl rfl rfl (by decide +kernel) ⟨Nat.le_of_ble_eq_true rfl, Nat.le_of_ble_eq_true rfl⟩) ⟨zz_blR, va_recv hKc hPc (ci := 1) (q0 := 0) rfl rfl, fun U hU hW => ⟨rfl, by rw [hU]; exact hPc, va_K.moved hW.alike hKc⟩⟩ rfl rfl hl.1 rfl (lv_room (Nat.le_of_ble_eq_true rfl)) dX4_gatherContent_85 ⟨Nat.zero_le _, Nat.zero_le _⟩)) (fun r_85 hr_85 => ?_)
        have hr_85 : w (8 * (zPB w b q) + (4 + (i / 4))) = r_85 := Eq.symm hr_85
        subst hr_85
        refine lv_bipush (v := nI 8) hx hb dX4_gatherContent_88 (by decide) ?_
        refine lv_iload hx hb dX4_gatherContent_90 (lv_at hl 5 rfl) ?_
        refine lv_iconst (v := nI 4) hx hb dX4_gatherContent_92 (by decide) ?_
        refine lv_irem hx hb dX4_gatherContent_93 (by decide) ?_
        refine zz_top (pk_rem (a := i) (d := 4) (by omega) (by decide) (by decide)) ?_
        refine lv_imul hx hb dX4_gatherContent_94 ?_
        refine zz_top (pk_mul 8 (i % 4)) ?_
        refine lv_iushr (v := ((w (8 * (zPB w b q) + (4 + (i / 4)))).toUInt32 >>> ((nI (8 * (i % 4))).toUInt32 &&& Int32.toUInt32 31)).toInt32) hx hb dX4_gatherContent_95 rfl ?_
        have hPc := hP.sub (ws' := [(qn, .inr (2, [.ref qna, .int (nI (min (16 * q + i) zn))])), (qna, .inl (cyI, 450, .inl F))]) [3, 4] rfl
        have hKc := hK.sub (tys' := [(cyI, .int), (cyZ, .boolean)]) [0, 1] rfl
        have hDc := hD.sub (ws' := [(qn, .inr (2, [.ref qna, .int (nI (min (16 * q + i) zn))])), (qna, .inl (cyI, 450, .inl F))]) [3, 4] (by decide) rfl
        have hFc := va_free (wc := [(qn, .inr (2, [.ref qna, .int (nI (min (16 * q + i) zn))])), (qna, .inl (cyI, 450, .inl F))]) hD hS hA [3, 4] rfl
        refine va_callv (va_runV (As := [.int (((w (8 * (zPB w b q) + (4 + (i / 4)))).toUInt32 >>> ((nI (8 * (i % 4))).toUInt32 &&& Int32.toUInt32 31)).toInt32)]) (rest := []) ⟨hx, hb, hml, hown, hts⟩ (c_X3_append l dC dI cyI cyZ qn qna H.size F (min (16 * q + i) zn) (((w (8 * (zPB w b q) + (4 + (i / 4)))).toUInt32 >>> ((nI (8 * (i % 4))).toUInt32 &&& Int32.toUInt32 31)).toInt32) (by omega)) (cwV 1 hts gX4_gatherContent_X3_append rfl rfl rfl (by decide +kernel) ⟨Nat.le_of_ble_eq_true rfl, Nat.le_of_ble_eq_true rfl⟩) ⟨zz_blW, va_recv hKc hPc (ci := 2) (q0 := 0) rfl rfl, fun U hU hW => ⟨rfl, by rw [hU], by rw [hU]; exact hPc, va_K.moved hW.alike hKc, hDc.weaken (fun _ _ _ _ => trivial)⟩⟩ rfl rfl hl.1 rfl (lv_room (Nat.le_of_ble_eq_true rfl)) dX4_gatherContent_96 ⟨Nat.zero_le _, Nat.zero_le _⟩) hS (fun q _ h => hFc q h) hFc (fun uU tS H1 locs ht9 hvm9 hw9 hB9 hz1 hk1 hS => ?_)
        obtain ⟨hP1, hK1, hD1⟩ := hB9
        rw [ht9] at hP1
        have hK1 := va_K.moved hvm9.symm hK1
        obtain ⟨hP, hD⟩ := va_join (wr := [(q4, .inr (3, [.ref qd, .ref qc, .ref qt, .ref ql, .ref qn, .ref qe, .ref qr, .ref qz, .int fp])), (qd, .inr (1, [.ref qw, .int (bI on), .int lf, .int (nI dn)])), (qw, .inl (cyI, 512, .inl w))]) (w1 := [(qn, .inr (2, [.ref qna, .int (nI ((min (16 * q + i) zn) + 1))])), (qna, .inl (cyI, 450, .inl (upd F (min (16 * q + i) zn) ((((w (8 * (zPB w b q) + (4 + (i / 4)))).toUInt32 >>> ((nI (8 * (i % 4))).toUInt32 &&& Int32.toUInt32 31)).toInt32) &&& nI 255))))]) hP hD [3, 4] [0, 1, 2] rfl rfl (by decide) (by decide) hk1 hFc hP1 hD1
        generalize H1 = H at hP hS ⊢
        have hP : va_P (dC, dI) vwCl [(q4, .inr (3, [.ref qd, .ref qc, .ref qt, .ref ql, .ref qn, .ref qe, .ref qr, .ref qz, .int fp])), (qd, .inr (1, [.ref qw, .int (bI on), .int lf, .int (nI dn)])), (qw, .inl (cyI, 512, .inl w)), (qn, .inr (2, [.ref qna, .int (nI ((min (16 * q + i) zn) + 1))])), (qna, .inl (cyI, 450, .inl (upd F (min (16 * q + i) zn) ((((w (8 * (zPB w b q) + (4 + (i / 4)))).toUInt32 >>> ((nI (8 * (i % 4))).toUInt32 &&& Int32.toUInt32 31)).toInt32) &&& nI 255))))] H := hP
        have hD : va_D A [(q4, .inr (3, [.ref qd, .ref qc, .ref qt, .ref ql, .ref qn, .ref qe, .ref qr, .ref qz, .int fp])), (qd, .inr (1, [.ref qw, .int (bI on), .int lf, .int (nI dn)])), (qw, .inl (cyI, 512, .inl w)), (qn, .inr (2, [.ref qna, .int (nI ((min (16 * q + i) zn) + 1))])), (qna, .inl (cyI, 450, .inl (upd F (min (16 * q + i) zn) ((((w (8 * (zPB w b q) + (4 + (i / 4)))).toUInt32 >>> ((nI (8 * (i % 4))).toUInt32 &&& Int32.toUInt32 31)).toInt32) &&& nI 255))))] := hD
        have e96 : min (16 * q + i) zn = 16 * q + i := by omega
        have e97 : 16 * q + i + 1 = min (16 * q + (i + 1)) zn := by omega
        rw [e96, e97] at hP hD
        have hP : va_P (dC, dI) vwCl [(q4, .inr (3, [.ref qd, .ref qc, .ref qt, .ref ql, .ref qn, .ref qe, .ref qr, .ref qz, .int fp])), (qd, .inr (1, [.ref qw, .int (bI on), .int lf, .int (nI dn)])), (qw, .inl (cyI, 512, .inl w)), (qn, .inr (2, [.ref qna, .int (nI (min (16 * q + (i + 1)) zn))])), (qna, .inl (cyI, 450, .inl (upd F (16 * q + i) ((((w (8 * (zPB w b q) + (4 + (i / 4)))).toUInt32 >>> ((nI (8 * (i % 4))).toUInt32 &&& Int32.toUInt32 31)).toInt32) &&& nI 255))))] H := hP
        have hD : va_D A [(q4, .inr (3, [.ref qd, .ref qc, .ref qt, .ref ql, .ref qn, .ref qe, .ref qr, .ref qz, .int fp])), (qd, .inr (1, [.ref qw, .int (bI on), .int lf, .int (nI dn)])), (qw, .inl (cyI, 512, .inl w)), (qn, .inr (2, [.ref qna, .int (nI (min (16 * q + (i + 1)) zn))])), (qna, .inl (cyI, 450, .inl (upd F (16 * q + i) ((((w (8 * (zPB w b q) + (4 + (i / 4)))).toUInt32 >>> ((nI (8 * (i % 4))).toUInt32 &&& Int32.toUInt32 31)).toInt32) &&& nI 255))))] := hD
        refine lv_iinc (v := nI (i + 1)) (lv' := [(5, .int (nI (i + 1))), (0, .ref q4), (1, .int (nI b)), (2, .int (nI ps)), (3, .int (nI q)), (4, .int (nI (zPB w b q)))]) hx hb dX4_gatherContent_99 hl (k := 5) rfl (nI_add i 1) (by decide) rfl (fun ls hl => ?_)
        refine lv_goto (tgt := 44) hx hb dX4_gatherContent_102 (by decide) ?_
        exact ih44 (i + 1, upd F (16 * q + i) ((((w (8 * (zPB w b q) + (4 + (i / 4)))).toUInt32 >>> ((nI (8 * (i % 4))).toUInt32 &&& Int32.toUInt32 31)).toInt32) &&& nI 255)) _ _ _ ⟨by omega, fun k hk => by
          by_cases e : k = 16 * q + i
          · rw [e, upd_at]; exact (zGat_at (by omega)).symm
          · rw [upd_ne e]; exact hF k (by omega), hP, hD, hS, lv_sub hl [1, 2, 3, 4, 5, 0] rfl⟩ (by first | omega | (dsimp only; omega))
