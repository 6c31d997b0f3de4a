set_option maxHeartbeats 4000000 in
set_option maxRecDepth 100000 in
theorem c_X4_out (l : Launch) (dC : Nat → ClassId) (dI : Nat → Nat → Nat) (cyI cyZ : ClassId) (q4 ql qla qd qc qt qn qe qr qz : Nat) (fp : Int32) (P : Nat → Int32) (k : Nat) (ix : Int32) (hk : k ≤ 450) : Met l yX4_out wsX4_out ({ frames := 1, cells := 0, slots := 0, locals := 21 }) (va_Pc [.ref q4, .int ix] (fun U => va_P (dC, dI) vwCl [(q4, .inr (3, [.ref qd, .ref qc, .ref qt, .ref ql, .ref qn, .ref qe, .ref qr, .ref qz, .int fp])), (ql, .inr (2, [.ref qla, .int (nI k)])), (qla, .inl (cyI, 450, .inl P))] U.heap ∧ va_K (dC, dI) vwCl [(cyI, .int), (cyZ, .boolean)] U)) (vp_Si (fun r => r = zOut P k ix)) 0 0 (fun _ => False) := by
  refine Met.ofW (cc := cX4_out) (maxL := 2) (ret := (some .int)) (by decide) rfl ?_
  intro pz ez sS mM args below meth cC s₁ B hml hv
  obtain ⟨rfl, hP, hK⟩ := hv
  have hx := B.exec
  have hb := B.bytes
  have hr := B.returns
  have hts := atoms_spec (ws := wsX4_out) B.pre
  have hown : sS.vm.findClass RX4 = some mM.cls := findClass_of_methodNamed B.named
  have hlocks := B.notSynchronized
  have iwX4 : ∀ w ∈ wsX40, w ∈ wsX4_out := by decide +kernel
  have fk32 := hts (.fieldLink RX4 32 "CodedStore" "loaded" "LCodedStore$Octets;") (by decide +kernel)
  have hl := lv_entry ([.ref q4, .int ix]) (n := 2) (Nat.le_of_ble_eq_true rfl)
  rw [lg_entry_eq]
  generalize (lg_sl ([.ref q4, .int ix]) ++ List.replicate (2 - (lg_sl ([.ref q4, .int ix])).length) Slot.unset).toArray = ls at hl ⊢
  have hl : lv_has ls 2 [(0, .ref q4), (1, .int ix)] := hl
  refine lv_iload_n hx hb dX4_out_0 rfl (lv_at hl 1 rfl) ?_
  refine lv_if_lt (tgt := 15) hx hb dX4_out_1 (by decide) (fun c_1 => ?_) (fun c_1 => ?_)
  ·
    refine lv_iconst (v := (-1)) hx hb dX4_out_15 (by decide) ?_
    have hret : ((-1) : Int32) = zOut P k ix := (by first | exact (zOut_lo c_1).symm | exact (zOut_hi (Int32.not_lt.mp c_12)).symm)
    refine zz_top hret ?_
    exact W.iret hx hb hr (fun tS ht hW => ⟨_, rfl, rfl, ht⟩) (fun _ h => nomatch h) dX4_out_16
  ·
    refine lv_iload_n hx hb dX4_out_4 rfl (lv_at hl 1 rfl) ?_
    refine lv_aload_n hx hb dX4_out_5 rfl (lv_at hl 0 rfl) ?_
    refine va_get (D := (dC, dI)) (ci := 3) (v := .ref ql) (C := RX4) (T := TX4) (N := 9) hx hb hts iwX4 hown hK hP 0 rfl rfl 3 (by decide) fk32 (fun _ h9 => h9) rfl dX4_out_6 ?_
    have hPc := hP.sub (ws' := [(ql, .inr (2, [.ref qla, .int (nI k)])), (qla, .inl (cyI, 450, .inl P))]) [1, 2] rfl
    have hKc := hK.sub (tys' := [(cyI, .int), (cyZ, .boolean)]) [0, 1] rfl
    refine vp_callSi (va_Run.run (va_runV (As := []) (rest := [.int ix]) ⟨hx, hb, hml, hown, hts⟩ (c_X3_size l dC dI cyI cyZ ql qla P k) (cwV 0 hts gX4_out_X3_size rfl rfl rfl (by decide +kernel) ⟨Nat.le_of_ble_eq_true rfl, Nat.le_of_ble_eq_true rfl⟩) ⟨zz_blR, va_recv hKc hPc (ci := 2) (q0 := 0) rfl rfl, fun U hU hW => ⟨rfl, by rw [hU]; exact hPc, va_K.moved hW.alike hKc⟩⟩ rfl rfl hl.1 rfl (lv_room (Nat.le_of_ble_eq_true rfl)) dX4_out_9 ⟨Nat.zero_le _, Nat.zero_le _⟩)) (fun r_9 hr_9 => ?_)
    have hr_9 : nI k = r_9 := Eq.symm hr_9
    subst hr_9
    refine lv_icmp_lt (tgt := 17) hx hb dX4_out_12 (by decide) (fun c_12 => ?_) (fun c_12 => ?_)
    ·
      obtain ⟨j, hj, ej⟩ := i_nat c_1 c_12 (by omega)
      subst ej
      refine lv_aload_n hx hb dX4_out_17 rfl (lv_at hl 0 rfl) ?_
      refine va_get (D := (dC, dI)) (ci := 3) (v := .ref ql) (C := RX4) (T := TX4) (N := 9) hx hb hts iwX4 hown hK hP 0 rfl rfl 3 (by decide) fk32 (fun _ h9 => h9) rfl dX4_out_18 ?_
      refine lv_iload_n hx hb dX4_out_21 rfl (lv_at hl 1 rfl) ?_
      have hPc := hP.sub (ws' := [(ql, .inr (2, [.ref qla, .int (nI k)])), (qla, .inl (cyI, 450, .inl P))]) [1, 2] rfl
      have hKc := hK.sub (tys' := [(cyI, .int), (cyZ, .boolean)]) [0, 1] rfl
      refine vp_callSi (va_Run.run (va_runV (As := [.int (nI j)]) (rest := []) ⟨hx, hb, hml, hown, hts⟩ (c_X3_at_in l dC dI cyI cyZ ql qla P k j (by omega) (by omega)) (cwV 1 hts gX4_out_X3_at rfl rfl rfl (by decide +kernel) ⟨Nat.le_of_ble_eq_true rfl, Nat.le_of_ble_eq_true rfl⟩) ⟨zz_blR, va_recv hKc hPc (ci := 2) (q0 := 0) rfl rfl, fun U hU hW => ⟨rfl, by rw [hU]; exact hPc, va_K.moved hW.alike hKc⟩⟩ rfl rfl hl.1 rfl (lv_room (Nat.le_of_ble_eq_true rfl)) dX4_out_22 ⟨Nat.zero_le _, Nat.zero_le _⟩)) (fun r_22 hr_22 => ?_)
      have hr_22 : P j = r_22 := Eq.symm hr_22
      subst hr_22
      have hret : (P j : Int32) = zOut P k (nI j) := (zOut_in hj (by omega)).symm
      refine zz_top hret ?_
      exact W.iret hx hb hr (fun tS ht hW => ⟨_, rfl, rfl, ht⟩) (fun _ h => nomatch h) dX4_out_25
    ·
      refine lv_iconst (v := (-1)) hx hb dX4_out_15 (by decide) ?_
      have hret : ((-1) : Int32) = zOut P k ix := (by first | exact (zOut_lo c_1).symm | exact (zOut_hi (Int32.not_lt.mp c_12)).symm)
      refine zz_top hret ?_
      exact W.iret hx hb hr (fun tS ht hW => ⟨_, rfl, rfl, ht⟩) (fun _ h => nomatch h) dX4_out_16
set_option maxHeartbeats 4000000 in
set_option maxRecDepth 100000 in
theorem c_X4_place (l : Launch) (dC : Nat → ClassId) (dI : Nat → Nat → Nat) (cyI cyZ : ClassId) (q4 qd qc qt ql qn qe qr qz : Nat) (fp : Int32)  : Met l yX4_place wsX4_place ({ frames := 0, cells := 0, slots := 0, locals := 0 }) (va_Pc [.ref q4] (fun U => va_P (dC, dI) vwCl [(q4, .inr (3, [.ref qd, .ref qc, .ref qt, .ref ql, .ref qn, .ref qe, .ref qr, .ref qz, .int fp]))] U.heap ∧ va_K (dC, dI) vwCl [(cyI, .int), (cyZ, .boolean)] U)) (vp_Si (fun r => r = fp)) 0 0 (fun _ => False) := by
  refine Met.ofW (cc := cX4_place) (maxL := 1) (ret := (some .int)) (by decide) rfl ?_
  intro pz ez sS mM args below meth cC s₁ B hml hv
  obtain ⟨rfl, hP, hK⟩ := hv
  have hx := B.exec
  have hb := B.bytes
  have hr := B.returns
  have hts := atoms_spec (ws := wsX4_place) B.pre
  have hown : sS.vm.findClass RX4 = some mM.cls := findClass_of_methodNamed B.named
  have hlocks := B.notSynchronized
  have iwX4 : ∀ w ∈ wsX40, w ∈ wsX4_place := by decide +kernel
  have fk48 := hts (.fieldLink RX4 48 "CodedStore" "failedPlace" "I") (by decide +kernel)
  have hl := lv_entry ([.ref q4]) (n := 1) (Nat.le_of_ble_eq_true rfl)
  rw [lg_entry_eq]
  generalize (lg_sl ([.ref q4]) ++ List.replicate (1 - (lg_sl ([.ref q4])).length) Slot.unset).toArray = ls at hl ⊢
  have hl : lv_has ls 1 [(0, .ref q4)] := hl
  refine lv_aload_n hx hb dX4_place_0 rfl (lv_at hl 0 rfl) ?_
  refine va_get (D := (dC, dI)) (ci := 3) (v := .int fp) (C := RX4) (T := TX4) (N := 9) hx hb hts iwX4 hown hK hP 0 rfl rfl 8 (by decide) fk48 (fun _ h9 => h9) rfl dX4_place_1 ?_
  exact W.iret hx hb hr (fun tS ht hW => ⟨_, rfl, rfl, ht⟩) (fun _ h => nomatch h) dX4_place_4
set_option maxHeartbeats 4000000 in
set_option maxRecDepth 100000 in
theorem c_X4_recover (l : Launch) (dC : Nat → ClassId) (dI : Nat → Nat → Nat) (cyI cyZ : ClassId) (q4 qd qw qc qwh qlv qt qta ql qla qn qe qr qz : Nat) (sz : Nat) (w : Nat → Int32) (on : Bool) (lf : Int32) (dn : Nat) (WH LV : Nat → Int32) (sa : Int32) (fp : Int32) (T : Nat → Int32) (n : Nat) (P : Nat → Int32) (k : Nat) (HS : sa = nI dn → ∀ j, j < 64 → LV j = bI (kLive w j)) : Met l yX4_recover wsX4_recover ({ frames := 5, cells := 0, slots := 0, locals := 107 }) (va_Pc [.ref q4] (fun U => U.heap.size = sz ∧ va_P (dC, dI) vwCl [(q4, .inr (3, [.ref qd, .ref qc, .ref qt, .ref ql, .ref qn, .ref qe, .ref qr, .ref qz, .int fp])), (qd, .inr (1, [.ref qw, .int (bI on), .int lf, .int (nI dn)])), (qw, .inl (cyI, 512, .inl w)), (qc, .inr (0, [.ref qd, .ref qwh, .ref qlv, .int sa])), (qwh, .inl (cyZ, 64, .inl WH)), (qlv, .inl (cyZ, 64, .inl LV)), (qt, .inr (2, [.ref qta, .int (nI n)])), (qta, .inl (cyI, 450, .inl T)), (ql, .inr (2, [.ref qla, .int (nI k)])), (qla, .inl (cyI, 450, .inl P))] U.heap ∧ va_K (dC, dI) vwCl [(cyI, .int), (cyZ, .boolean)] U ∧ va_D (fun _ => True) [(q4, .inr (3, [.ref qd, .ref qc, .ref qt, .ref ql, .ref qn, .ref qe, .ref qr, .ref qz, .int fp])), (qd, .inr (1, [.ref qw, .int (bI on), .int lf, .int (nI dn)])), (qw, .inl (cyI, 512, .inl w)), (qc, .inr (0, [.ref qd, .ref qwh, .ref qlv, .int sa])), (qwh, .inl (cyZ, 64, .inl WH)), (qlv, .inl (cyZ, 64, .inl LV)), (qt, .inr (2, [.ref qta, .int (nI n)])), (qta, .inl (cyI, 450, .inl T)), (ql, .inr (2, [.ref qla, .int (nI k)])), (qla, .inl (cyI, 450, .inl P))])) (va_Qi (S := (Nat → Int32) × (Nat → Int32)) (fun (r : Int32) (uU : (Nat → Int32) × (Nat → Int32)) => match uU with | (WH1, LV1) => r = nI (fb_ct (kText (kLive w) w) 64) ∧ (∀ j, j < 64 → LV1 j = bI (kLive w j))) (fun (uU : (Nat → Int32) × (Nat → Int32)) tS => match uU with | (WH1, LV1) => va_P (dC, dI) vwCl [(q4, .inr (3, [.ref qd, .ref qc, .ref qt, .ref ql, .ref qn, .ref qe, .ref qr, .ref qz, .int (-1)])), (qd, .inr (1, [.ref qw, .int (bI true), .int (-1), .int (nI dn)])), (qw, .inl (cyI, 512, .inl w)), (qc, .inr (0, [.ref qd, .ref qwh, .ref qlv, .int (nI dn)])), (qwh, .inl (cyZ, 64, .inl WH1)), (qlv, .inl (cyZ, 64, .inl LV1)), (qt, .inr (2, [.ref qta, .int (nI 0)])), (qta, .inl (cyI, 450, .inl T)), (ql, .inr (2, [.ref qla, .int (nI 0)])), (qla, .inl (cyI, 450, .inl P))] tS.heap ∧ va_K (dC, dI) vwCl [(cyI, .int), (cyZ, .boolean)] tS ∧ va_D (va_A [(q4, .inr (3, [.ref qd, .ref qc, .ref qt, .ref ql, .ref qn, .ref qe, .ref qr, .ref qz, .int fp])), (qd, .inr (1, [.ref qw, .int (bI on), .int lf, .int (nI dn)])), (qw, .inl (cyI, 512, .inl w)), (qc, .inr (0, [.ref qd, .ref qwh, .ref qlv, .int sa])), (qwh, .inl (cyZ, 64, .inl WH)), (qlv, .inl (cyZ, 64, .inl LV)), (qt, .inr (2, [.ref qta, .int (nI n)])), (qta, .inl (cyI, 450, .inl T)), (ql, .inr (2, [.ref qla, .int (nI k)])), (qla, .inl (cyI, 450, .inl P))] sz) [(q4, .inr (3, [.ref qd, .ref qc, .ref qt, .ref ql, .ref qn, .ref qe, .ref qr, .ref qz, .int (-1)])), (qd, .inr (1, [.ref qw, .int (bI true), .int (-1), .int (nI dn)])), (qw, .inl (cyI, 512, .inl w)), (qc, .inr (0, [.ref qd, .ref qwh, .ref qlv, .int (nI dn)])), (qwh, .inl (cyZ, 64, .inl WH1)), (qlv, .inl (cyZ, 64, .inl LV1)), (qt, .inr (2, [.ref qta, .int (nI 0)])), (qta, .inl (cyI, 450, .inl T)), (ql, .inr (2, [.ref qla, .int (nI 0)])), (qla, .inl (cyI, 450, .inl P))]) (va_A [(q4, .inr (3, [.ref qd, .ref qc, .ref qt, .ref ql, .ref qn, .ref qe, .ref qr, .ref qz, .int fp])), (qd, .inr (1, [.ref qw, .int (bI on), .int lf, .int (nI dn)])), (qw, .inl (cyI, 512, .inl w)), (qc, .inr (0, [.ref qd, .ref qwh, .ref qlv, .int sa])), (qwh, .inl (cyZ, 64, .inl WH)), (qlv, .inl (cyZ, 64, .inl LV)), (qt, .inr (2, [.ref qta, .int (nI n)])), (qta, .inl (cyI, 450, .inl T)), (ql, .inr (2, [.ref qla, .int (nI k)])), (qla, .inl (cyI, 450, .inl P))] sz)) 0 0 (va_A [(q4, .inr (3, [.ref qd, .ref qc, .ref qt, .ref ql, .ref qn, .ref qe, .ref qr, .ref qz, .int fp])), (qd, .inr (1, [.ref qw, .int (bI on), .int lf, .int (nI dn)])), (qw, .inl (cyI, 512, .inl w)), (qc, .inr (0, [.ref qd, .ref qwh, .ref qlv, .int sa])), (qwh, .inl (cyZ, 64, .inl WH)), (qlv, .inl (cyZ, 64, .inl LV)), (qt, .inr (2, [.ref qta, .int (nI n)])), (qta, .inl (cyI, 450, .inl T)), (ql, .inr (2, [.ref qla, .int (nI k)])), (qla, .inl (cyI, 450, .inl P))] sz) := by
  refine Met.ofW (cc := cX4_recover) (maxL := 1) (ret := (some .int)) (by decide) rfl ?_
  intro pz ez sS mM args below meth cC s₁ B hml hv
  obtain ⟨rfl, hsz, hP, hK, hD0⟩ := hv
  have hx := B.exec
  have hb := B.bytes
  have hr := B.returns
  have hts := atoms_spec (ws := wsX4_recover) B.pre
  have hown : sS.vm.findClass RX4 = some mM.cls := findClass_of_methodNamed B.named
  have hlocks := B.notSynchronized
  subst hsz
  have hD := hD0.self (sz := sS.heap.size)
  generalize hAe : va_A [(q4, .inr (3, [.ref qd, .ref qc, .ref qt, .ref ql, .ref qn, .ref qe, .ref qr, .ref qz, .int fp])), (qd, .inr (1, [.ref qw, .int (bI on), .int lf, .int (nI dn)])), (qw, .inl (cyI, 512, .inl w)), (qc, .inr (0, [.ref qd, .ref qwh, .ref qlv, .int sa])), (qwh, .inl (cyZ, 64, .inl WH)), (qlv, .inl (cyZ, 64, .inl LV)), (qt, .inr (2, [.ref qta, .int (nI n)])), (qta, .inl (cyI, 450, .inl T)), (ql, .inr (2, [.ref qla, .int (nI k)])), (qla, .inl (cyI, 450, .inl P))] sS.heap.size = A at hD ⊢
  have hA : ∀ q : Nat, sS.heap.size ≤ q → A q := fun q h => by rw [← hAe]; exact Or.inr h
  have hS : va_S A sS.heap sS.heap [] := va_S.rf
  have hP : va_P (dC, dI) vwCl [(q4, .inr (3, [.ref qd, .ref qc, .ref qt, .ref ql, .ref qn, .ref qe, .ref qr, .ref qz, .int fp])), (qd, .inr (1, [.ref qw, .int (bI on), .int lf, .int (nI dn)])), (qw, .inl (cyI, 512, .inl w)), (qc, .inr (0, [.ref qd, .ref qwh, .ref qlv, .int sa])), (qwh, .inl (cyZ, 64, .inl WH)), (qlv, .inl (cyZ, 64, .inl LV)), (qt, .inr (2, [.ref qta, .int (nI n)])), (qta, .inl (cyI, 450, .inl T)), (ql, .inr (2, [.ref qla, .int (nI k)])), (qla, .inl (cyI, 450, .inl P))] sS.heap := hP
  have iwX4 : ∀ w ∈ wsX40, w ∈ wsX4_recover := by decide +kernel
  have fk10 := hts (.fieldLink RX4 10 "CodedStore" "disk" "LCodedStore$Disk;") (by decide +kernel)
  have fk28 := hts (.fieldLink RX4 28 "CodedStore" "tape" "LCodedStore$Octets;") (by decide +kernel)
  have fk32 := hts (.fieldLink RX4 32 "CodedStore" "loaded" "LCodedStore$Octets;") (by decide +kernel)
  have fk48 := hts (.fieldLink RX4 48 "CodedStore" "failedPlace" "I") (by decide +kernel)
  have hl := lv_entry ([.ref q4]) (n := 1) (Nat.le_of_ble_eq_true rfl)
  rw [lg_entry_eq]
  generalize (lg_sl ([.ref q4]) ++ List.replicate (1 - (lg_sl ([.ref q4])).length) Slot.unset).toArray = ls at hl ⊢
  have hl : lv_has ls 1 [(0, .ref q4)] := hl
  refine lv_aload_n hx hb dX4_recover_0 rfl (lv_at hl 0 rfl) ?_
  refine va_get (D := (dC, dI)) (ci := 3) (v := .ref qd) (C := RX4) (T := TX4) (N := 9) hx hb hts iwX4 hown hK hP 0 rfl rfl 0 (by decide) fk10 (fun _ h9 => h9) rfl dX4_recover_1 ?_
  have hPc := hP.sub (ws' := [(qd, .inr (1, [.ref qw, .int (bI on), .int lf, .int (nI dn)])), (qw, .inl (cyI, 512, .inl w))]) [1, 2] rfl
  have hKc := hK.sub (tys' := [(cyI, .int), (cyZ, .boolean)]) [0, 1] rfl
  have hDc := hD.sub (ws' := [(qd, .inr (1, [.ref qw, .int (bI on), .int lf, .int (nI dn)])), (qw, .inl (cyI, 512, .inl w))]) [1, 2] (by decide) rfl
  have hFc := va_free (wc := [(qd, .inr (1, [.ref qw, .int (bI on), .int lf, .int (nI dn)])), (qw, .inl (cyI, 512, .inl w))]) hD hS hA [1, 2] rfl
  refine va_callv (va_runV (As := []) (rest := []) ⟨hx, hb, hml, hown, hts⟩ (c_X2_switchOn l dC dI cyI cyZ qd qw sS.heap.size w on lf dn) (cwV 0 hts gX4_recover_X2_switchOn rfl rfl rfl (by decide +kernel) ⟨Nat.le_of_ble_eq_true rfl, Nat.le_of_ble_eq_true rfl⟩) ⟨zz_blW, va_recv hKc hPc (ci := 1) (q0 := 0) rfl rfl, fun U hU hW => ⟨rfl, by rw [hU], by rw [hU]; exact hPc, va_K.moved hW.alike hKc, hDc.weaken (fun _ _ _ _ => trivial)⟩⟩ rfl rfl hl.1 rfl (lv_room (Nat.le_of_ble_eq_true rfl)) dX4_recover_4 ⟨Nat.zero_le _, Nat.zero_le _⟩) hS (fun q _ h => hFc q h) hFc (fun uU tS H1 locs ht9 hvm9 hw9 hB9 hz1 hk1 hS => ?_)
  obtain ⟨hP1, hK1, hD1⟩ := hB9
  rw [ht9] at hP1
  have hK1 := va_K.moved hvm9.symm hK1
  obtain ⟨hP, hD⟩ := va_join (wr := [(q4, .inr (3, [.ref qd, .ref qc, .ref qt, .ref ql, .ref qn, .ref qe, .ref qr, .ref qz, .int fp])), (qc, .inr (0, [.ref qd, .ref qwh, .ref qlv, .int sa])), (qwh, .inl (cyZ, 64, .inl WH)), (qlv, .inl (cyZ, 64, .inl LV)), (qt, .inr (2, [.ref qta, .int (nI n)])), (qta, .inl (cyI, 450, .inl T)), (ql, .inr (2, [.ref qla, .int (nI k)])), (qla, .inl (cyI, 450, .inl P))]) (w1 := [(qd, .inr (1, [.ref qw, .int (bI true), .int (-1), .int (nI dn)])), (qw, .inl (cyI, 512, .inl w))]) hP hD [1, 2] [0, 3, 4, 5, 6, 7, 8, 9] rfl rfl (by decide) (by decide) hk1 hFc hP1 hD1
  generalize H1 = H at hP hS ⊢
  have hP : va_P (dC, dI) vwCl [(q4, .inr (3, [.ref qd, .ref qc, .ref qt, .ref ql, .ref qn, .ref qe, .ref qr, .ref qz, .int fp])), (qc, .inr (0, [.ref qd, .ref qwh, .ref qlv, .int sa])), (qwh, .inl (cyZ, 64, .inl WH)), (qlv, .inl (cyZ, 64, .inl LV)), (qt, .inr (2, [.ref qta, .int (nI n)])), (qta, .inl (cyI, 450, .inl T)), (ql, .inr (2, [.ref qla, .int (nI k)])), (qla, .inl (cyI, 450, .inl P)), (qd, .inr (1, [.ref qw, .int (bI true), .int (-1), .int (nI dn)])), (qw, .inl (cyI, 512, .inl w))] H := hP
  have hD : va_D A [(q4, .inr (3, [.ref qd, .ref qc, .ref qt, .ref ql, .ref qn, .ref qe, .ref qr, .ref qz, .int fp])), (qc, .inr (0, [.ref qd, .ref qwh, .ref qlv, .int sa])), (qwh, .inl (cyZ, 64, .inl WH)), (qlv, .inl (cyZ, 64, .inl LV)), (qt, .inr (2, [.ref qta, .int (nI n)])), (qta, .inl (cyI, 450, .inl T)), (ql, .inr (2, [.ref qla, .int (nI k)])), (qla, .inl (cyI, 450, .inl P)), (qd, .inr (1, [.ref qw, .int (bI true), .int (-1), .int (nI dn)])), (qw, .inl (cyI, 512, .inl w))] := hD
  refine lv_aload_n hx hb dX4_recover_7 rfl (lv_at hl 0 rfl) ?_
  refine va_get (D := (dC, dI)) (ci := 3) (v := .ref qt) (C := RX4) (T := TX4) (N := 9) hx hb hts iwX4 hown hK hP 0 rfl rfl 2 (by decide) fk28 (fun _ h9 => h9) rfl dX4_recover_8 ?_
  have hPc := hP.sub (ws' := [(qt, .inr (2, [.ref qta, .int (nI n)])), (qta, .inl (cyI, 450, .inl T))]) [4, 5] rfl
  have hKc := hK.sub (tys' := [(cyI, .int), (cyZ, .boolean)]) [0, 1] rfl
  have hDc := hD.sub (ws' := [(qt, .inr (2, [.ref qta, .int (nI n)])), (qta, .inl (cyI, 450, .inl T))]) [4, 5] (by decide) rfl
  have hFc := va_free (wc := [(qt, .inr (2, [.ref qta, .int (nI n)])), (qta, .inl (cyI, 450, .inl T))]) hD hS hA [4, 5] rfl
  refine va_callv (va_runV (As := []) (rest := []) ⟨hx, hb, hml, hown, hts⟩ (c_X3_empty l dC dI cyI cyZ qt qta H.size T n) (cwV 0 hts gX4_recover_X3_empty rfl rfl rfl (by decide +kernel) ⟨Nat.le_of_ble_eq_true rfl, Nat.le_of_ble_eq_true rfl⟩) ⟨zz_blW, va_recv hKc hPc (ci := 2) (q0 := 0) rfl rfl, fun U hU hW => ⟨rfl, by rw [hU], by rw [hU]; exact hPc, va_K.moved hW.alike hKc, hDc.weaken (fun _ _ _ _ => trivial)⟩⟩ rfl rfl hl.1 rfl (lv_room (Nat.le_of_ble_eq_true rfl)) dX4_recover_11 ⟨Nat.zero_le _, Nat.zero_le _⟩) hS (fun q _ h => hFc q h) hFc (fun uU tS H1 locs ht9 hvm9 hw9 hB9 hz1 hk1 hS => ?_)
  obtain ⟨hP1, hK1, hD1⟩ := hB9
  rw [ht9] at hP1
  have hK1 := va_K.moved hvm9.symm hK1
  obtain ⟨hP, hD⟩ := va_join (wr := [(q4, .inr (3, [.ref qd, .ref qc, .ref qt, .ref ql, .ref qn, .ref qe, .ref qr, .ref qz, .int fp])), (qc, .inr (0, [.ref qd, .ref qwh, .ref qlv, .int sa])), (qwh, .inl (cyZ, 64, .inl WH)), (qlv, .inl (cyZ, 64, .inl LV)), (ql, .inr (2, [.ref qla, .int (nI k)])), (qla, .inl (cyI, 450, .inl P)), (qd, .inr (1, [.ref qw, .int (bI true), .int (-1), .int (nI dn)])), (qw, .inl (cyI, 512, .inl w))]) (w1 := [(qt, .inr (2, [.ref qta, .int (nI 0)])), (qta, .inl (cyI, 450, .inl T))]) hP hD [4, 5] [0, 1, 2, 3, 6, 7, 8, 9] rfl rfl (by decide) (by decide) hk1 hFc hP1 hD1
  generalize H1 = H at hP hS ⊢
  have hP : va_P (dC, dI) vwCl [(q4, .inr (3, [.ref qd, .ref qc, .ref qt, .ref ql, .ref qn, .ref qe, .ref qr, .ref qz, .int fp])), (qc, .inr (0, [.ref qd, .ref qwh, .ref qlv, .int sa])), (qwh, .inl (cyZ, 64, .inl WH)), (qlv, .inl (cyZ, 64, .inl LV)), (ql, .inr (2, [.ref qla, .int (nI k)])), (qla, .inl (cyI, 450, .inl P)), (qd, .inr (1, [.ref qw, .int (bI true), .int (-1), .int (nI dn)])), (qw, .inl (cyI, 512, .inl w)), (qt, .inr (2, [.ref qta, .int (nI 0)])), (qta, .inl (cyI, 450, .inl T))] H := hP
  have hD : va_D A [(q4, .inr (3, [.ref qd, .ref qc, .ref qt, .ref ql, .ref qn, .ref qe, .ref qr, .ref qz, .int fp])), (qc, .inr (0, [.ref qd, .ref qwh, .ref qlv, .int sa])), (qwh, .inl (cyZ, 64, .inl WH)), (qlv, .inl (cyZ, 64, .inl LV)), (ql, .inr (2, [.ref qla, .int (nI k)])), (qla, .inl (cyI, 450, .inl P)), (qd, .inr (1, [.ref qw, .int (bI true), .int (-1), .int (nI dn)])), (qw, .inl (cyI, 512, .inl w)), (qt, .inr (2, [.ref qta, .int (nI 0)])), (qta, .inl (cyI, 450, .inl T))] := hD
  refine lv_aload_n hx hb dX4_recover_14 rfl (lv_at hl 0 rfl) ?_
  refine va_get (D := (dC, dI)) (ci := 3) (v := .ref ql) (C := RX4) (T := TX4) (N := 9) hx hb hts iwX4 hown hK hP 0 rfl rfl 3 (by decide) fk32 (fun _ h9 => h9) rfl dX4_recover_15 ?_
  have hPc := hP.sub (ws' := [(ql, .inr (2, [.ref qla, .int (nI k)])), (qla, .inl (cyI, 450, .inl P))]) [4, 5] rfl
  have hKc := hK.sub (tys' := [(cyI, .int), (cyZ, .boolean)]) [0, 1] rfl
  have hDc := hD.sub (ws' := [(ql, .inr (2, [.ref qla, .int (nI k)])), (qla, .inl (cyI, 450, .inl P))]) [4, 5] (by decide) rfl
  have hFc := va_free (wc := [(ql, .inr (2, [.ref qla, .int (nI k)])), (qla, .inl (cyI, 450, .inl P))]) hD hS hA [4, 5] rfl
  refine va_callv (va_runV (As := []) (rest := []) ⟨hx, hb, hml, hown, hts⟩ (c_X3_empty l dC dI cyI cyZ ql qla H.size P k) (cwV 0 hts gX4_recover_X3_empty rfl rfl rfl (by decide +kernel) ⟨Nat.le_of_ble_eq_true rfl, Nat.le_of_ble_eq_true rfl⟩) ⟨zz_blW, va_recv hKc hPc (ci := 2) (q0 := 0) rfl rfl, fun U hU hW => ⟨rfl, by rw [hU], by rw [hU]; exact hPc, va_K.moved hW.alike hKc, hDc.weaken (fun _ _ _ _ => trivial)⟩⟩ rfl rfl hl.1 rfl (lv_room (Nat.le_of_ble_eq_true rfl)) dX4_recover_18 ⟨Nat.zero_le _, Nat.zero_le _⟩) hS (fun q _ h => hFc q h) hFc (fun uU tS H1 locs ht9 hvm9 hw9 hB9 hz1 hk1 hS => ?_)
  obtain ⟨hP1, hK1, hD1⟩ := hB9
  rw [ht9] at hP1
  have hK1 := va_K.moved hvm9.symm hK1
  obtain ⟨hP, hD⟩ := va_join (wr := [(q4, .inr (3, [.ref qd, .ref qc, .ref qt, .ref ql, .ref qn, .ref qe, .ref qr, .ref qz, .int fp])), (qc, .inr (0, [.ref qd, .ref qwh, .ref qlv, .int sa])), (qwh, .inl (cyZ, 64, .inl WH)), (qlv, .inl (cyZ, 64, .inl LV)), (qd, .inr (1, [.ref qw, .int (bI true), .int (-1), .int (nI dn)])), (qw, .inl (cyI, 512, .inl w)), (qt, .inr (2, [.ref qta, .int (nI 0)])), (qta, .inl (cyI, 450, .inl T))]) (w1 := [(ql, .inr (2, [.ref qla, .int (nI 0)])), (qla, .inl (cyI, 450, .inl P))]) hP hD [4, 5] [0, 1, 2, 3, 6, 7, 8, 9] rfl rfl (by decide) (by decide) hk1 hFc hP1 hD1
  generalize H1 = H at hP hS ⊢
  have hP : va_P (dC, dI) vwCl [(q4, .inr (3, [.ref qd, .ref qc, .ref qt, .ref ql, .ref qn, .ref qe, .ref qr, .ref qz, .int fp])), (qc, .inr (0, [.ref qd, .ref qwh, .ref qlv, .int sa])), (qwh, .inl (cyZ, 64, .inl WH)), (qlv, .inl (cyZ, 64, .inl LV)), (qd, .inr (1, [.ref qw, .int (bI true), .int (-1), .int (nI dn)])), (qw, .inl (cyI, 512, .inl w)), (qt, .inr (2, [.ref qta, .int (nI 0)])), (qta, .inl (cyI, 450, .inl T)), (ql, .inr (2, [.ref qla, .int (nI 0)])), (qla, .inl (cyI, 450, .inl P))] H := hP
  have hD : va_D A [(q4, .inr (3, [.ref qd, .ref qc, .ref qt, .ref ql, .ref qn, .ref qe, .ref qr, .ref qz, .int fp])), (qc, .inr (0, [.ref qd, .ref qwh, .ref qlv, .int sa])), (qwh, .inl (cyZ, 64, .inl WH)), (qlv, .inl (cyZ, 64, .inl LV)), (qd, .inr (1, [.ref qw, .int (bI true), .int (-1), .int (nI dn)])), (qw, .inl (cyI, 512, .inl w)), (qt, .inr (2, [.ref qta, .int (nI 0)])), (qta, .inl (cyI, 450, .inl T)), (ql, .inr (2, [.ref qla, .int (nI 0)])), (qla, .inl (cyI, 450, .inl P))] := hD
  refine lv_aload_n hx hb dX4_recover_21 rfl (lv_at hl 0 rfl) ?_
  refine lv_iconst (v := (-1)) hx hb dX4_recover_22 (by decide) ?_
  refine va_put (D := (dC, dI)) (ci := 3) (v := .int (-1)) (ty := .int) (C := RX4) (T := TX4) (N := 9) hx hb hts iwX4 tyX4 tyX4_ok nmX4 hown hK hP hD hS 0 rfl rfl 8 (by decide) fk48 (fun _ h9 => h9) rfl (by decide +kernel) rfl rfl (Nat.le_of_ble_eq_true rfl) dX4_recover_23 (fun H locs hP hD hS => ?_)
  have hP : va_P (dC, dI) vwCl [(q4, .inr (3, [.ref qd, .ref qc, .ref qt, .ref ql, .ref qn, .ref qe, .ref qr, .ref qz, .int (-1)])), (qc, .inr (0, [.ref qd, .ref qwh, .ref qlv, .int sa])), (qwh, .inl (cyZ, 64, .inl WH)), (qlv, .inl (cyZ, 64, .inl LV)), (qd, .inr (1, [.ref qw, .int (bI true), .int (-1), .int (nI dn)])), (qw, .inl (cyI, 512, .inl w)), (qt, .inr (2, [.ref qta, .int (nI 0)])), (qta, .inl (cyI, 450, .inl T)), (ql, .inr (2, [.ref qla, .int (nI 0)])), (qla, .inl (cyI, 450, .inl P))] H := hP
  have hD : va_D A [(q4, .inr (3, [.ref qd, .ref qc, .ref qt, .ref ql, .ref qn, .ref qe, .ref qr, .ref qz, .int (-1)])), (qc, .inr (0, [.ref qd, .ref qwh, .ref qlv, .int sa])), (qwh, .inl (cyZ, 64, .inl WH)), (qlv, .inl (cyZ, 64, .inl LV)), (qd, .inr (1, [.ref qw, .int (bI true), .int (-1), .int (nI dn)])), (qw, .inl (cyI, 512, .inl w)), (qt, .inr (2, [.ref qta, .int (nI 0)])), (qta, .inl (cyI, 450, .inl T)), (ql, .inr (2, [.ref qla, .int (nI 0)])), (qla, .inl (cyI, 450, .inl P))] := hD
  refine lv_aload_n hx hb dX4_recover_26 rfl (lv_at hl 0 rfl) ?_
  have hPc := hP.sub (ws' := [(q4, .inr (3, [.ref qd, .ref qc, .ref qt, .ref ql, .ref qn, .ref qe, .ref qr, .ref qz, .int (-1)])), (qd, .inr (1, [.ref qw, .int (bI true), .int (-1), .int (nI dn)])), (qw, .inl (cyI, 512, .inl w)), (qc, .inr (0, [.ref qd, .ref qwh, .ref qlv, .int sa])), (qwh, .inl (cyZ, 64, .inl WH)), (qlv, .inl (cyZ, 64, .inl LV))]) [0, 4, 5, 1, 2, 3] rfl
  have hKc := hK.sub (tys' := [(cyI, .int), (cyZ, .boolean)]) [0, 1] rfl
  have hDc := hD.sub (ws' := [(q4, .inr (3, [.ref qd, .ref qc, .ref qt, .ref ql, .ref qn, .ref qe, .ref qr, .ref qz, .int (-1)])), (qd, .inr (1, [.ref qw, .int (bI true), .int (-1), .int (nI dn)])), (qw, .inl (cyI, 512, .inl w)), (qc, .inr (0, [.ref qd, .ref qwh, .ref qlv, .int sa])), (qwh, .inl (cyZ, 64, .inl WH)), (qlv, .inl (cyZ, 64, .inl LV))]) [0, 4, 5, 1, 2, 3] (by decide) rfl
  have hFc := va_free (wc := [(q4, .inr (3, [.ref qd, .ref qc, .ref qt, .ref ql, .ref qn, .ref qe, .ref qr, .ref qz, .int (-1)])), (qd, .inr (1, [.ref qw, .int (bI true), .int (-1), .int (nI dn)])), (qw, .inl (cyI, 512, .inl w)), (qc, .inr (0, [.ref qd, .ref qwh, .ref qlv, .int sa])), (qwh, .inl (cyZ, 64, .inl WH)), (qlv, .inl (cyZ, 64, .inl LV))]) hD hS hA [0, 4, 5, 1, 2, 3] rfl
  refine va_callr (va_runV (As := []) (rest := []) ⟨hx, hb, hml, hown, hts⟩ (c_X4_surveyed l dC dI cyI cyZ q4 qd qw qc qwh qlv qt ql qn qe qr qz H.size w true (-1) dn WH LV sa (-1) (HS)) (cwV 0 hts gX4_recover_X4_surveyed rfl rfl rfl (by decide +kernel) ⟨Nat.le_of_ble_eq_true rfl, Nat.le_of_ble_eq_true rfl⟩) ⟨zz_blW, va_recv hKc hPc (ci := 3) (q0 := 0) rfl rfl, fun U hU hW => ⟨rfl, by rw [hU], by rw [hU]; exact hPc, va_K.moved hW.alike hKc, hDc.weaken (fun _ _ _ _ => trivial)⟩⟩ rfl rfl hl.1 rfl (lv_room (Nat.le_of_ble_eq_true rfl)) dX4_recover_27 ⟨Nat.zero_le _, Nat.zero_le _⟩) hS (fun q _ h => hFc q h) hFc (fun uU ra tS H1 locs ht9 hvm9 hw9 hB9 hz1 hk1 hS => ?_)
  obtain ⟨WH1_27, LV1_27⟩ := uU
  obtain ⟨e9r, hP1, hK1, hD1⟩ := hB9
  have e9r : qc = ra := e9r.symm
  subst e9r
  have hw9 : (∀ j, j < 64 → LV1_27 j = bI (kLive w j)) := hw9
  have HL_27 := hw9
  rw [ht9] at hP1
  have hK1 := va_K.moved hvm9.symm hK1
  obtain ⟨hP, hD⟩ := va_join (wr := [(qt, .inr (2, [.ref qta, .int (nI 0)])), (qta, .inl (cyI, 450, .inl T)), (ql, .inr (2, [.ref qla, .int (nI 0)])), (qla, .inl (cyI, 450, .inl P))]) (w1 := [(q4, .inr (3, [.ref qd, .ref qc, .ref qt, .ref ql, .ref qn, .ref qe, .ref qr, .ref qz, .int (-1)])), (qd, .inr (1, [.ref qw, .int (bI true), .int (-1), .int (nI dn)])), (qw, .inl (cyI, 512, .inl w)), (qc, .inr (0, [.ref qd, .ref qwh, .ref qlv, .int (nI dn)])), (qwh, .inl (cyZ, 64, .inl WH1_27)), (qlv, .inl (cyZ, 64, .inl LV1_27))]) hP hD [0, 4, 5, 1, 2, 3] [6, 7, 8, 9] rfl rfl (by decide) (by decide) hk1 hFc hP1 hD1
  generalize H1 = H at hP hS ⊢
  have hP : va_P (dC, dI) vwCl [(qt, .inr (2, [.ref qta, .int (nI 0)])), (qta, .inl (cyI, 450, .inl T)), (ql, .inr (2, [.ref qla, .int (nI 0)])), (qla, .inl (cyI, 450, .inl P)), (q4, .inr (3, [.ref qd, .ref qc, .ref qt, .ref ql, .ref qn, .ref qe, .ref qr, .ref qz, .int (-1)])), (qd, .inr (1, [.ref qw, .int (bI true), .int (-1), .int (nI dn)])), (qw, .inl (cyI, 512, .inl w)), (qc, .inr (0, [.ref qd, .ref qwh, .ref qlv, .int (nI dn)])), (qwh, .inl (cyZ, 64, .inl WH1_27)), (qlv, .inl (cyZ, 64, .inl LV1_27))] H := hP
  have hD : va_D A [(qt, .inr (2, [.ref qta, .int (nI 0)])), (qta, .inl (cyI, 450, .inl T)), (ql, .inr (2, [.ref qla, .int (nI 0)])), (qla, .inl (cyI, 450, .inl P)), (q4, .inr (3, [.ref qd, .ref qc, .ref qt, .ref ql, .ref qn, .ref qe, .ref qr, .ref qz, .int (-1)])), (qd, .inr (1, [.ref qw, .int (bI true), .int (-1), .int (nI dn)])), (qw, .inl (cyI, 512, .inl w)), (qc, .inr (0, [.ref qd, .ref qwh, .ref qlv, .int (nI dn)])), (qwh, .inl (cyZ, 64, .inl WH1_27)), (qlv, .inl (cyZ, 64, .inl LV1_27))] := hD
  have hPc := hP.sub (ws' := [(qc, .inr (0, [.ref qd, .ref qwh, .ref qlv, .int (nI dn)])), (qwh, .inl (cyZ, 64, .inl WH1_27)), (qlv, .inl (cyZ, 64, .inl LV1_27)), (qd, .inr (1, [.ref qw, .int (bI true), .int (-1), .int (nI dn)])), (qw, .inl (cyI, 512, .inl w))]) [7, 8, 9, 5, 6] rfl
  have hKc := hK.sub (tys' := [(cyI, .int), (cyZ, .boolean)]) [0, 1] rfl
  refine vp_callSi (va_Run.run (va_runV (As := []) (rest := []) ⟨hx, hb, hml, hown, hts⟩ (c_X0_countTexts l dC dI cyI cyZ qc qwh qlv qd qw WH1_27 LV1_27 (nI dn) w true (-1) dn (kLive w) (HL_27)) (cwV 0 hts gX4_recover_X0_countTexts rfl rfl rfl (by decide +kernel) ⟨Nat.le_of_ble_eq_true rfl, Nat.le_of_ble_eq_true rfl⟩) ⟨zz_blR, va_recv hKc hPc (ci := 0) (q0 := 0) rfl rfl, fun U hU hW => ⟨rfl, by rw [hU]; exact hPc, va_K.moved hW.alike hKc⟩⟩ rfl rfl hl.1 rfl (lv_room (Nat.le_of_ble_eq_true rfl)) dX4_recover_30 ⟨Nat.zero_le _, Nat.zero_le _⟩)) (fun r_30 hr_30 => ?_)
  have hr_30 : nI (fb_ct (kText (kLive w) w) 64) = r_30 := Eq.symm hr_30
  subst hr_30
  have hP9 := hP.sub (ws' := [(q4, .inr (3, [.ref qd, .ref qc, .ref qt, .ref ql, .ref qn, .ref qe, .ref qr, .ref qz, .int (-1)])), (qd, .inr (1, [.ref qw, .int (bI true), .int (-1), .int (nI dn)])), (qw, .inl (cyI, 512, .inl w)), (qc, .inr (0, [.ref qd, .ref qwh, .ref qlv, .int (nI dn)])), (qwh, .inl (cyZ, 64, .inl WH1_27)), (qlv, .inl (cyZ, 64, .inl LV1_27)), (qt, .inr (2, [.ref qta, .int (nI 0)])), (qta, .inl (cyI, 450, .inl T)), (ql, .inr (2, [.ref qla, .int (nI 0)])), (qla, .inl (cyI, 450, .inl P))]) [4, 5, 6, 7, 8, 9, 0, 1, 2, 3] rfl
  have hD9 := hD.sub (ws' := [(q4, .inr (3, [.ref qd, .ref qc, .ref qt, .ref ql, .ref qn, .ref qe, .ref qr, .ref qz, .int (-1)])), (qd, .inr (1, [.ref qw, .int (bI true), .int (-1), .int (nI dn)])), (qw, .inl (cyI, 512, .inl w)), (qc, .inr (0, [.ref qd, .ref qwh, .ref qlv, .int (nI dn)])), (qwh, .inl (cyZ, 64, .inl WH1_27)), (qlv, .inl (cyZ, 64, .inl LV1_27)), (qt, .inr (2, [.ref qta, .int (nI 0)])), (qta, .inl (cyI, 450, .inl T)), (ql, .inr (2, [.ref qla, .int (nI 0)])), (qla, .inl (cyI, 450, .inl P))]) [4, 5, 6, 7, 8, 9, 0, 1, 2, 3] (by decide) rfl
  have hK9 := hK.sub (tys' := [(cyI, .int), (cyZ, .boolean)]) [0, 1] rfl
  exact W.iret hx hb hr (fun tS ht hW => ⟨⟨_, (WH1_27, LV1_27), rfl, ⟨rfl, HL_27⟩, by rw [ht]; exact hP9, va_K.moved hW.alike hK9, hD9⟩, hS.F ht⟩) hS.2.2 dX4_recover_33
set_option maxHeartbeats 4000000 in
set_option maxRecDepth 100000 in
theorem c_X4_number (l : Launch) (dC : Nat → ClassId) (dI : Nat → Nat → Nat) (cyI cyZ : ClassId) (q4 qd qw qc qwh qlv qt ql qn qe qr qz : Nat) (sz : Nat) (w : Nat → Int32) (on : Bool) (lf : Int32) (dn : Nat) (WH LV : Nat → Int32) (sa : Int32) (fp : Int32) (ky : Int32) (HS : sa = nI dn → ∀ j, j < 64 → LV j = bI (kLive w j)) : Met l yX4_number wsX4_number ({ frames := 5, cells := 0, slots := 0, locals := 107 }) (va_Pc [.ref q4, .int ky] (fun U => U.heap.size = sz ∧ va_P (dC, dI) vwCl [(q4, .inr (3, [.ref qd, .ref qc, .ref qt, .ref ql, .ref qn, .ref qe, .ref qr, .ref qz, .int fp])), (qd, .inr (1, [.ref qw, .int (bI on), .int lf, .int (nI dn)])), (qw, .inl (cyI, 512, .inl w)), (qc, .inr (0, [.ref qd, .ref qwh, .ref qlv, .int sa])), (qwh, .inl (cyZ, 64, .inl WH)), (qlv, .inl (cyZ, 64, .inl LV))] U.heap ∧ va_K (dC, dI) vwCl [(cyI, .int), (cyZ, .boolean)] U ∧ va_D (fun _ => True) [(q4, .inr (3, [.ref qd, .ref qc, .ref qt, .ref ql, .ref qn, .ref qe, .ref qr, .ref qz, .int fp])), (qd, .inr (1, [.ref qw, .int (bI on), .int lf, .int (nI dn)])), (qw, .inl (cyI, 512, .inl w)), (qc, .inr (0, [.ref qd, .ref qwh, .ref qlv, .int sa])), (qwh, .inl (cyZ, 64, .inl WH)), (qlv, .inl (cyZ, 64, .inl LV))])) (va_Qi (S := (Nat → Int32) × (Nat → Int32)) (fun (r : Int32) (uU : (Nat → Int32) × (Nat → Int32)) => match uU with | (WH1, LV1) => r = kNo w ky ∧ (∀ j, j < 64 → LV1 j = bI (kLive w j))) (fun (uU : (Nat → Int32) × (Nat → Int32)) tS => match uU with | (WH1, LV1) => va_P (dC, dI) vwCl [(q4, .inr (3, [.ref qd, .ref qc, .ref qt, .ref ql, .ref qn, .ref qe, .ref qr, .ref qz, .int fp])), (qd, .inr (1, [.ref qw, .int (bI on), .int lf, .int (nI dn)])), (qw, .inl (cyI, 512, .inl w)), (qc, .inr (0, [.ref qd, .ref qwh, .ref qlv, .int (nI dn)])), (qwh, .inl (cyZ, 64, .inl WH1)), (qlv, .inl (cyZ, 64, .inl LV1))] tS.heap ∧ va_K (dC, dI) vwCl [(cyI, .int), (cyZ, .boolean)] tS ∧ va_D (va_A [(q4, .inr (3, [.ref qd, .ref qc, .ref qt, .ref ql, .ref qn, .ref qe, .ref qr, .ref qz, .int fp])), (qd, .inr (1, [.ref qw, .int (bI on), .int lf, .int (nI dn)])), (qw, .inl (cyI, 512, .inl w)), (qc, .inr (0, [.ref qd, .ref qwh, .ref qlv, .int sa])), (qwh, .inl (cyZ, 64, .inl WH)), (qlv, .inl (cyZ, 64, .inl LV))] sz) [(q4, .inr (3, [.ref qd, .ref qc, .ref qt, .ref ql, .ref qn, .ref qe, .ref qr, .ref qz, .int fp])), (qd, .inr (1, [.ref qw, .int (bI on), .int lf, .int (nI dn)])), (qw, .inl (cyI, 512, .inl w)), (qc, .inr (0, [.ref qd, .ref qwh, .ref qlv, .int (nI dn)])), (qwh, .inl (cyZ, 64, .inl WH1)), (qlv, .inl (cyZ, 64, .inl LV1))]) (va_A [(q4, .inr (3, [.ref qd, .ref qc, .ref qt, .ref ql, .ref qn, .ref qe, .ref qr, .ref qz, .int fp])), (qd, .inr (1, [.ref qw, .int (bI on), .int lf, .int (nI dn)])), (qw, .inl (cyI, 512, .inl w)), (qc, .inr (0, [.ref qd, .ref qwh, .ref qlv, .int sa])), (qwh, .inl (cyZ, 64, .inl WH)), (qlv, .inl (cyZ, 64, .inl LV))] sz)) 0 0 (va_A [(q4, .inr (3, [.ref qd, .ref qc, .ref qt, .ref ql, .ref qn, .ref qe, .ref qr, .ref qz, .int fp])), (qd, .inr (1, [.ref qw, .int (bI on), .int lf, .int (nI dn)])), (qw, .inl (cyI, 512, .inl w)), (qc, .inr (0, [.ref qd, .ref qwh, .ref qlv, .int sa])), (qwh, .inl (cyZ, 64, .inl WH)), (qlv, .inl (cyZ, 64, .inl LV))] sz) := by
  refine Met.ofW (cc := cX4_number) (maxL := 3) (ret := (some .int)) (by decide) rfl ?_
  intro pz ez sS mM args below meth cC s₁ B hml hv
  obtain ⟨rfl, hsz, hP, hK, hD0⟩ := hv
  have hx := B.exec
  have hb := B.bytes
  have hr := B.returns
  have hts := atoms_spec (ws := wsX4_number) B.pre
  have hown : sS.vm.findClass RX4 = some mM.cls := findClass_of_methodNamed B.named
  have hlocks := B.notSynchronized
  subst hsz
  have hD := hD0.self (sz := sS.heap.size)
  generalize hAe : va_A [(q4, .inr (3, [.ref qd, .ref qc, .ref qt, .ref ql, .ref qn, .ref qe, .ref qr, .ref qz, .int fp])), (qd, .inr (1, [.ref qw, .int (bI on), .int lf, .int (nI dn)])), (qw, .inl (cyI, 512, .inl w)), (qc, .inr (0, [.ref qd, .ref qwh, .ref qlv, .int sa])), (qwh, .inl (cyZ, 64, .inl WH)), (qlv, .inl (cyZ, 64, .inl LV))] sS.heap.size = A at hD ⊢
  have hA : ∀ q : Nat, sS.heap.size ≤ q → A q := fun q h => by rw [← hAe]; exact Or.inr h
  have hS : va_S A sS.heap sS.heap [] := va_S.rf
  have hP : va_P (dC, dI) vwCl [(q4, .inr (3, [.ref qd, .ref qc, .ref qt, .ref ql, .ref qn, .ref qe, .ref qr, .ref qz, .int fp])), (qd, .inr (1, [.ref qw, .int (bI on), .int lf, .int (nI dn)])), (qw, .inl (cyI, 512, .inl w)), (qc, .inr (0, [.ref qd, .ref qwh, .ref qlv, .int sa])), (qwh, .inl (cyZ, 64, .inl WH)), (qlv, .inl (cyZ, 64, .inl LV))] sS.heap := hP
  have iwX4 : ∀ w ∈ wsX40, w ∈ wsX4_number := by decide +kernel
  have fk10 := hts (.fieldLink RX4 10 "CodedStore" "disk" "LCodedStore$Disk;") (by decide +kernel)
  have fk21 := hts (.fieldLink RX4 21 "CodedStore" "catalog" "LCodedStore$Catalog;") (by decide +kernel)
  have hl := lv_entry ([.ref q4, .int ky]) (n := 3) (Nat.le_of_ble_eq_true rfl)
  rw [lg_entry_eq]
  generalize (lg_sl ([.ref q4, .int ky]) ++ List.replicate (3 - (lg_sl ([.ref q4, .int ky])).length) Slot.unset).toArray = ls at hl ⊢
  have hl : lv_has ls 3 [(0, .ref q4), (1, .int ky)] := hl
  refine lv_aload_n hx hb dX4_number_0 rfl (lv_at hl 0 rfl) ?_
  have hPc := hP.sub (ws' := [(q4, .inr (3, [.ref qd, .ref qc, .ref qt, .ref ql, .ref qn, .ref qe, .ref qr, .ref qz, .int fp])), (qd, .inr (1, [.ref qw, .int (bI on), .int lf, .int (nI dn)])), (qw, .inl (cyI, 512, .inl w)), (qc, .inr (0, [.ref qd, .ref qwh, .ref qlv, .int sa])), (qwh, .inl (cyZ, 64, .inl WH)), (qlv, .inl (cyZ, 64, .inl LV))]) [0, 1, 2, 3, 4, 5] rfl
  have hKc := hK.sub (tys' := [(cyI, .int), (cyZ, .boolean)]) [0, 1] rfl
  have hDc := hD.sub (ws' := [(q4, .inr (3, [.ref qd, .ref qc, .ref qt, .ref ql, .ref qn, .ref qe, .ref qr, .ref qz, .int fp])), (qd, .inr (1, [.ref qw, .int (bI on), .int lf, .int (nI dn)])), (qw, .inl (cyI, 512, .inl w)), (qc, .inr (0, [.ref qd, .ref qwh, .ref qlv, .int sa])), (qwh, .inl (cyZ, 64, .inl WH)), (qlv, .inl (cyZ, 64, .inl LV))]) [0, 1, 2, 3, 4, 5] (by decide) rfl
  have hFc := va_free (wc := [(q4, .inr (3, [.ref qd, .ref qc, .ref qt, .ref ql, .ref qn, .ref qe, .ref qr, .ref qz, .int fp])), (qd, .inr (1, [.ref qw, .int (bI on), .int lf, .int (nI dn)])), (qw, .inl (cyI, 512, .inl w)), (qc, .inr (0, [.ref qd, .ref qwh, .ref qlv, .int sa])), (qwh, .inl (cyZ, 64, .inl WH)), (qlv, .inl (cyZ, 64, .inl LV))]) hD hS hA [0, 1, 2, 3, 4, 5] rfl
  refine va_callr (va_runV (As := []) (rest := []) ⟨hx, hb, hml, hown, hts⟩ (c_X4_surveyed l dC dI cyI cyZ q4 qd qw qc qwh qlv qt ql qn qe qr qz sS.heap.size w on lf dn WH LV sa fp (HS)) (cwV 0 hts gX4_number_X4_surveyed rfl rfl rfl (by decide +kernel) ⟨Nat.le_of_ble_eq_true rfl, Nat.le_of_ble_eq_true rfl⟩) ⟨zz_blW, va_recv hKc hPc (ci := 3) (q0 := 0) rfl rfl, fun U hU hW => ⟨rfl, by rw [hU], by rw [hU]; exact hPc, va_K.moved hW.alike hKc, hDc.weaken (fun _ _ _ _ => trivial)⟩⟩ rfl rfl hl.1 rfl (lv_room (Nat.le_of_ble_eq_true rfl)) dX4_number_1 ⟨Nat.zero_le _, Nat.zero_le _⟩) hS (fun q _ h => hFc q h) hFc (fun uU ra tS H1 locs ht9 hvm9 hw9 hB9 hz1 hk1 hS => ?_)
  obtain ⟨WH1_1, LV1_1⟩ := uU
  obtain ⟨e9r, hP1, hK1, hD1⟩ := hB9
  have e9r : qc = ra := e9r.symm
  subst e9r
  have hw9 : (∀ j, j < 64 → LV1_1 j = bI (kLive w j)) := hw9
  have HL_1 := hw9
  rw [ht9] at hP1
  have hK1 := va_K.moved hvm9.symm hK1
  obtain ⟨hP, hD⟩ := va_join (wr := []) (w1 := [(q4, .inr (3, [.ref qd, .ref qc, .ref qt, .ref ql, .ref qn, .ref qe, .ref qr, .ref qz, .int fp])), (qd, .inr (1, [.ref qw, .int (bI on), .int lf, .int (nI dn)])), (qw, .inl (cyI, 512, .inl w)), (qc, .inr (0, [.ref qd, .ref qwh, .ref qlv, .int (nI dn)])), (qwh, .inl (cyZ, 64, .inl WH1_1)), (qlv, .inl (cyZ, 64, .inl LV1_1))]) hP hD [0, 1, 2, 3, 4, 5] [] rfl rfl (by decide) (by decide) hk1 hFc hP1 hD1
  generalize H1 = H at hP hS ⊢
  have hP : va_P (dC, dI) vwCl [(q4, .inr (3, [.ref qd, .ref qc, .ref qt, .ref ql, .ref qn, .ref qe, .ref qr, .ref qz, .int fp])), (qd, .inr (1, [.ref qw, .int (bI on), .int lf, .int (nI dn)])), (qw, .inl (cyI, 512, .inl w)), (qc, .inr (0, [.ref qd, .ref qwh, .ref qlv, .int (nI dn)])), (qwh, .inl (cyZ, 64, .inl WH1_1)), (qlv, .inl (cyZ, 64, .inl LV1_1))] H := hP
  have hD : va_D A [(q4, .inr (3, [.ref qd, .ref qc, .ref qt, .ref ql, .ref qn, .ref qe, .ref qr, .ref qz, .int fp])), (qd, .inr (1, [.ref qw, .int (bI on), .int lf, .int (nI dn)])), (qw, .inl (cyI, 512, .inl w)), (qc, .inr (0, [.ref qd, .ref qwh, .ref qlv, .int (nI dn)])), (qwh, .inl (cyZ, 64, .inl WH1_1)), (qlv, .inl (cyZ, 64, .inl LV1_1))] := hD
  refine lv_iload_n hx hb dX4_number_4 rfl (lv_at hl 1 rfl) ?_
  have hPc := hP.sub (ws' := [(qc, .inr (0, [.ref qd, .ref qwh, .ref qlv, .int (nI dn)])), (qwh, .inl (cyZ, 64, .inl WH1_1)), (qlv, .inl (cyZ, 64, .inl LV1_1)), (qd, .inr (1, [.ref qw, .int (bI on), .int lf, .int (nI dn)])), (qw, .inl (cyI, 512, .inl w))]) [3, 4, 5, 1, 2] rfl
  have hKc := hK.sub (tys' := [(cyI, .int), (cyZ, .boolean)]) [0, 1] rfl
  refine vp_callSi (va_Run.run (va_runV (As := [.int ky]) (rest := []) ⟨hx, hb, hml, hown, hts⟩ (c_X0_firstBlock l dC dI cyI cyZ qc qwh qlv qd qw WH1_1 LV1_1 (nI dn) w on lf dn (kLive w) ky (HL_1)) (cwV 1 hts gX4_number_X0_firstBlock rfl rfl rfl (by decide +kernel) ⟨Nat.le_of_ble_eq_true rfl, Nat.le_of_ble_eq_true rfl⟩) ⟨zz_blR, va_recv hKc hPc (ci := 0) (q0 := 0) rfl rfl, fun U hU hW => ⟨rfl, by rw [hU]; exact hPc, va_K.moved hW.alike hKc⟩⟩ rfl rfl hl.1 rfl (lv_room (Nat.le_of_ble_eq_true rfl)) dX4_number_5 ⟨Nat.zero_le _, Nat.zero_le _⟩)) (fun r_5 hr_5 => ?_)
  have hr_5 : zFI (zFst (kIs (kLive w) w ky) 64) 64 = r_5 := Eq.symm hr_5
  subst hr_5
  by_cases hf : zFst (kIs (kLive w) w ky) 64 < 64
  ·
    refine zz_top (zFI_t hf) ?_
    refine lv_istore_n (lv' := [(2, .int (nI (zFst (kIs (kLive w) w ky) 64))), (0, .ref q4), (1, .int ky)]) hx hb dX4_number_8 rfl hl (by decide) rfl (fun ls hl => ?_)
    refine lv_iload_n hx hb dX4_number_9 rfl (lv_at hl 0 rfl) ?_
    refine lv_iconst (v := (-1)) hx hb dX4_number_10 (by decide) ?_
    refine lv_icmp_ne (tgt := 17) hx hb dX4_number_11 (by decide) (fun c_11 => ?_) (fun c_11 => absurd c_11 (nI_nm1 (by omega)))
    refine lv_aload_n hx hb dX4_number_17 rfl (lv_at hl 1 rfl) ?_
    refine va_get (D := (dC, dI)) (ci := 3) (v := .ref qc) (C := RX4) (T := TX4) (N := 9) hx hb hts iwX4 hown hK hP 0 rfl rfl 1 (by decide) fk21 (fun _ h9 => h9) rfl dX4_number_18 ?_
    refine lv_iload_n hx hb dX4_number_21 rfl (lv_at hl 0 rfl) ?_
    have hPc := hP.sub (ws' := [(qc, .inr (0, [.ref qd, .ref qwh, .ref qlv, .int (nI dn)])), (qwh, .inl (cyZ, 64, .inl WH1_1)), (qlv, .inl (cyZ, 64, .inl LV1_1)), (qd, .inr (1, [.ref qw, .int (bI on), .int lf, .int (nI dn)])), (qw, .inl (cyI, 512, .inl w))]) [3, 4, 5, 1, 2] rfl
    have hKc := hK.sub (tys' := [(cyI, .int), (cyZ, .boolean)]) [0, 1] rfl
    refine vp_callSi (va_Run.run (va_runV (As := [.int (nI (zFst (kIs (kLive w) w ky) 64))]) (rest := []) ⟨hx, hb, hml, hown, hts⟩ (c_X0_isText l dC dI cyI cyZ qc qwh qlv qd qw WH1_1 LV1_1 (nI dn) w on lf dn (kLive w) (zFst (kIs (kLive w) w ky) 64) (hf) (HL_1)) (cwV 1 hts gX4_number_X0_isText rfl rfl rfl (by decide +kernel) ⟨Nat.le_of_ble_eq_true rfl, Nat.le_of_ble_eq_true rfl⟩) ⟨zz_blR, va_recv hKc hPc (ci := 0) (q0 := 0) rfl rfl, fun U hU hW => ⟨rfl, by rw [hU]; exact hPc, va_K.moved hW.alike hKc⟩⟩ rfl rfl hl.1 rfl (lv_room (Nat.le_of_ble_eq_true rfl)) dX4_number_22 ⟨Nat.zero_le _, Nat.zero_le _⟩)) (fun r_22 hr_22 => ?_)
    have hr_22 : bI (kText (kLive w) w (zFst (kIs (kLive w) w ky) 64)) = r_22 := Eq.symm hr_22
    subst hr_22
    refine zb_if_eq (tgt := 39) hx hb dX4_number_25 (by decide) (fun c_25 => ?_) (fun c_25 => ?_)
    ·
      refine lv_aload_n hx hb dX4_number_39 rfl (lv_at hl 1 rfl) ?_
      refine va_get (D := (dC, dI)) (ci := 3) (v := .ref qd) (C := RX4) (T := TX4) (N := 9) hx hb hts iwX4 hown hK hP 0 rfl rfl 0 (by decide) fk10 (fun _ h9 => h9) rfl dX4_number_40 ?_
      refine lv_iload_n hx hb dX4_number_43 rfl (lv_at hl 0 rfl) ?_
      have hPc := hP.sub (ws' := [(qd, .inr (1, [.ref qw, .int (bI on), .int lf, .int (nI dn)])), (qw, .inl (cyI, 512, .inl w))]) [1, 2] rfl
      have hKc := hK.sub (tys' := [(cyI, .int), (cyZ, .boolean)]) [0, 1] rfl
      refine vp_callSi (va_Run.run (va_runV (As := [.int (nI (zFst (kIs (kLive w) w ky) 64))]) (rest := []) ⟨hx, hb, hml, hown, hts⟩ (c_X2_numberOf l dC dI cyI cyZ qd qw w on lf dn (zFst (kIs (kLive w) w ky) 64) (hf)) (cwV 1 hts gX4_number_X2_numberOf rfl rfl rfl (by decide +kernel) ⟨Nat.le_of_ble_eq_true rfl, Nat.le_of_ble_eq_true rfl⟩) ⟨zz_blR, va_recv hKc hPc (ci := 1) (q0 := 0) rfl rfl, fun U hU hW => ⟨rfl, by rw [hU]; exact hPc, va_K.moved hW.alike hKc⟩⟩ rfl rfl hl.1 rfl (lv_room (Nat.le_of_ble_eq_true rfl)) dX4_number_44 ⟨Nat.zero_le _, Nat.zero_le _⟩)) (fun r_44 hr_44 => ?_)
      have hr_44 : kNum w (zFst (kIs (kLive w) w ky) 64) = r_44 := Eq.symm hr_44
      subst hr_44
      refine lv_ineg hx hb dX4_number_47 ?_
      have hP9 := hP.sub (ws' := [(q4, .inr (3, [.ref qd, .ref qc, .ref qt, .ref ql, .ref qn, .ref qe, .ref qr, .ref qz, .int fp])), (qd, .inr (1, [.ref qw, .int (bI on), .int lf, .int (nI dn)])), (qw, .inl (cyI, 512, .inl w)), (qc, .inr (0, [.ref qd, .ref qwh, .ref qlv, .int (nI dn)])), (qwh, .inl (cyZ, 64, .inl WH1_1)), (qlv, .inl (cyZ, 64, .inl LV1_1))]) [0, 1, 2, 3, 4, 5] rfl
      have hD9 := hD.sub (ws' := [(q4, .inr (3, [.ref qd, .ref qc, .ref qt, .ref ql, .ref qn, .ref qe, .ref qr, .ref qz, .int fp])), (qd, .inr (1, [.ref qw, .int (bI on), .int lf, .int (nI dn)])), (qw, .inl (cyI, 512, .inl w)), (qc, .inr (0, [.ref qd, .ref qwh, .ref qlv, .int (nI dn)])), (qwh, .inl (cyZ, 64, .inl WH1_1)), (qlv, .inl (cyZ, 64, .inl LV1_1))]) [0, 1, 2, 3, 4, 5] (by decide) rfl
      have hK9 := hK.sub (tys' := [(cyI, .int), (cyZ, .boolean)]) [0, 1] rfl
      have hret : (-(kNum w (zFst (kIs (kLive w) w ky) 64)) : Int32) = kNo w ky := by first | exact (kNo_t hf c_25).symm | exact (kNo_g hf c_25).symm
      refine zz_top hret ?_
      exact W.iret hx hb hr (fun tS ht hW => ⟨⟨_, (WH1_1, LV1_1), rfl, ⟨rfl, HL_1⟩, by rw [ht]; exact hP9, va_K.moved hW.alike hK9, hD9⟩, hS.F ht⟩) hS.2.2 dX4_number_48
    ·
      refine lv_aload_n hx hb dX4_number_28 rfl (lv_at hl 1 rfl) ?_
      refine va_get (D := (dC, dI)) (ci := 3) (v := .ref qd) (C := RX4) (T := TX4) (N := 9) hx hb hts iwX4 hown hK hP 0 rfl rfl 0 (by decide) fk10 (fun _ h9 => h9) rfl dX4_number_29 ?_
      refine lv_iload_n hx hb dX4_number_32 rfl (lv_at hl 0 rfl) ?_
      have hPc := hP.sub (ws' := [(qd, .inr (1, [.ref qw, .int (bI on), .int lf, .int (nI dn)])), (qw, .inl (cyI, 512, .inl w))]) [1, 2] rfl
      have hKc := hK.sub (tys' := [(cyI, .int), (cyZ, .boolean)]) [0, 1] rfl
      refine vp_callSi (va_Run.run (va_runV (As := [.int (nI (zFst (kIs (kLive w) w ky) 64))]) (rest := []) ⟨hx, hb, hml, hown, hts⟩ (c_X2_numberOf l dC dI cyI cyZ qd qw w on lf dn (zFst (kIs (kLive w) w ky) 64) (hf)) (cwV 1 hts gX4_number_X2_numberOf rfl rfl rfl (by decide +kernel) ⟨Nat.le_of_ble_eq_true rfl, Nat.le_of_ble_eq_true rfl⟩) ⟨zz_blR, va_recv hKc hPc (ci := 1) (q0 := 0) rfl rfl, fun U hU hW => ⟨rfl, by rw [hU]; exact hPc, va_K.moved hW.alike hKc⟩⟩ rfl rfl hl.1 rfl (lv_room (Nat.le_of_ble_eq_true rfl)) dX4_number_33 ⟨Nat.zero_le _, Nat.zero_le _⟩)) (fun r_33 hr_33 => ?_)
      have hr_33 : kNum w (zFst (kIs (kLive w) w ky) 64) = r_33 := Eq.symm hr_33
      subst hr_33
      refine lv_goto (tgt := 48) hx hb dX4_number_36 (by decide) ?_
      have hP9 := hP.sub (ws' := [(q4, .inr (3, [.ref qd, .ref qc, .ref qt, .ref ql, .ref qn, .ref qe, .ref qr, .ref qz, .int fp])), (qd, .inr (1, [.ref qw, .int (bI on), .int lf, .int (nI dn)])), (qw, .inl (cyI, 512, .inl w)), (qc, .inr (0, [.ref qd, .ref qwh, .ref qlv, .int (nI dn)])), (qwh, .inl (cyZ, 64, .inl WH1_1)), (qlv, .inl (cyZ, 64, .inl LV1_1))]) [0, 1, 2, 3, 4, 5] rfl
      have hD9 := hD.sub (ws' := [(q4, .inr (3, [.ref qd, .ref qc, .ref qt, .ref ql, .ref qn, .ref qe, .ref qr, .ref qz, .int fp])), (qd, .inr (1, [.ref qw, .int (bI on), .int lf, .int (nI dn)])), (qw, .inl (cyI, 512, .inl w)), (qc, .inr (0, [.ref qd, .ref qwh, .ref qlv, .int (nI dn)])), (qwh, .inl (cyZ, 64, .inl WH1_1)), (qlv, .inl (cyZ, 64, .inl LV1_1))]) [0, 1, 2, 3, 4, 5] (by decide) rfl
      have hK9 := hK.sub (tys' := [(cyI, .int), (cyZ, .boolean)]) [0, 1] rfl
      have hret : (kNum w (zFst (kIs (kLive w) w ky) 64) : Int32) = kNo w ky := by first | exact (kNo_t hf c_25).symm | exact (kNo_g hf c_25).symm
      refine zz_top hret ?_
      exact W.iret hx hb hr (fun tS ht hW => ⟨⟨_, (WH1_1, LV1_1), rfl, ⟨rfl, HL_1⟩, by rw [ht]; exact hP9, va_K.moved hW.alike hK9, hD9⟩, hS.F ht⟩) hS.2.2 dX4_number_48
  ·
    refine zz_top (zFI_f hf) ?_
    refine lv_istore_n (lv' := [(2, .int (-1)), (0, .ref q4), (1, .int ky)]) hx hb dX4_number_8 rfl hl (by decide) rfl (fun ls hl => ?_)
    refine lv_iload_n hx hb dX4_number_9 rfl (lv_at hl 0 rfl) ?_
    refine lv_iconst (v := (-1)) hx hb dX4_number_10 (by decide) ?_
    refine lv_icmp_ne (tgt := 17) hx hb dX4_number_11 (by decide) (fun c_11 => absurd rfl c_11) (fun c_11 => ?_)
    refine lv_bipush (v := (-2)) hx hb dX4_number_14 (by decide) ?_
    have hP9 := hP.sub (ws' := [(q4, .inr (3, [.ref qd, .ref qc, .ref qt, .ref ql, .ref qn, .ref qe, .ref qr, .ref qz, .int fp])), (qd, .inr (1, [.ref qw, .int (bI on), .int lf, .int (nI dn)])), (qw, .inl (cyI, 512, .inl w)), (qc, .inr (0, [.ref qd, .ref qwh, .ref qlv, .int (nI dn)])), (qwh, .inl (cyZ, 64, .inl WH1_1)), (qlv, .inl (cyZ, 64, .inl LV1_1))]) [0, 1, 2, 3, 4, 5] rfl
    have hD9 := hD.sub (ws' := [(q4, .inr (3, [.ref qd, .ref qc, .ref qt, .ref ql, .ref qn, .ref qe, .ref qr, .ref qz, .int fp])), (qd, .inr (1, [.ref qw, .int (bI on), .int lf, .int (nI dn)])), (qw, .inl (cyI, 512, .inl w)), (qc, .inr (0, [.ref qd, .ref qwh, .ref qlv, .int (nI dn)])), (qwh, .inl (cyZ, 64, .inl WH1_1)), (qlv, .inl (cyZ, 64, .inl LV1_1))]) [0, 1, 2, 3, 4, 5] (by decide) rfl
    have hK9 := hK.sub (tys' := [(cyI, .int), (cyZ, .boolean)]) [0, 1] rfl
    have hret : ((-2) : Int32) = kNo w ky := (kNo_0 hf).symm
    refine zz_top hret ?_
    exact W.iret hx hb hr (fun tS ht hW => ⟨⟨_, (WH1_1, LV1_1), rfl, ⟨rfl, HL_1⟩, by rw [ht]; exact hP9, va_K.moved hW.alike hK9, hD9⟩, hS.F ht⟩) hS.2.2 dX4_number_16
set_option maxHeartbeats 4000000 in
set_option maxRecDepth 100000 in
theorem c_X4_key (l : Launch) (dC : Nat → ClassId) (dI : Nat → Nat → Nat) (cyI cyZ : ClassId) (q4 qd qw qc qwh qlv qt ql qn qe qr qz : Nat) (sz : Nat) (w : Nat → Int32) (on : Bool) (lf : Int32) (dn : Nat) (WH LV : Nat → Int32) (sa : Int32) (fp : Int32) (rk : Int32) (HS : sa = nI dn → ∀ j, j < 64 → LV j = bI (kLive w j)) : Met l yX4_key wsX4_key ({ frames := 5, cells := 0, slots := 0, locals := 109 }) (va_Pc [.ref q4, .int rk] (fun U => U.heap.size = sz ∧ va_P (dC, dI) vwCl [(q4, .inr (3, [.ref qd, .ref qc, .ref qt, .ref ql, .ref qn, .ref qe, .ref qr, .ref qz, .int fp])), (qd, .inr (1, [.ref qw, .int (bI on), .int lf, .int (nI dn)])), (qw, .inl (cyI, 512, .inl w)), (qc, .inr (0, [.ref qd, .ref qwh, .ref qlv, .int sa])), (qwh, .inl (cyZ, 64, .inl WH)), (qlv, .inl (cyZ, 64, .inl LV))] U.heap ∧ va_K (dC, dI) vwCl [(cyI, .int), (cyZ, .boolean)] U ∧ va_D (fun _ => True) [(q4, .inr (3, [.ref qd, .ref qc, .ref qt, .ref ql, .ref qn, .ref qe, .ref qr, .ref qz, .int fp])), (qd, .inr (1, [.ref qw, .int (bI on), .int lf, .int (nI dn)])), (qw, .inl (cyI, 512, .inl w)), (qc, .inr (0, [.ref qd, .ref qwh, .ref qlv, .int sa])), (qwh, .inl (cyZ, 64, .inl WH)), (qlv, .inl (cyZ, 64, .inl LV))])) (va_Qi (S := (Nat → Int32) × (Nat → Int32)) (fun (r : Int32) (uU : (Nat → Int32) × (Nat → Int32)) => match uU with | (WH1, LV1) => r = kKth w rk ∧ (∀ j, j < 64 → LV1 j = bI (kLive w j))) (fun (uU : (Nat → Int32) × (Nat → Int32)) tS => match uU with | (WH1, LV1) => va_P (dC, dI) vwCl [(q4, .inr (3, [.ref qd, .ref qc, .ref qt, .ref ql, .ref qn, .ref qe, .ref qr, .ref qz, .int fp])), (qd, .inr (1, [.ref qw, .int (bI on), .int lf, .int (nI dn)])), (qw, .inl (cyI, 512, .inl w)), (qc, .inr (0, [.ref qd, .ref qwh, .ref qlv, .int (nI dn)])), (qwh, .inl (cyZ, 64, .inl WH1)), (qlv, .inl (cyZ, 64, .inl LV1))] tS.heap ∧ va_K (dC, dI) vwCl [(cyI, .int), (cyZ, .boolean)] tS ∧ va_D (va_A [(q4, .inr (3, [.ref qd, .ref qc, .ref qt, .ref ql, .ref qn, .ref qe, .ref qr, .ref qz, .int fp])), (qd, .inr (1, [.ref qw, .int (bI on), .int lf, .int (nI dn)])), (qw, .inl (cyI, 512, .inl w)), (qc, .inr (0, [.ref qd, .ref qwh, .ref qlv, .int sa])), (qwh, .inl (cyZ, 64, .inl WH)), (qlv, .inl (cyZ, 64, .inl LV))] sz) [(q4, .inr (3, [.ref qd, .ref qc, .ref qt, .ref ql, .ref qn, .ref qe, .ref qr, .ref qz, .int fp])), (qd, .inr (1, [.ref qw, .int (bI on), .int lf, .int (nI dn)])), (qw, .inl (cyI, 512, .inl w)), (qc, .inr (0, [.ref qd, .ref qwh, .ref qlv, .int (nI dn)])), (qwh, .inl (cyZ, 64, .inl WH1)), (qlv, .inl (cyZ, 64, .inl LV1))]) (va_A [(q4, .inr (3, [.ref qd, .ref qc, .ref qt, .ref ql, .ref qn, .ref qe, .ref qr, .ref qz, .int fp])), (qd, .inr (1, [.ref qw, .int (bI on), .int lf, .int (nI dn)])), (qw, .inl (cyI, 512, .inl w)), (qc, .inr (0, [.ref qd, .ref qwh, .ref qlv, .int sa])), (qwh, .inl (cyZ, 64, .inl WH)), (qlv, .inl (cyZ, 64, .inl LV))] sz)) 0 0 (va_A [(q4, .inr (3, [.ref qd, .ref qc, .ref qt, .ref ql, .ref qn, .ref qe, .ref qr, .ref qz, .int fp])), (qd, .inr (1, [.ref qw, .int (bI on), .int lf, .int (nI dn)])), (qw, .inl (cyI, 512, .inl w)), (qc, .inr (0, [.ref qd, .ref qwh, .ref qlv, .int sa])), (qwh, .inl (cyZ, 64, .inl WH)), (qlv, .inl (cyZ, 64, .inl LV))] sz) := by
  refine Met.ofW (cc := cX4_key) (maxL := 3) (ret := (some .int)) (by decide) rfl ?_
  intro pz ez sS mM args below meth cC s₁ B hml hv
  obtain ⟨rfl, hsz, hP, hK, hD0⟩ := hv
  have hx := B.exec
  have hb := B.bytes
  have hr := B.returns
  have hts := atoms_spec (ws := wsX4_key) B.pre
  have hown : sS.vm.findClass RX4 = some mM.cls := findClass_of_methodNamed B.named
  have hlocks := B.notSynchronized
  subst hsz
  have hD := hD0.self (sz := sS.heap.size)
  generalize hAe : va_A [(q4, .inr (3, [.ref qd, .ref qc, .ref qt, .ref ql, .ref qn, .ref qe, .ref qr, .ref qz, .int fp])), (qd, .inr (1, [.ref qw, .int (bI on), .int lf, .int (nI dn)])), (qw, .inl (cyI, 512, .inl w)), (qc, .inr (0, [.ref qd, .ref qwh, .ref qlv, .int sa])), (qwh, .inl (cyZ, 64, .inl WH)), (qlv, .inl (cyZ, 64, .inl LV))] sS.heap.size = A at hD ⊢
  have hA : ∀ q : Nat, sS.heap.size ≤ q → A q := fun q h => by rw [← hAe]; exact Or.inr h
  have hS : va_S A sS.heap sS.heap [] := va_S.rf
  have hP : va_P (dC, dI) vwCl [(q4, .inr (3, [.ref qd, .ref qc, .ref qt, .ref ql, .ref qn, .ref qe, .ref qr, .ref qz, .int fp])), (qd, .inr (1, [.ref qw, .int (bI on), .int lf, .int (nI dn)])), (qw, .inl (cyI, 512, .inl w)), (qc, .inr (0, [.ref qd, .ref qwh, .ref qlv, .int sa])), (qwh, .inl (cyZ, 64, .inl WH)), (qlv, .inl (cyZ, 64, .inl LV))] sS.heap := hP
  have iwX4 : ∀ w ∈ wsX40, w ∈ wsX4_key := by decide +kernel
  have fk10 := hts (.fieldLink RX4 10 "CodedStore" "disk" "LCodedStore$Disk;") (by decide +kernel)
  have hl := lv_entry ([.ref q4, .int rk]) (n := 3) (Nat.le_of_ble_eq_true rfl)
  rw [lg_entry_eq]
  generalize (lg_sl ([.ref q4, .int rk]) ++ List.replicate (3 - (lg_sl ([.ref q4, .int rk])).length) Slot.unset).toArray = ls at hl ⊢
  have hl : lv_has ls 3 [(0, .ref q4), (1, .int rk)] := hl
  refine lv_aload_n hx hb dX4_key_0 rfl (lv_at hl 0 rfl) ?_
  have hPc := hP.sub (ws' := [(q4, .inr (3, [.ref qd, .ref qc, .ref qt, .ref ql, .ref qn, .ref qe, .ref qr, .ref qz, .int fp])), (qd, .inr (1, [.ref qw, .int (bI on), .int lf, .int (nI dn)])), (qw, .inl (cyI, 512, .inl w)), (qc, .inr (0, [.ref qd, .ref qwh, .ref qlv, .int sa])), (qwh, .inl (cyZ, 64, .inl WH)), (qlv, .inl (cyZ, 64, .inl LV))]) [0, 1, 2, 3, 4, 5] rfl
  have hKc := hK.sub (tys' := [(cyI, .int), (cyZ, .boolean)]) [0, 1] rfl
  have hDc := hD.sub (ws' := [(q4, .inr (3, [.ref qd, .ref qc, .ref qt, .ref ql, .ref qn, .ref qe, .ref qr, .ref qz, .int fp])), (qd, .inr (1, [.ref qw, .int (bI on), .int lf, .int (nI dn)])), (qw, .inl (cyI, 512, .inl w)), (qc, .inr (0, [.ref qd, .ref qwh, .ref qlv, .int sa])), (qwh, .inl (cyZ, 64, .inl WH)), (qlv, .inl (cyZ, 64, .inl LV))]) [0, 1, 2, 3, 4, 5] (by decide) rfl
  have hFc := va_free (wc := [(q4, .inr (3, [.ref qd, .ref qc, .ref qt, .ref ql, .ref qn, .ref qe, .ref qr, .ref qz, .int fp])), (qd, .inr (1, [.ref qw, .int (bI on), .int lf, .int (nI dn)])), (qw, .inl (cyI, 512, .inl w)), (qc, .inr (0, [.ref qd, .ref qwh, .ref qlv, .int sa])), (qwh, .inl (cyZ, 64, .inl WH)), (qlv, .inl (cyZ, 64, .inl LV))]) hD hS hA [0, 1, 2, 3, 4, 5] rfl
  refine va_callr (va_runV (As := []) (rest := []) ⟨hx, hb, hml, hown, hts⟩ (c_X4_surveyed l dC dI cyI cyZ q4 qd qw qc qwh qlv qt ql qn qe qr qz sS.heap.size w on lf dn WH LV sa fp (HS)) (cwV 0 hts gX4_key_X4_surveyed rfl rfl rfl (by decide +kernel) ⟨Nat.le_of_ble_eq_true rfl, Nat.le_of_ble_eq_true rfl⟩) ⟨zz_blW, va_recv hKc hPc (ci := 3) (q0 := 0) rfl rfl, fun U hU hW => ⟨rfl, by rw [hU], by rw [hU]; exact hPc, va_K.moved hW.alike hKc, hDc.weaken (fun _ _ _ _ => trivial)⟩⟩ rfl rfl hl.1 rfl (lv_room (Nat.le_of_ble_eq_true rfl)) dX4_key_1 ⟨Nat.zero_le _, Nat.zero_le _⟩) hS (fun q _ h => hFc q h) hFc (fun uU ra tS H1 locs ht9 hvm9 hw9 hB9 hz1 hk1 hS => ?_)
  obtain ⟨WH1_1, LV1_1⟩ := uU
  obtain ⟨e9r, hP1, hK1, hD1⟩ := hB9
  have e9r : qc = ra := e9r.symm
  subst e9r
  have hw9 : (∀ j, j < 64 → LV1_1 j = bI (kLive w j)) := hw9
  have HL_1 := hw9
  rw [ht9] at hP1
  have hK1 := va_K.moved hvm9.symm hK1
  obtain ⟨hP, hD⟩ := va_join (wr := []) (w1 := [(q4, .inr (3, [.ref qd, .ref qc, .ref qt, .ref ql, .ref qn, .ref qe, .ref qr, .ref qz, .int fp])), (qd, .inr (1, [.ref qw, .int (bI on), .int lf, .int (nI dn)])), (qw, .inl (cyI, 512, .inl w)), (qc, .inr (0, [.ref qd, .ref qwh, .ref qlv, .int (nI dn)])), (qwh, .inl (cyZ, 64, .inl WH1_1)), (qlv, .inl (cyZ, 64, .inl LV1_1))]) hP hD [0, 1, 2, 3, 4, 5] [] rfl rfl (by decide) (by decide) hk1 hFc hP1 hD1
  generalize H1 = H at hP hS ⊢
  have hP : va_P (dC, dI) vwCl [(q4, .inr (3, [.ref qd, .ref qc, .ref qt, .ref ql, .ref qn, .ref qe, .ref qr, .ref qz, .int fp])), (qd, .inr (1, [.ref qw, .int (bI on), .int lf, .int (nI dn)])), (qw, .inl (cyI, 512, .inl w)), (qc, .inr (0, [.ref qd, .ref qwh, .ref qlv, .int (nI dn)])), (qwh, .inl (cyZ, 64, .inl WH1_1)), (qlv, .inl (cyZ, 64, .inl LV1_1))] H := hP
  have hD : va_D A [(q4, .inr (3, [.ref qd, .ref qc, .ref qt, .ref ql, .ref qn, .ref qe, .ref qr, .ref qz, .int fp])), (qd, .inr (1, [.ref qw, .int (bI on), .int lf, .int (nI dn)])), (qw, .inl (cyI, 512, .inl w)), (qc, .inr (0, [.ref qd, .ref qwh, .ref qlv, .int (nI dn)])), (qwh, .inl (cyZ, 64, .inl WH1_1)), (qlv, .inl (cyZ, 64, .inl LV1_1))] := hD
  refine lv_iload_n hx hb dX4_key_4 rfl (lv_at hl 1 rfl) ?_
  have hPc := hP.sub (ws' := [(qc, .inr (0, [.ref qd, .ref qwh, .ref qlv, .int (nI dn)])), (qwh, .inl (cyZ, 64, .inl WH1_1)), (qlv, .inl (cyZ, 64, .inl LV1_1)), (qd, .inr (1, [.ref qw, .int (bI on), .int lf, .int (nI dn)])), (qw, .inl (cyI, 512, .inl w))]) [3, 4, 5, 1, 2] rfl
  have hKc := hK.sub (tys' := [(cyI, .int), (cyZ, .boolean)]) [0, 1] rfl
  refine vp_callSi (va_Run.run (va_runV (As := [.int rk]) (rest := []) ⟨hx, hb, hml, hown, hts⟩ (c_X0_firstBlockOfRank l dC dI cyI cyZ qc qwh qlv qd qw WH1_1 LV1_1 (nI dn) w on lf dn (kLive w) rk (HL_1)) (cwV 1 hts gX4_key_X0_firstBlockOfRank rfl rfl rfl (by decide +kernel) ⟨Nat.le_of_ble_eq_true rfl, Nat.le_of_ble_eq_true rfl⟩) ⟨zz_blR, va_recv hKc hPc (ci := 0) (q0 := 0) rfl rfl, fun U hU hW => ⟨rfl, by rw [hU]; exact hPc, va_K.moved hW.alike hKc⟩⟩ rfl rfl hl.1 rfl (lv_room (Nat.le_of_ble_eq_true rfl)) dX4_key_5 ⟨Nat.zero_le _, Nat.zero_le _⟩)) (fun r_5 hr_5 => ?_)
  have hr_5 : zFI (zFst (kRank (kLive w) w rk) 64) 64 = r_5 := Eq.symm hr_5
  subst hr_5
  by_cases hf : zFst (kRank (kLive w) w rk) 64 < 64
  ·
    refine zz_top (zFI_t hf) ?_
    refine lv_istore_n (lv' := [(2, .int (nI (zFst (kRank (kLive w) w rk) 64))), (0, .ref q4), (1, .int rk)]) hx hb dX4_key_8 rfl hl (by decide) rfl (fun ls hl => ?_)
    refine lv_iload_n hx hb dX4_key_9 rfl (lv_at hl 0 rfl) ?_
    refine lv_iconst (v := (-1)) hx hb dX4_key_10 (by decide) ?_
    refine lv_icmp_ne (tgt := 18) hx hb dX4_key_11 (by decide) (fun c_11 => ?_) (fun c_11 => absurd c_11 (nI_nm1 (by omega)))
    refine lv_aload_n hx hb dX4_key_18 rfl (lv_at hl 1 rfl) ?_
    refine va_get (D := (dC, dI)) (ci := 3) (v := .ref qd) (C := RX4) (T := TX4) (N := 9) hx hb hts iwX4 hown hK hP 0 rfl rfl 0 (by decide) fk10 (fun _ h9 => h9) rfl dX4_key_19 ?_
    refine lv_iload_n hx hb dX4_key_22 rfl (lv_at hl 0 rfl) ?_
    have hPc := hP.sub (ws' := [(qd, .inr (1, [.ref qw, .int (bI on), .int lf, .int (nI dn)])), (qw, .inl (cyI, 512, .inl w))]) [1, 2] rfl
    have hKc := hK.sub (tys' := [(cyI, .int), (cyZ, .boolean)]) [0, 1] rfl
    refine vp_callSi (va_Run.run (va_runV (As := [.int (nI (zFst (kRank (kLive w) w rk) 64))]) (rest := []) ⟨hx, hb, hml, hown, hts⟩ (c_X2_keyOf l dC dI cyI cyZ qd qw w on lf dn (zFst (kRank (kLive w) w rk) 64) (hf)) (cwV 1 hts gX4_key_X2_keyOf rfl rfl rfl (by decide +kernel) ⟨Nat.le_of_ble_eq_true rfl, Nat.le_of_ble_eq_true rfl⟩) ⟨zz_blR, va_recv hKc hPc (ci := 1) (q0 := 0) rfl rfl, fun U hU hW => ⟨rfl, by rw [hU]; exact hPc, va_K.moved hW.alike hKc⟩⟩ rfl rfl hl.1 rfl (lv_room (Nat.le_of_ble_eq_true rfl)) dX4_key_23 ⟨Nat.zero_le _, Nat.zero_le _⟩)) (fun r_23 hr_23 => ?_)
    have hr_23 : kKey w (zFst (kRank (kLive w) w rk) 64) = r_23 := Eq.symm hr_23
    subst hr_23
    have hP9 := hP.sub (ws' := [(q4, .inr (3, [.ref qd, .ref qc, .ref qt, .ref ql, .ref qn, .ref qe, .ref qr, .ref qz, .int fp])), (qd, .inr (1, [.ref qw, .int (bI on), .int lf, .int (nI dn)])), (qw, .inl (cyI, 512, .inl w)), (qc, .inr (0, [.ref qd, .ref qwh, .ref qlv, .int (nI dn)])), (qwh, .inl (cyZ, 64, .inl WH1_1)), (qlv, .inl (cyZ, 64, .inl LV1_1))]) [0, 1, 2, 3, 4, 5] rfl
    have hD9 := hD.sub (ws' := [(q4, .inr (3, [.ref qd, .ref qc, .ref qt, .ref ql, .ref qn, .ref qe, .ref qr, .ref qz, .int fp])), (qd, .inr (1, [.ref qw, .int (bI on), .int lf, .int (nI dn)])), (qw, .inl (cyI, 512, .inl w)), (qc, .inr (0, [.ref qd, .ref qwh, .ref qlv, .int (nI dn)])), (qwh, .inl (cyZ, 64, .inl WH1_1)), (qlv, .inl (cyZ, 64, .inl LV1_1))]) [0, 1, 2, 3, 4, 5] (by decide) rfl
    have hK9 := hK.sub (tys' := [(cyI, .int), (cyZ, .boolean)]) [0, 1] rfl
    have hret : (kKey w (zFst (kRank (kLive w) w rk) 64) : Int32) = kKth w rk := by first | exact (kRank_at hf).symm | exact (kRank_no hf).symm
    refine zz_top hret ?_
    exact W.iret hx hb hr (fun tS ht hW => ⟨⟨_, (WH1_1, LV1_1), rfl, ⟨rfl, HL_1⟩, by rw [ht]; exact hP9, va_K.moved hW.alike hK9, hD9⟩, hS.F ht⟩) hS.2.2 dX4_key_26
  ·
    refine zz_top (zFI_f hf) ?_
    refine lv_istore_n (lv' := [(2, .int (-1)), (0, .ref q4), (1, .int rk)]) hx hb dX4_key_8 rfl hl (by decide) rfl (fun ls hl => ?_)
    refine lv_iload_n hx hb dX4_key_9 rfl (lv_at hl 0 rfl) ?_
    refine lv_iconst (v := (-1)) hx hb dX4_key_10 (by decide) ?_
    refine lv_icmp_ne (tgt := 18) hx hb dX4_key_11 (by decide) (fun c_11 => absurd rfl c_11) (fun c_11 => ?_)
    refine lv_iconst (v := nI 0) hx hb dX4_key_14 (by decide) ?_
    refine lv_goto (tgt := 26) hx hb dX4_key_15 (by decide) ?_
    have hP9 := hP.sub (ws' := [(q4, .inr (3, [.ref qd, .ref qc, .ref qt, .ref ql, .ref qn, .ref qe, .ref qr, .ref qz, .int fp])), (qd, .inr (1, [.ref qw, .int (bI on), .int lf, .int (nI dn)])), (qw, .inl (cyI, 512, .inl w)), (qc, .inr (0, [.ref qd, .ref qwh, .ref qlv, .int (nI dn)])), (qwh, .inl (cyZ, 64, .inl WH1_1)), (qlv, .inl (cyZ, 64, .inl LV1_1))]) [0, 1, 2, 3, 4, 5] rfl
    have hD9 := hD.sub (ws' := [(q4, .inr (3, [.ref qd, .ref qc, .ref qt, .ref ql, .ref qn, .ref qe, .ref qr, .ref qz, .int fp])), (qd, .inr (1, [.ref qw, .int (bI on), .int lf, .int (nI dn)])), (qw, .inl (cyI, 512, .inl w)), (qc, .inr (0, [.ref qd, .ref qwh, .ref qlv, .int (nI dn)])), (qwh, .inl (cyZ, 64, .inl WH1_1)), (qlv, .inl (cyZ, 64, .inl LV1_1))]) [0, 1, 2, 3, 4, 5] (by decide) rfl
    have hK9 := hK.sub (tys' := [(cyI, .int), (cyZ, .boolean)]) [0, 1] rfl
    have hret : (nI 0 : Int32) = kKth w rk := by first | exact (kRank_at hf).symm | exact (kRank_no hf).symm
    refine zz_top hret ?_
    exact W.iret hx hb hr (fun tS ht hW => ⟨⟨_, (WH1_1, LV1_1), rfl, ⟨rfl, HL_1⟩, by rw [ht]; exact hP9, va_K.moved hW.alike hK9, hD9⟩, hS.F ht⟩) hS.2.2 dX4_key_26
set_option maxHeartbeats 4000000 in
set_option maxRecDepth 100000 in
theorem c_X4_pack (l : Launch) (dC : Nat → ClassId) (dI : Nat → Nat → Nat) (cyI cyZ : ClassId) (q4 qt qta ql qla qd qc qn qe qr qz : Nat) (sz : Nat)  (fp : Int32) (T : Nat → Int32) (n : Nat) (P : Nat → Int32) (k : Nat) (hn : n ≤ 400) (HT : ∀ j, j < n → zO (T j)) : Met l yX4_pack wsX4_pack ({ frames := 4, cells := 0, slots := 0, locals := 99 }) (va_Pc [.ref q4] (fun U => U.heap.size = sz ∧ va_P (dC, dI) vwCl [(q4, .inr (3, [.ref qd, .ref qc, .ref qt, .ref ql, .ref qn, .ref qe, .ref qr, .ref qz, .int fp])), (qt, .inr (2, [.ref qta, .int (nI n)])), (qta, .inl (cyI, 450, .inl T)), (ql, .inr (2, [.ref qla, .int (nI k)])), (qla, .inl (cyI, 450, .inl P))] U.heap ∧ va_K (dC, dI) vwCl [(cyI, .int), (cyZ, .boolean)] U ∧ va_D (fun _ => True) [(q4, .inr (3, [.ref qd, .ref qc, .ref qt, .ref ql, .ref qn, .ref qe, .ref qr, .ref qz, .int fp])), (qt, .inr (2, [.ref qta, .int (nI n)])), (qta, .inl (cyI, 450, .inl T)), (ql, .inr (2, [.ref qla, .int (nI k)])), (qla, .inl (cyI, 450, .inl P))])) (va_Qi (S := Nat × (Nat → Int32)) (fun (r : Int32) (uU : Nat × (Nat → Int32)) => match uU with | (k1, P1) => r = nI k1 ∧ (k1 = (zE T n).1) ∧ (∀ j, j < k1 → P1 j = (zE T n).2 j) ∧ (k1 ≤ 450)) (fun (uU : Nat × (Nat → Int32)) tS => match uU with | (k1, P1) => va_P (dC, dI) vwCl [(q4, .inr (3, [.ref qd, .ref qc, .ref qt, .ref ql, .ref qn, .ref qe, .ref qr, .ref qz, .int fp])), (qt, .inr (2, [.ref qta, .int (nI 0)])), (qta, .inl (cyI, 450, .inl T)), (ql, .inr (2, [.ref qla, .int (nI k1)])), (qla, .inl (cyI, 450, .inl P1))] tS.heap ∧ va_K (dC, dI) vwCl [(cyI, .int), (cyZ, .boolean)] tS ∧ va_D (va_A [(q4, .inr (3, [.ref qd, .ref qc, .ref qt, .ref ql, .ref qn, .ref qe, .ref qr, .ref qz, .int fp])), (qt, .inr (2, [.ref qta, .int (nI n)])), (qta, .inl (cyI, 450, .inl T)), (ql, .inr (2, [.ref qla, .int (nI k)])), (qla, .inl (cyI, 450, .inl P))] sz) [(q4, .inr (3, [.ref qd, .ref qc, .ref qt, .ref ql, .ref qn, .ref qe, .ref qr, .ref qz, .int fp])), (qt, .inr (2, [.ref qta, .int (nI 0)])), (qta, .inl (cyI, 450, .inl T)), (ql, .inr (2, [.ref qla, .int (nI k1)])), (qla, .inl (cyI, 450, .inl P1))]) (va_A [(q4, .inr (3, [.ref qd, .ref qc, .ref qt, .ref ql, .ref qn, .ref qe, .ref qr, .ref qz, .int fp])), (qt, .inr (2, [.ref qta, .int (nI n)])), (qta, .inl (cyI, 450, .inl T)), (ql, .inr (2, [.ref qla, .int (nI k)])), (qla, .inl (cyI, 450, .inl P))] sz)) 0 0 (va_A [(q4, .inr (3, [.ref qd, .ref qc, .ref qt, .ref ql, .ref qn, .ref qe, .ref qr, .ref qz, .int fp])), (qt, .inr (2, [.ref qta, .int (nI n)])), (qta, .inl (cyI, 450, .inl T)), (ql, .inr (2, [.ref qla, .int (nI k)])), (qla, .inl (cyI, 450, .inl P))] sz) := by
  refine Met.ofW (cc := cX4_pack) (maxL := 1) (ret := (some .int)) (by decide) rfl ?_
  intro pz ez sS mM args below meth cC s₁ B hml hv
  obtain ⟨rfl, hsz, hP, hK, hD0⟩ := hv
  have hx := B.exec
  have hb := B.bytes
  have hr := B.returns
  have hts := atoms_spec (ws := wsX4_pack) B.pre
  have hown : sS.vm.findClass RX4 = some mM.cls := findClass_of_methodNamed B.named
  have hlocks := B.notSynchronized
  subst hsz
  have hD := hD0.self (sz := sS.heap.size)
  generalize hAe : va_A [(q4, .inr (3, [.ref qd, .ref qc, .ref qt, .ref ql, .ref qn, .ref qe, .ref qr, .ref qz, .int fp])), (qt, .inr (2, [.ref qta, .int (nI n)])), (qta, .inl (cyI, 450, .inl T)), (ql, .inr (2, [.ref qla, .int (nI k)])), (qla, .inl (cyI, 450, .inl P))] sS.heap.size = A at hD ⊢
  have hA : ∀ q : Nat, sS.heap.size ≤ q → A q := fun q h => by rw [← hAe]; exact Or.inr h
  have hS : va_S A sS.heap sS.heap [] := va_S.rf
  have hP : va_P (dC, dI) vwCl [(q4, .inr (3, [.ref qd, .ref qc, .ref qt, .ref ql, .ref qn, .ref qe, .ref qr, .ref qz, .int fp])), (qt, .inr (2, [.ref qta, .int (nI n)])), (qta, .inl (cyI, 450, .inl T)), (ql, .inr (2, [.ref qla, .int (nI k)])), (qla, .inl (cyI, 450, .inl P))] sS.heap := hP
  have iwX4 : ∀ w ∈ wsX40, w ∈ wsX4_pack := by decide +kernel
  have fk28 := hts (.fieldLink RX4 28 "CodedStore" "tape" "LCodedStore$Octets;") (by decide +kernel)
  have fk32 := hts (.fieldLink RX4 32 "CodedStore" "loaded" "LCodedStore$Octets;") (by decide +kernel)
  have hl := lv_entry ([.ref q4]) (n := 1) (Nat.le_of_ble_eq_true rfl)
  rw [lg_entry_eq]
  generalize (lg_sl ([.ref q4]) ++ List.replicate (1 - (lg_sl ([.ref q4])).length) Slot.unset).toArray = ls at hl ⊢
  have hl : lv_has ls 1 [(0, .ref q4)] := hl
  refine lv_aload_n hx hb dX4_pack_0 rfl (lv_at hl 0 rfl) ?_
  refine va_get (D := (dC, dI)) (ci := 3) (v := .ref qt) (C := RX4) (T := TX4) (N := 9) hx hb hts iwX4 hown hK hP 0 rfl rfl 2 (by decide) fk28 (fun _ h9 => h9) rfl dX4_pack_1 ?_
  refine lv_aload_n hx hb dX4_pack_4 rfl (lv_at hl 0 rfl) ?_
  refine va_get (D := (dC, dI)) (ci := 3) (v := .ref ql) (C := RX4) (T := TX4) (N := 9) hx hb hts iwX4 hown hK hP 0 rfl rfl 3 (by decide) fk32 (fun _ h9 => h9) rfl dX4_pack_5 ?_
  have hPc := hP.sub (ws' := [(qt, .inr (2, [.ref qta, .int (nI n)])), (qta, .inl (cyI, 450, .inl T)), (ql, .inr (2, [.ref qla, .int (nI k)])), (qla, .inl (cyI, 450, .inl P))]) [1, 2, 3, 4] rfl
  have hKc := hK.sub (tys' := [(cyI, .int), (cyZ, .boolean)]) [0, 1] rfl
  have hDc := hD.sub (ws' := [(qt, .inr (2, [.ref qta, .int (nI n)])), (qta, .inl (cyI, 450, .inl T)), (ql, .inr (2, [.ref qla, .int (nI k)])), (qla, .inl (cyI, 450, .inl P))]) [1, 2, 3, 4] (by decide) rfl
  have hFc := va_free (wc := [(qt, .inr (2, [.ref qta, .int (nI n)])), (qta, .inl (cyI, 450, .inl T)), (ql, .inr (2, [.ref qla, .int (nI k)])), (qla, .inl (cyI, 450, .inl P))]) hD hS hA [1, 2, 3, 4] rfl
  refine va_callv (va_runS (As := [.ref qt, .ref ql]) (rest := []) ⟨hx, hb, hml, hown, hts⟩ (c_X1_encode l dC dI cyI cyZ qt qta ql qla sS.heap.size T n P k (by omega) (HT)) (va_cwS 2 hts gX4_pack_X1_encode rfl rfl rfl (by decide +kernel) ⟨Nat.le_of_ble_eq_true rfl, Nat.le_of_ble_eq_true rfl⟩) ⟨zz_blW, fun U hU hW => ⟨rfl, by rw [hU], by rw [hU]; exact hPc, va_K.moved hW.alike hKc, hDc.weaken (fun _ _ _ _ => trivial)⟩⟩ rfl rfl hl.1 rfl (lv_room (Nat.le_of_ble_eq_true rfl)) dX4_pack_8 ⟨Nat.zero_le _, Nat.zero_le _⟩) hS (fun q _ h => hFc q h) hFc (fun uU tS H1 locs ht9 hvm9 hw9 hB9 hz1 hk1 hS => ?_)
  obtain ⟨m1_8, F1_8⟩ := uU
  obtain ⟨hP1, hK1, hD1⟩ := hB9
  have hw9 : (m1_8 = (zE T n).1) ∧ (∀ j, j < m1_8 → F1_8 j = (zE T n).2 j) ∧ (m1_8 ≤ 450) := hw9
  obtain ⟨hm1_8, hF1_8, hmm_8⟩ := hw9
  rw [ht9] at hP1
  have hK1 := va_K.moved hvm9.symm hK1
  obtain ⟨hP, hD⟩ := va_join (wr := [(q4, .inr (3, [.ref qd, .ref qc, .ref qt, .ref ql, .ref qn, .ref qe, .ref qr, .ref qz, .int fp]))]) (w1 := [(qt, .inr (2, [.ref qta, .int (nI n)])), (qta, .inl (cyI, 450, .inl T)), (ql, .inr (2, [.ref qla, .int (nI m1_8)])), (qla, .inl (cyI, 450, .inl F1_8))]) hP hD [1, 2, 3, 4] [0] rfl rfl (by decide) (by decide) hk1 hFc hP1 hD1
  generalize H1 = H at hP hS ⊢
  have hP : va_P (dC, dI) vwCl [(q4, .inr (3, [.ref qd, .ref qc, .ref qt, .ref ql, .ref qn, .ref qe, .ref qr, .ref qz, .int fp])), (qt, .inr (2, [.ref qta, .int (nI n)])), (qta, .inl (cyI, 450, .inl T)), (ql, .inr (2, [.ref qla, .int (nI m1_8)])), (qla, .inl (cyI, 450, .inl F1_8))] H := hP
  have hD : va_D A [(q4, .inr (3, [.ref qd, .ref qc, .ref qt, .ref ql, .ref qn, .ref qe, .ref qr, .ref qz, .int fp])), (qt, .inr (2, [.ref qta, .int (nI n)])), (qta, .inl (cyI, 450, .inl T)), (ql, .inr (2, [.ref qla, .int (nI m1_8)])), (qla, .inl (cyI, 450, .inl F1_8))] := hD
  refine lv_aload_n hx hb dX4_pack_11 rfl (lv_at hl 0 rfl) ?_
  refine va_get (D := (dC, dI)) (ci := 3) (v := .ref qt) (C := RX4) (T := TX4) (N := 9) hx hb hts iwX4 hown hK hP 0 rfl rfl 2 (by decide) fk28 (fun _ h9 => h9) rfl dX4_pack_12 ?_
  have hPc := hP.sub (ws' := [(qt, .inr (2, [.ref qta, .int (nI n)])), (qta, .inl (cyI, 450, .inl T))]) [1, 2] rfl
  have hKc := hK.sub (tys' := [(cyI, .int), (cyZ, .boolean)]) [0, 1] rfl
  have hDc := hD.sub (ws' := [(qt, .inr (2, [.ref qta, .int (nI n)])), (qta, .inl (cyI, 450, .inl T))]) [1, 2] (by decide) rfl
  have hFc := va_free (wc := [(qt, .inr (2, [.ref qta, .int (nI n)])), (qta, .inl (cyI, 450, .inl T))]) hD hS hA [1, 2] rfl
  refine va_callv (va_runV (As := []) (rest := []) ⟨hx, hb, hml, hown, hts⟩ (c_X3_empty l dC dI cyI cyZ qt qta H.size T n) (cwV 0 hts gX4_pack_X3_empty rfl rfl rfl (by decide +kernel) ⟨Nat.le_of_ble_eq_true rfl, Nat.le_of_ble_eq_true rfl⟩) ⟨zz_blW, va_recv hKc hPc (ci := 2) (q0 := 0) rfl rfl, fun U hU hW => ⟨rfl, by rw [hU], by rw [hU]; exact hPc, va_K.moved hW.alike hKc, hDc.weaken (fun _ _ _ _ => trivial)⟩⟩ rfl rfl hl.1 rfl (lv_room (Nat.le_of_ble_eq_true rfl)) dX4_pack_15 ⟨Nat.zero_le _, Nat.zero_le _⟩) hS (fun q _ h => hFc q h) hFc (fun uU tS H1 locs ht9 hvm9 hw9 hB9 hz1 hk1 hS => ?_)
  obtain ⟨hP1, hK1, hD1⟩ := hB9
  rw [ht9] at hP1
  have hK1 := va_K.moved hvm9.symm hK1
  obtain ⟨hP, hD⟩ := va_join (wr := [(q4, .inr (3, [.ref qd, .ref qc, .ref qt, .ref ql, .ref qn, .ref qe, .ref qr, .ref qz, .int fp])), (ql, .inr (2, [.ref qla, .int (nI m1_8)])), (qla, .inl (cyI, 450, .inl F1_8))]) (w1 := [(qt, .inr (2, [.ref qta, .int (nI 0)])), (qta, .inl (cyI, 450, .inl T))]) hP hD [1, 2] [0, 3, 4] rfl rfl (by decide) (by decide) hk1 hFc hP1 hD1
  generalize H1 = H at hP hS ⊢
  have hP : va_P (dC, dI) vwCl [(q4, .inr (3, [.ref qd, .ref qc, .ref qt, .ref ql, .ref qn, .ref qe, .ref qr, .ref qz, .int fp])), (ql, .inr (2, [.ref qla, .int (nI m1_8)])), (qla, .inl (cyI, 450, .inl F1_8)), (qt, .inr (2, [.ref qta, .int (nI 0)])), (qta, .inl (cyI, 450, .inl T))] H := hP
  have hD : va_D A [(q4, .inr (3, [.ref qd, .ref qc, .ref qt, .ref ql, .ref qn, .ref qe, .ref qr, .ref qz, .int fp])), (ql, .inr (2, [.ref qla, .int (nI m1_8)])), (qla, .inl (cyI, 450, .inl F1_8)), (qt, .inr (2, [.ref qta, .int (nI 0)])), (qta, .inl (cyI, 450, .inl T))] := hD
  refine lv_aload_n hx hb dX4_pack_18 rfl (lv_at hl 0 rfl) ?_
  refine va_get (D := (dC, dI)) (ci := 3) (v := .ref ql) (C := RX4) (T := TX4) (N := 9) hx hb hts iwX4 hown hK hP 0 rfl rfl 3 (by decide) fk32 (fun _ h9 => h9) rfl dX4_pack_19 ?_
  have hPc := hP.sub (ws' := [(ql, .inr (2, [.ref qla, .int (nI m1_8)])), (qla, .inl (cyI, 450, .inl F1_8))]) [1, 2] rfl
  have hKc := hK.sub (tys' := [(cyI, .int), (cyZ, .boolean)]) [0, 1] rfl
  refine vp_callSi (va_Run.run (va_runV (As := []) (rest := []) ⟨hx, hb, hml, hown, hts⟩ (c_X3_size l dC dI cyI cyZ ql qla F1_8 m1_8) (cwV 0 hts gX4_pack_X3_size rfl rfl rfl (by decide +kernel) ⟨Nat.le_of_ble_eq_true rfl, Nat.le_of_ble_eq_true rfl⟩) ⟨zz_blR, va_recv hKc hPc (ci := 2) (q0 := 0) rfl rfl, fun U hU hW => ⟨rfl, by rw [hU]; exact hPc, va_K.moved hW.alike hKc⟩⟩ rfl rfl hl.1 rfl (lv_room (Nat.le_of_ble_eq_true rfl)) dX4_pack_22 ⟨Nat.zero_le _, Nat.zero_le _⟩)) (fun r_22 hr_22 => ?_)
  have hr_22 : nI m1_8 = r_22 := Eq.symm hr_22
  subst hr_22
  have hP9 := hP.sub (ws' := [(q4, .inr (3, [.ref qd, .ref qc, .ref qt, .ref ql, .ref qn, .ref qe, .ref qr, .ref qz, .int fp])), (qt, .inr (2, [.ref qta, .int (nI 0)])), (qta, .inl (cyI, 450, .inl T)), (ql, .inr (2, [.ref qla, .int (nI m1_8)])), (qla, .inl (cyI, 450, .inl F1_8))]) [0, 3, 4, 1, 2] rfl
  have hD9 := hD.sub (ws' := [(q4, .inr (3, [.ref qd, .ref qc, .ref qt, .ref ql, .ref qn, .ref qe, .ref qr, .ref qz, .int fp])), (qt, .inr (2, [.ref qta, .int (nI 0)])), (qta, .inl (cyI, 450, .inl T)), (ql, .inr (2, [.ref qla, .int (nI m1_8)])), (qla, .inl (cyI, 450, .inl F1_8))]) [0, 3, 4, 1, 2] (by decide) rfl
  have hK9 := hK.sub (tys' := [(cyI, .int), (cyZ, .boolean)]) [0, 1] rfl
  exact W.iret hx hb hr (fun tS ht hW => ⟨⟨_, (m1_8, F1_8), rfl, ⟨rfl, hm1_8, hF1_8, hmm_8⟩, by rw [ht]; exact hP9, va_K.moved hW.alike hK9, hD9⟩, hS.F ht⟩) hS.2.2 dX4_pack_25
set_option maxHeartbeats 4000000 in
set_option maxRecDepth 100000 in
theorem c_X4_unpack (l : Launch) (dC : Nat → ClassId) (dI : Nat → Nat → Nat) (cyI cyZ : ClassId) (q4 qt qta ql qla qe qea qd qc qn qr qz : Nat) (sz : Nat)  (fp : Int32) (T : Nat → Int32) (n : Nat) (P : Nat → Int32) (k : Nat) (G : Nat → Int32) (g : Nat) (hn : n ≤ 400) (HT : ∀ j, j < n → zO (T j)) : Met l yX4_unpack wsX4_unpack ({ frames := 4, cells := 0, slots := 0, locals := 95 }) (va_Pc [.ref q4] (fun U => U.heap.size = sz ∧ va_P (dC, dI) vwCl [(q4, .inr (3, [.ref qd, .ref qc, .ref qt, .ref ql, .ref qn, .ref qe, .ref qr, .ref qz, .int fp])), (qt, .inr (2, [.ref qta, .int (nI n)])), (qta, .inl (cyI, 450, .inl T)), (ql, .inr (2, [.ref qla, .int (nI k)])), (qla, .inl (cyI, 450, .inl P)), (qe, .inr (2, [.ref qea, .int (nI g)])), (qea, .inl (cyI, 450, .inl G))] U.heap ∧ va_K (dC, dI) vwCl [(cyI, .int), (cyZ, .boolean)] U ∧ va_D (fun _ => True) [(q4, .inr (3, [.ref qd, .ref qc, .ref qt, .ref ql, .ref qn, .ref qe, .ref qr, .ref qz, .int fp])), (qt, .inr (2, [.ref qta, .int (nI n)])), (qta, .inl (cyI, 450, .inl T)), (ql, .inr (2, [.ref qla, .int (nI k)])), (qla, .inl (cyI, 450, .inl P)), (qe, .inr (2, [.ref qea, .int (nI g)])), (qea, .inl (cyI, 450, .inl G))])) (va_Qi (S := Int32 × Nat × (Nat → Int32) × Nat × (Nat → Int32)) (fun (r : Int32) (uU : Int32 × Nat × (Nat → Int32) × Nat × (Nat → Int32)) => match uU with | (fp1, k1, P1, g1, G1) => (((zD T n).1 = 0 ∧ r = nI k1 ∧ k1 = (zD T n).2.1 ∧ (∀ j, j < k1 → P1 j = (zD T n).2.2 j) ∧ fp1 = fp) ∨ (¬ (zD T n).1 = 0 ∧ r = (-1) ∧ k1 = k ∧ P1 = P ∧ fp1 = zPl (zD T n).1)) ∧ (k1 ≤ 400 ∨ k1 = k)) (fun (uU : Int32 × Nat × (Nat → Int32) × Nat × (Nat → Int32)) tS => match uU with | (fp1, k1, P1, g1, G1) => va_P (dC, dI) vwCl [(q4, .inr (3, [.ref qd, .ref qc, .ref qt, .ref ql, .ref qn, .ref qe, .ref qr, .ref qz, .int fp1])), (qt, .inr (2, [.ref qta, .int (nI 0)])), (qta, .inl (cyI, 450, .inl T)), (ql, .inr (2, [.ref qla, .int (nI k1)])), (qla, .inl (cyI, 450, .inl P1)), (qe, .inr (2, [.ref qea, .int (nI g1)])), (qea, .inl (cyI, 450, .inl G1))] tS.heap ∧ va_K (dC, dI) vwCl [(cyI, .int), (cyZ, .boolean)] tS ∧ va_D (va_A [(q4, .inr (3, [.ref qd, .ref qc, .ref qt, .ref ql, .ref qn, .ref qe, .ref qr, .ref qz, .int fp])), (qt, .inr (2, [.ref qta, .int (nI n)])), (qta, .inl (cyI, 450, .inl T)), (ql, .inr (2, [.ref qla, .int (nI k)])), (qla, .inl (cyI, 450, .inl P)), (qe, .inr (2, [.ref qea, .int (nI g)])), (qea, .inl (cyI, 450, .inl G))] sz) [(q4, .inr (3, [.ref qd, .ref qc, .ref qt, .ref ql, .ref qn, .ref qe, .ref qr, .ref qz, .int fp1])), (qt, .inr (2, [.ref qta, .int (nI 0)])), (qta, .inl (cyI, 450, .inl T)), (ql, .inr (2, [.ref qla, .int (nI k1)])), (qla, .inl (cyI, 450, .inl P1)), (qe, .inr (2, [.ref qea, .int (nI g1)])), (qea, .inl (cyI, 450, .inl G1))]) (va_A [(q4, .inr (3, [.ref qd, .ref qc, .ref qt, .ref ql, .ref qn, .ref qe, .ref qr, .ref qz, .int fp])), (qt, .inr (2, [.ref qta, .int (nI n)])), (qta, .inl (cyI, 450, .inl T)), (ql, .inr (2, [.ref qla, .int (nI k)])), (qla, .inl (cyI, 450, .inl P)), (qe, .inr (2, [.ref qea, .int (nI g)])), (qea, .inl (cyI, 450, .inl G))] sz)) 0 0 (va_A [(q4, .inr (3, [.ref qd, .ref qc, .ref qt, .ref ql, .ref qn, .ref qe, .ref qr, .ref qz, .int fp])), (qt, .inr (2, [.ref qta, .int (nI n)])), (qta, .inl (cyI, 450, .inl T)), (ql, .inr (2, [.ref qla, .int (nI k)])), (qla, .inl (cyI, 450, .inl P)), (qe, .inr (2, [.ref qea, .int (nI g)])), (qea, .inl (cyI, 450, .inl G))] sz) := by
  refine Met.ofW (cc := cX4_unpack) (maxL := 2) (ret := (some .int)) (by decide) rfl ?_
  intro pz ez sS mM args below meth cC s₁ B hml hv
  obtain ⟨rfl, hsz, hP, hK, hD0⟩ := hv
  have hx := B.exec
  have hb := B.bytes
  have hr := B.returns
  have hts := atoms_spec (ws := wsX4_unpack) B.pre
  have hown : sS.vm.findClass RX4 = some mM.cls := findClass_of_methodNamed B.named
  have hlocks := B.notSynchronized
  subst hsz
  have hD := hD0.self (sz := sS.heap.size)
  generalize hAe : va_A [(q4, .inr (3, [.ref qd, .ref qc, .ref qt, .ref ql, .ref qn, .ref qe, .ref qr, .ref qz, .int fp])), (qt, .inr (2, [.ref qta, .int (nI n)])), (qta, .inl (cyI, 450, .inl T)), (ql, .inr (2, [.ref qla, .int (nI k)])), (qla, .inl (cyI, 450, .inl P)), (qe, .inr (2, [.ref qea, .int (nI g)])), (qea, .inl (cyI, 450, .inl G))] sS.heap.size = A at hD ⊢
  have hA : ∀ q : Nat, sS.heap.size ≤ q → A q := fun q h => by rw [← hAe]; exact Or.inr h
  have hS : va_S A sS.heap sS.heap [] := va_S.rf
  have hP : va_P (dC, dI) vwCl [(q4, .inr (3, [.ref qd, .ref qc, .ref qt, .ref ql, .ref qn, .ref qe, .ref qr, .ref qz, .int fp])), (qt, .inr (2, [.ref qta, .int (nI n)])), (qta, .inl (cyI, 450, .inl T)), (ql, .inr (2, [.ref qla, .int (nI k)])), (qla, .inl (cyI, 450, .inl P)), (qe, .inr (2, [.ref qea, .int (nI g)])), (qea, .inl (cyI, 450, .inl G))] sS.heap := hP
  have iwX4 : ∀ w ∈ wsX40, w ∈ wsX4_unpack := by decide +kernel
  have fk28 := hts (.fieldLink RX4 28 "CodedStore" "tape" "LCodedStore$Octets;") (by decide +kernel)
  have fk32 := hts (.fieldLink RX4 32 "CodedStore" "loaded" "LCodedStore$Octets;") (by decide +kernel)
  have fk38 := hts (.fieldLink RX4 38 "CodedStore" "decoded" "LCodedStore$Octets;") (by decide +kernel)
  have fk48 := hts (.fieldLink RX4 48 "CodedStore" "failedPlace" "I") (by decide +kernel)
  have hl := lv_entry ([.ref q4]) (n := 2) (Nat.le_of_ble_eq_true rfl)
  rw [lg_entry_eq]
  generalize (lg_sl ([.ref q4]) ++ List.replicate (2 - (lg_sl ([.ref q4])).length) Slot.unset).toArray = ls at hl ⊢
  have hl : lv_has ls 2 [(0, .ref q4)] := hl
  refine lv_aload_n hx hb dX4_unpack_0 rfl (lv_at hl 0 rfl) ?_
  refine va_get (D := (dC, dI)) (ci := 3) (v := .ref qt) (C := RX4) (T := TX4) (N := 9) hx hb hts iwX4 hown hK hP 0 rfl rfl 2 (by decide) fk28 (fun _ h9 => h9) rfl dX4_unpack_1 ?_
  refine lv_aload_n hx hb dX4_unpack_4 rfl (lv_at hl 0 rfl) ?_
  refine va_get (D := (dC, dI)) (ci := 3) (v := .ref qe) (C := RX4) (T := TX4) (N := 9) hx hb hts iwX4 hown hK hP 0 rfl rfl 5 (by decide) fk38 (fun _ h9 => h9) rfl dX4_unpack_5 ?_
  have hPc := hP.sub (ws' := [(qt, .inr (2, [.ref qta, .int (nI n)])), (qta, .inl (cyI, 450, .inl T)), (qe, .inr (2, [.ref qea, .int (nI g)])), (qea, .inl (cyI, 450, .inl G))]) [1, 2, 5, 6] rfl
  have hKc := hK.sub (tys' := [(cyI, .int), (cyZ, .boolean)]) [0, 1] rfl
  have hDc := hD.sub (ws' := [(qt, .inr (2, [.ref qta, .int (nI n)])), (qta, .inl (cyI, 450, .inl T)), (qe, .inr (2, [.ref qea, .int (nI g)])), (qea, .inl (cyI, 450, .inl G))]) [1, 2, 5, 6] (by decide) rfl
  have hFc := va_free (wc := [(qt, .inr (2, [.ref qta, .int (nI n)])), (qta, .inl (cyI, 450, .inl T)), (qe, .inr (2, [.ref qea, .int (nI g)])), (qea, .inl (cyI, 450, .inl G))]) hD hS hA [1, 2, 5, 6] rfl
  refine va_calli (va_runS (As := [.ref qt, .ref qe]) (rest := []) ⟨hx, hb, hml, hown, hts⟩ (c_X1_decode l dC dI cyI cyZ qt qta qe qea sS.heap.size T n G g (by omega) (HT)) (va_cwS 2 hts gX4_unpack_X1_decode rfl rfl rfl (by decide +kernel) ⟨Nat.le_of_ble_eq_true rfl, Nat.le_of_ble_eq_true rfl⟩) ⟨zz_blW, fun U hU hW => ⟨rfl, by rw [hU], by rw [hU]; exact hPc, va_K.moved hW.alike hKc, hDc.weaken (fun _ _ _ _ => trivial)⟩⟩ rfl rfl hl.1 rfl (lv_room (Nat.le_of_ble_eq_true rfl)) dX4_unpack_8 ⟨Nat.zero_le _, Nat.zero_le _⟩) hS (fun q _ h => hFc q h) hFc (fun r_8 uU tS H1 locs ht9 hvm9 hw9 hB9 hz1 hk1 hS => ?_)
  obtain ⟨m1_8, F1_8⟩ := uU
  obtain ⟨hP1, hK1, hD1⟩ := hB9
  have hw9 : (r_8 = zPl (zD T n).1) ∧ (m1_8 = (zD T n).2.1) ∧ (∀ j, j < m1_8 → F1_8 j = (zD T n).2.2 j) ∧ (∀ j, j < m1_8 → zO (F1_8 j)) ∧ (m1_8 ≤ 400) := hw9
  obtain ⟨hr_8, hm1_8, hF1_8, hO1_8, hmm_8⟩ := hw9
  have hr_8 := Eq.symm hr_8
  subst hr_8
  rw [ht9] at hP1
  have hK1 := va_K.moved hvm9.symm hK1
  obtain ⟨hP, hD⟩ := va_join (wr := [(q4, .inr (3, [.ref qd, .ref qc, .ref qt, .ref ql, .ref qn, .ref qe, .ref qr, .ref qz, .int fp])), (ql, .inr (2, [.ref qla, .int (nI k)])), (qla, .inl (cyI, 450, .inl P))]) (w1 := [(qt, .inr (2, [.ref qta, .int (nI n)])), (qta, .inl (cyI, 450, .inl T)), (qe, .inr (2, [.ref qea, .int (nI m1_8)])), (qea, .inl (cyI, 450, .inl F1_8))]) hP hD [1, 2, 5, 6] [0, 3, 4] rfl rfl (by decide) (by decide) hk1 hFc hP1 hD1
  generalize H1 = H at hP hS ⊢
  have hP : va_P (dC, dI) vwCl [(q4, .inr (3, [.ref qd, .ref qc, .ref qt, .ref ql, .ref qn, .ref qe, .ref qr, .ref qz, .int fp])), (ql, .inr (2, [.ref qla, .int (nI k)])), (qla, .inl (cyI, 450, .inl P)), (qt, .inr (2, [.ref qta, .int (nI n)])), (qta, .inl (cyI, 450, .inl T)), (qe, .inr (2, [.ref qea, .int (nI m1_8)])), (qea, .inl (cyI, 450, .inl F1_8))] H := hP
  have hD : va_D A [(q4, .inr (3, [.ref qd, .ref qc, .ref qt, .ref ql, .ref qn, .ref qe, .ref qr, .ref qz, .int fp])), (ql, .inr (2, [.ref qla, .int (nI k)])), (qla, .inl (cyI, 450, .inl P)), (qt, .inr (2, [.ref qta, .int (nI n)])), (qta, .inl (cyI, 450, .inl T)), (qe, .inr (2, [.ref qea, .int (nI m1_8)])), (qea, .inl (cyI, 450, .inl F1_8))] := hD
  by_cases hz : (zD T n).1 = 0
  ·
    refine zz_top (show zPl (zD T n).1 = (-1) by rw [hz]; rfl) ?_
    refine lv_istore_n (lv' := [(1, .int (-1)), (0, .ref q4)]) hx hb dX4_unpack_11 rfl hl (by decide) rfl (fun ls hl => ?_)
    refine lv_aload_n hx hb dX4_unpack_12 rfl (lv_at hl 1 rfl) ?_
    refine va_get (D := (dC, dI)) (ci := 3) (v := .ref qt) (C := RX4) (T := TX4) (N := 9) hx hb hts iwX4 hown hK hP 0 rfl rfl 2 (by decide) fk28 (fun _ h9 => h9) rfl dX4_unpack_13 ?_
    have hPc := hP.sub (ws' := [(qt, .inr (2, [.ref qta, .int (nI n)])), (qta, .inl (cyI, 450, .inl T))]) [3, 4] rfl
    have hKc := hK.sub (tys' := [(cyI, .int), (cyZ, .boolean)]) [0, 1] rfl
    have hDc := hD.sub (ws' := [(qt, .inr (2, [.ref qta, .int (nI n)])), (qta, .inl (cyI, 450, .inl T))]) [3, 4] (by decide) rfl
    have hFc := va_free (wc := [(qt, .inr (2, [.ref qta, .int (nI n)])), (qta, .inl (cyI, 450, .inl T))]) hD hS hA [3, 4] rfl
    refine va_callv (va_runV (As := []) (rest := []) ⟨hx, hb, hml, hown, hts⟩ (c_X3_empty l dC dI cyI cyZ qt qta H.size T n) (cwV 0 hts gX4_unpack_X3_empty rfl rfl rfl (by decide +kernel) ⟨Nat.le_of_ble_eq_true rfl, Nat.le_of_ble_eq_true rfl⟩) ⟨zz_blW, va_recv hKc hPc (ci := 2) (q0 := 0) rfl rfl, fun U hU hW => ⟨rfl, by rw [hU], by rw [hU]; exact hPc, va_K.moved hW.alike hKc, hDc.weaken (fun _ _ _ _ => trivial)⟩⟩ rfl rfl hl.1 rfl (lv_room (Nat.le_of_ble_eq_true rfl)) dX4_unpack_16 ⟨Nat.zero_le _, Nat.zero_le _⟩) hS (fun q _ h => hFc q h) hFc (fun uU tS H1 locs ht9 hvm9 hw9 hB9 hz1 hk1 hS => ?_)
    obtain ⟨hP1, hK1, hD1⟩ := hB9
    rw [ht9] at hP1
    have hK1 := va_K.moved hvm9.symm hK1
    obtain ⟨hP, hD⟩ := va_join (wr := [(q4, .inr (3, [.ref qd, .ref qc, .ref qt, .ref ql, .ref qn, .ref qe, .ref qr, .ref qz, .int fp])), (ql, .inr (2, [.ref qla, .int (nI k)])), (qla, .inl (cyI, 450, .inl P)), (qe, .inr (2, [.ref qea, .int (nI m1_8)])), (qea, .inl (cyI, 450, .inl F1_8))]) (w1 := [(qt, .inr (2, [.ref qta, .int (nI 0)])), (qta, .inl (cyI, 450, .inl T))]) hP hD [3, 4] [0, 1, 2, 5, 6] rfl rfl (by decide) (by decide) hk1 hFc hP1 hD1
    generalize H1 = H at hP hS ⊢
    have hP : va_P (dC, dI) vwCl [(q4, .inr (3, [.ref qd, .ref qc, .ref qt, .ref ql, .ref qn, .ref qe, .ref qr, .ref qz, .int fp])), (ql, .inr (2, [.ref qla, .int (nI k)])), (qla, .inl (cyI, 450, .inl P)), (qe, .inr (2, [.ref qea, .int (nI m1_8)])), (qea, .inl (cyI, 450, .inl F1_8)), (qt, .inr (2, [.ref qta, .int (nI 0)])), (qta, .inl (cyI, 450, .inl T))] H := hP
    have hD : va_D A [(q4, .inr (3, [.ref qd, .ref qc, .ref qt, .ref ql, .ref qn, .ref qe, .ref qr, .ref qz, .int fp])), (ql, .inr (2, [.ref qla, .int (nI k)])), (qla, .inl (cyI, 450, .inl P)), (qe, .inr (2, [.ref qea, .int (nI m1_8)])), (qea, .inl (cyI, 450, .inl F1_8)), (qt, .inr (2, [.ref qta, .int (nI 0)])), (qta, .inl (cyI, 450, .inl T))] := hD
    refine lv_iload_n hx hb dX4_unpack_19 rfl (lv_at hl 0 rfl) ?_
    refine lv_iconst (v := (-1)) hx hb dX4_unpack_20 (by decide) ?_
    refine lv_icmp_eq (tgt := 31) hx hb dX4_unpack_21 (by decide) (fun c_21 => ?_) (fun c_21 => absurd rfl c_21)
    refine lv_aload_n hx hb dX4_unpack_31 rfl (lv_at hl 1 rfl) ?_
    refine va_get (D := (dC, dI)) (ci := 3) (v := .ref ql) (C := RX4) (T := TX4) (N := 9) hx hb hts iwX4 hown hK hP 0 rfl rfl 3 (by decide) fk32 (fun _ h9 => h9) rfl dX4_unpack_32 ?_
    refine lv_aload_n hx hb dX4_unpack_35 rfl (lv_at hl 1 rfl) ?_
    refine va_get (D := (dC, dI)) (ci := 3) (v := .ref qe) (C := RX4) (T := TX4) (N := 9) hx hb hts iwX4 hown hK hP 0 rfl rfl 5 (by decide) fk38 (fun _ h9 => h9) rfl dX4_unpack_36 ?_
    have hPc := hP.sub (ws' := [(ql, .inr (2, [.ref qla, .int (nI k)])), (qla, .inl (cyI, 450, .inl P)), (qe, .inr (2, [.ref qea, .int (nI m1_8)])), (qea, .inl (cyI, 450, .inl F1_8))]) [1, 2, 3, 4] rfl
    have hKc := hK.sub (tys' := [(cyI, .int), (cyZ, .boolean)]) [0, 1] rfl
    have hDc := hD.sub (ws' := [(ql, .inr (2, [.ref qla, .int (nI k)])), (qla, .inl (cyI, 450, .inl P)), (qe, .inr (2, [.ref qea, .int (nI m1_8)])), (qea, .inl (cyI, 450, .inl F1_8))]) [1, 2, 3, 4] (by decide) rfl
    have hFc := va_free (wc := [(ql, .inr (2, [.ref qla, .int (nI k)])), (qla, .inl (cyI, 450, .inl P)), (qe, .inr (2, [.ref qea, .int (nI m1_8)])), (qea, .inl (cyI, 450, .inl F1_8))]) hD hS hA [1, 2, 3, 4] rfl
    refine va_callv (va_runV (As := [.ref qe]) (rest := []) ⟨hx, hb, hml, hown, hts⟩ (c_X3_becomeLike l dC dI cyI cyZ ql qla qe qea H.size P k F1_8 m1_8 (by omega) (hO1_8)) (cwV 1 hts gX4_unpack_X3_becomeLike rfl rfl rfl (by decide +kernel) ⟨Nat.le_of_ble_eq_true rfl, Nat.le_of_ble_eq_true rfl⟩) ⟨zz_blW, va_recv hKc hPc (ci := 2) (q0 := 0) rfl rfl, fun U hU hW => ⟨rfl, by rw [hU], by rw [hU]; exact hPc, va_K.moved hW.alike hKc, hDc.weaken (fun _ _ _ _ => trivial)⟩⟩ rfl rfl hl.1 rfl (lv_room (Nat.le_of_ble_eq_true rfl)) dX4_unpack_39 ⟨Nat.zero_le _, Nat.zero_le _⟩) hS (fun q _ h => hFc q h) hFc (fun uU tS H1 locs ht9 hvm9 hw9 hB9 hz1 hk1 hS => ?_)
    obtain ⟨f1_39, rfl⟩ : ∃ z, z = uU := ⟨_, rfl⟩
    obtain ⟨hP1, hK1, hD1⟩ := hB9
    have hw9 : (∀ j, j < m1_8 → f1_39 j = F1_8 j) := hw9
    have hf_39 := hw9
    rw [ht9] at hP1
    have hK1 := va_K.moved hvm9.symm hK1
    obtain ⟨hP, hD⟩ := va_join (wr := [(q4, .inr (3, [.ref qd, .ref qc, .ref qt, .ref ql, .ref qn, .ref qe, .ref qr, .ref qz, .int fp])), (qt, .inr (2, [.ref qta, .int (nI 0)])), (qta, .inl (cyI, 450, .inl T))]) (w1 := [(ql, .inr (2, [.ref qla, .int (nI m1_8)])), (qla, .inl (cyI, 450, .inl f1_39)), (qe, .inr (2, [.ref qea, .int (nI m1_8)])), (qea, .inl (cyI, 450, .inl F1_8))]) hP hD [1, 2, 3, 4] [0, 5, 6] rfl rfl (by decide) (by decide) hk1 hFc hP1 hD1
    generalize H1 = H at hP hS ⊢
    have hP : va_P (dC, dI) vwCl [(q4, .inr (3, [.ref qd, .ref qc, .ref qt, .ref ql, .ref qn, .ref qe, .ref qr, .ref qz, .int fp])), (qt, .inr (2, [.ref qta, .int (nI 0)])), (qta, .inl (cyI, 450, .inl T)), (ql, .inr (2, [.ref qla, .int (nI m1_8)])), (qla, .inl (cyI, 450, .inl f1_39)), (qe, .inr (2, [.ref qea, .int (nI m1_8)])), (qea, .inl (cyI, 450, .inl F1_8))] H := hP
    have hD : va_D A [(q4, .inr (3, [.ref qd, .ref qc, .ref qt, .ref ql, .ref qn, .ref qe, .ref qr, .ref qz, .int fp])), (qt, .inr (2, [.ref qta, .int (nI 0)])), (qta, .inl (cyI, 450, .inl T)), (ql, .inr (2, [.ref qla, .int (nI m1_8)])), (qla, .inl (cyI, 450, .inl f1_39)), (qe, .inr (2, [.ref qea, .int (nI m1_8)])), (qea, .inl (cyI, 450, .inl F1_8))] := hD
    refine lv_aload_n hx hb dX4_unpack_42 rfl (lv_at hl 1 rfl) ?_
    refine va_get (D := (dC, dI)) (ci := 3) (v := .ref ql) (C := RX4) (T := TX4) (N := 9) hx hb hts iwX4 hown hK hP 0 rfl rfl 3 (by decide) fk32 (fun _ h9 => h9) rfl dX4_unpack_43 ?_
    have hPc := hP.sub (ws' := [(ql, .inr (2, [.ref qla, .int (nI m1_8)])), (qla, .inl (cyI, 450, .inl f1_39))]) [3, 4] rfl
    have hKc := hK.sub (tys' := [(cyI, .int), (cyZ, .boolean)]) [0, 1] rfl
    refine vp_callSi (va_Run.run (va_runV (As := []) (rest := []) ⟨hx, hb, hml, hown, hts⟩ (c_X3_size l dC dI cyI cyZ ql qla f1_39 m1_8) (cwV 0 hts gX4_unpack_X3_size rfl rfl rfl (by decide +kernel) ⟨Nat.le_of_ble_eq_true rfl, Nat.le_of_ble_eq_true rfl⟩) ⟨zz_blR, va_recv hKc hPc (ci := 2) (q0 := 0) rfl rfl, fun U hU hW => ⟨rfl, by rw [hU]; exact hPc, va_K.moved hW.alike hKc⟩⟩ rfl rfl hl.1 rfl (lv_room (Nat.le_of_ble_eq_true rfl)) dX4_unpack_46 ⟨Nat.zero_le _, Nat.zero_le _⟩)) (fun r_46 hr_46 => ?_)
    have hr_46 : nI m1_8 = r_46 := Eq.symm hr_46
    subst hr_46
    have hP9 := hP.sub (ws' := [(q4, .inr (3, [.ref qd, .ref qc, .ref qt, .ref ql, .ref qn, .ref qe, .ref qr, .ref qz, .int fp])), (qt, .inr (2, [.ref qta, .int (nI 0)])), (qta, .inl (cyI, 450, .inl T)), (ql, .inr (2, [.ref qla, .int (nI m1_8)])), (qla, .inl (cyI, 450, .inl f1_39)), (qe, .inr (2, [.ref qea, .int (nI m1_8)])), (qea, .inl (cyI, 450, .inl F1_8))]) [0, 1, 2, 3, 4, 5, 6] rfl
    have hD9 := hD.sub (ws' := [(q4, .inr (3, [.ref qd, .ref qc, .ref qt, .ref ql, .ref qn, .ref qe, .ref qr, .ref qz, .int fp])), (qt, .inr (2, [.ref qta, .int (nI 0)])), (qta, .inl (cyI, 450, .inl T)), (ql, .inr (2, [.ref qla, .int (nI m1_8)])), (qla, .inl (cyI, 450, .inl f1_39)), (qe, .inr (2, [.ref qea, .int (nI m1_8)])), (qea, .inl (cyI, 450, .inl F1_8))]) [0, 1, 2, 3, 4, 5, 6] (by decide) rfl
    have hK9 := hK.sub (tys' := [(cyI, .int), (cyZ, .boolean)]) [0, 1] rfl
    exact W.iret hx hb hr (fun tS ht hW => ⟨⟨_, (fp, m1_8, f1_39, m1_8, F1_8), rfl, ⟨Or.inl ⟨hz, rfl, hm1_8, fun j hj => (hf_39 j hj).trans (hF1_8 j hj), rfl⟩, Or.inl hmm_8⟩, by rw [ht]; exact hP9, va_K.moved hW.alike hK9, hD9⟩, hS.F ht⟩) hS.2.2 dX4_unpack_49
  ·
    refine lv_istore_n (lv' := [(1, .int (zPl (zD T n).1)), (0, .ref q4)]) hx hb dX4_unpack_11 rfl hl (by decide) rfl (fun ls hl => ?_)
    refine lv_aload_n hx hb dX4_unpack_12 rfl (lv_at hl 1 rfl) ?_
    refine va_get (D := (dC, dI)) (ci := 3) (v := .ref qt) (C := RX4) (T := TX4) (N := 9) hx hb hts iwX4 hown hK hP 0 rfl rfl 2 (by decide) fk28 (fun _ h9 => h9) rfl dX4_unpack_13 ?_
    have hPc := hP.sub (ws' := [(qt, .inr (2, [.ref qta, .int (nI n)])), (qta, .inl (cyI, 450, .inl T))]) [3, 4] rfl
    have hKc := hK.sub (tys' := [(cyI, .int), (cyZ, .boolean)]) [0, 1] rfl
    have hDc := hD.sub (ws' := [(qt, .inr (2, [.ref qta, .int (nI n)])), (qta, .inl (cyI, 450, .inl T))]) [3, 4] (by decide) rfl
    have hFc := va_free (wc := [(qt, .inr (2, [.ref qta, .int (nI n)])), (qta, .inl (cyI, 450, .inl T))]) hD hS hA [3, 4] rfl
    refine va_callv (va_runV (As := []) (rest := []) ⟨hx, hb, hml, hown, hts⟩ (c_X3_empty l dC dI cyI cyZ qt qta H.size T n) (cwV 0 hts gX4_unpack_X3_empty rfl rfl rfl (by decide +kernel) ⟨Nat.le_of_ble_eq_true rfl, Nat.le_of_ble_eq_true rfl⟩) ⟨zz_blW, va_recv hKc hPc (ci := 2) (q0 := 0) rfl rfl, fun U hU hW => ⟨rfl, by rw [hU], by rw [hU]; exact hPc, va_K.moved hW.alike hKc, hDc.weaken (fun _ _ _ _ => trivial)⟩⟩ rfl rfl hl.1 rfl (lv_room (Nat.le_of_ble_eq_true rfl)) dX4_unpack_16 ⟨Nat.zero_le _, Nat.zero_le _⟩) hS (fun q _ h => hFc q h) hFc (fun uU tS H1 locs ht9 hvm9 hw9 hB9 hz1 hk1 hS => ?_)
    obtain ⟨hP1, hK1, hD1⟩ := hB9
    rw [ht9] at hP1
    have hK1 := va_K.moved hvm9.symm hK1
    obtain ⟨hP, hD⟩ := va_join (wr := [(q4, .inr (3, [.ref qd, .ref qc, .ref qt, .ref ql, .ref qn, .ref qe, .ref qr, .ref qz, .int fp])), (ql, .inr (2, [.ref qla, .int (nI k)])), (qla, .inl (cyI, 450, .inl P)), (qe, .inr (2, [.ref qea, .int (nI m1_8)])), (qea, .inl (cyI, 450, .inl F1_8))]) (w1 := [(qt, .inr (2, [.ref qta, .int (nI 0)])), (qta, .inl (cyI, 450, .inl T))]) hP hD [3, 4] [0, 1, 2, 5, 6] rfl rfl (by decide) (by decide) hk1 hFc hP1 hD1
    generalize H1 = H at hP hS ⊢
    have hP : va_P (dC, dI) vwCl [(q4, .inr (3, [.ref qd, .ref qc, .ref qt, .ref ql, .ref qn, .ref qe, .ref qr, .ref qz, .int fp])), (ql, .inr (2, [.ref qla, .int (nI k)])), (qla, .inl (cyI, 450, .inl P)), (qe, .inr (2, [.ref qea, .int (nI m1_8)])), (qea, .inl (cyI, 450, .inl F1_8)), (qt, .inr (2, [.ref qta, .int (nI 0)])), (qta, .inl (cyI, 450, .inl T))] H := hP
    have hD : va_D A [(q4, .inr (3, [.ref qd, .ref qc, .ref qt, .ref ql, .ref qn, .ref qe, .ref qr, .ref qz, .int fp])), (ql, .inr (2, [.ref qla, .int (nI k)])), (qla, .inl (cyI, 450, .inl P)), (qe, .inr (2, [.ref qea, .int (nI m1_8)])), (qea, .inl (cyI, 450, .inl F1_8)), (qt, .inr (2, [.ref qta, .int (nI 0)])), (qta, .inl (cyI, 450, .inl T))] := hD
    refine lv_iload_n hx hb dX4_unpack_19 rfl (lv_at hl 0 rfl) ?_
    refine lv_iconst (v := (-1)) hx hb dX4_unpack_20 (by decide) ?_
    refine lv_icmp_eq (tgt := 31) hx hb dX4_unpack_21 (by decide) (fun c_21 => absurd c_21 (zPl_n hz (zD_le T n) (by omega)).2) (fun c_21 => ?_)
    refine lv_aload_n hx hb dX4_unpack_24 rfl (lv_at hl 1 rfl) ?_
    refine lv_iload_n hx hb dX4_unpack_25 rfl (lv_at hl 0 rfl) ?_
    refine va_put (D := (dC, dI)) (ci := 3) (v := .int (zPl (zD T n).1)) (ty := .int) (C := RX4) (T := TX4) (N := 9) hx hb hts iwX4 tyX4 tyX4_ok nmX4 hown hK hP hD hS 0 rfl rfl 8 (by decide) fk48 (fun _ h9 => h9) rfl (by decide +kernel) rfl rfl (Nat.le_of_ble_eq_true rfl) dX4_unpack_26 (fun H locs hP hD hS => ?_)
    have hP : va_P (dC, dI) vwCl [(q4, .inr (3, [.ref qd, .ref qc, .ref qt, .ref ql, .ref qn, .ref qe, .ref qr, .ref qz, .int (zPl (zD T n).1)])), (ql, .inr (2, [.ref qla, .int (nI k)])), (qla, .inl (cyI, 450, .inl P)), (qe, .inr (2, [.ref qea, .int (nI m1_8)])), (qea, .inl (cyI, 450, .inl F1_8)), (qt, .inr (2, [.ref qta, .int (nI 0)])), (qta, .inl (cyI, 450, .inl T))] H := hP
    have hD : va_D A [(q4, .inr (3, [.ref qd, .ref qc, .ref qt, .ref ql, .ref qn, .ref qe, .ref qr, .ref qz, .int (zPl (zD T n).1)])), (ql, .inr (2, [.ref qla, .int (nI k)])), (qla, .inl (cyI, 450, .inl P)), (qe, .inr (2, [.ref qea, .int (nI m1_8)])), (qea, .inl (cyI, 450, .inl F1_8)), (qt, .inr (2, [.ref qta, .int (nI 0)])), (qta, .inl (cyI, 450, .inl T))] := hD
    refine lv_iconst (v := (-1)) hx hb dX4_unpack_29 (by decide) ?_
    have hP9 := hP.sub (ws' := [(q4, .inr (3, [.ref qd, .ref qc, .ref qt, .ref ql, .ref qn, .ref qe, .ref qr, .ref qz, .int (zPl (zD T n).1)])), (qt, .inr (2, [.ref qta, .int (nI 0)])), (qta, .inl (cyI, 450, .inl T)), (ql, .inr (2, [.ref qla, .int (nI k)])), (qla, .inl (cyI, 450, .inl P)), (qe, .inr (2, [.ref qea, .int (nI m1_8)])), (qea, .inl (cyI, 450, .inl F1_8))]) [0, 5, 6, 1, 2, 3, 4] rfl
    have hD9 := hD.sub (ws' := [(q4, .inr (3, [.ref qd, .ref qc, .ref qt, .ref ql, .ref qn, .ref qe, .ref qr, .ref qz, .int (zPl (zD T n).1)])), (qt, .inr (2, [.ref qta, .int (nI 0)])), (qta, .inl (cyI, 450, .inl T)), (ql, .inr (2, [.ref qla, .int (nI k)])), (qla, .inl (cyI, 450, .inl P)), (qe, .inr (2, [.ref qea, .int (nI m1_8)])), (qea, .inl (cyI, 450, .inl F1_8))]) [0, 5, 6, 1, 2, 3, 4] (by decide) rfl
    have hK9 := hK.sub (tys' := [(cyI, .int), (cyZ, .boolean)]) [0, 1] rfl
    exact W.iret hx hb hr (fun tS ht hW => ⟨⟨_, (zPl (zD T n).1, k, P, m1_8, F1_8), rfl, ⟨Or.inr ⟨hz, rfl, rfl, rfl, rfl⟩, Or.inr rfl⟩, by rw [ht]; exact hP9, va_K.moved hW.alike hK9, hD9⟩, hS.F ht⟩) hS.2.2 dX4_unpack_30
set_option maxHeartbeats 4000000 in
set_option maxRecDepth 100000 in
theorem c_X4_commit_off (l : Launch) (dC : Nat → ClassId) (dI : Nat → Nat → Nat) (cyI cyZ : ClassId) (q4 qd qw qc qt ql qn qe qr qz : Nat) (w : Nat → Int32) (lf : Int32) (dn : Nat) (fp : Int32) (ky : Int32)  : Met l yX4_commit wsX4_commit ({ frames := 6, cells := 0, slots := 0, locals := 133 }) (va_Pc [.ref q4, .int ky] (fun U => va_P (dC, dI) vwCl [(q4, .inr (3, [.ref qd, .ref qc, .ref qt, .ref ql, .ref qn, .ref qe, .ref qr, .ref qz, .int fp])), (qd, .inr (1, [.ref qw, .int (bI false), .int lf, .int (nI dn)])), (qw, .inl (cyI, 512, .inl w))] U.heap ∧ va_K (dC, dI) vwCl [(cyI, .int), (cyZ, .boolean)] U)) (vp_Si (fun r => r = (-4))) 0 0 (fun _ => False) := by
  refine Met.ofW (cc := cX4_commit) (maxL := 3) (ret := (some .int)) (by decide) rfl ?_
  intro pz ez sS mM args below meth cC s₁ B hml hv
  obtain ⟨rfl, hP, hK⟩ := hv
  have hx := B.exec
  have hb := B.bytes
  have hr := B.returns
  have hts := atoms_spec (ws := wsX4_commit) B.pre
  have hown : sS.vm.findClass RX4 = some mM.cls := findClass_of_methodNamed B.named
  have hlocks := B.notSynchronized
  have iwX4 : ∀ w ∈ wsX40, w ∈ wsX4_commit := by decide +kernel
  have fk10 := hts (.fieldLink RX4 10 "CodedStore" "disk" "LCodedStore$Disk;") (by decide +kernel)
  have hl := lv_entry ([.ref q4, .int ky]) (n := 3) (Nat.le_of_ble_eq_true rfl)
  rw [lg_entry_eq]
  generalize (lg_sl ([.ref q4, .int ky]) ++ List.replicate (3 - (lg_sl ([.ref q4, .int ky])).length) Slot.unset).toArray = ls at hl ⊢
  have hl : lv_has ls 3 [(0, .ref q4), (1, .int ky)] := hl
  refine lv_aload_n hx hb dX4_commit_0 rfl (lv_at hl 0 rfl) ?_
  refine va_get (D := (dC, dI)) (ci := 3) (v := .ref qd) (C := RX4) (T := TX4) (N := 9) hx hb hts iwX4 hown hK hP 0 rfl rfl 0 (by decide) fk10 (fun _ h9 => h9) rfl dX4_commit_1 ?_
  have hPc := hP.sub (ws' := [(qd, .inr (1, [.ref qw, .int (bI false), .int lf, .int (nI dn)])), (qw, .inl (cyI, 512, .inl w))]) [1, 2] rfl
  have hKc := hK.sub (tys' := [(cyI, .int), (cyZ, .boolean)]) [0, 1] rfl
  refine vp_callSi (va_Run.run (va_runV (As := []) (rest := []) ⟨hx, hb, hml, hown, hts⟩ (c_X2_isOn l dC dI cyI cyZ qd qw w false lf dn) (cwV 0 hts gX4_commit_X2_isOn rfl rfl rfl (by decide +kernel) ⟨Nat.le_of_ble_eq_true rfl, Nat.le_of_ble_eq_true rfl⟩) ⟨zz_blR, va_recv hKc hPc (ci := 1) (q0 := 0) rfl rfl, fun U hU hW => ⟨rfl, by rw [hU]; exact hPc, va_K.moved hW.alike hKc⟩⟩ rfl rfl hl.1 rfl (lv_room (Nat.le_of_ble_eq_true rfl)) dX4_commit_4 ⟨Nat.zero_le _, Nat.zero_le _⟩)) (fun r_4 hr_4 => ?_)
  have hr_4 : bI false = r_4 := Eq.symm hr_4
  subst hr_4
  refine lv_if_ne (tgt := 13) hx hb dX4_commit_7 (by decide) (fun c_7 => absurd (by decide) c_7) (fun c_7 => ?_)
  refine lv_bipush (v := (-4)) hx hb dX4_commit_10 (by decide) ?_
  exact W.iret hx hb hr (fun tS ht hW => ⟨_, rfl, rfl, ht⟩) (fun _ h => nomatch h) dX4_commit_12
set_option maxHeartbeats 4000000 in
set_option maxRecDepth 100000 in
theorem c_X4_delete_off (l : Launch) (dC : Nat → ClassId) (dI : Nat → Nat → Nat) (cyI cyZ : ClassId) (q4 qd qw qc qt ql qn qe qr qz : Nat) (w : Nat → Int32) (lf : Int32) (dn : Nat) (fp : Int32) (ky : Int32)  : Met l yX4_delete wsX4_delete ({ frames := 6, cells := 0, slots := 0, locals := 133 }) (va_Pc [.ref q4, .int ky] (fun U => va_P (dC, dI) vwCl [(q4, .inr (3, [.ref qd, .ref qc, .ref qt, .ref ql, .ref qn, .ref qe, .ref qr, .ref qz, .int fp])), (qd, .inr (1, [.ref qw, .int (bI false), .int lf, .int (nI dn)])), (qw, .inl (cyI, 512, .inl w))] U.heap ∧ va_K (dC, dI) vwCl [(cyI, .int), (cyZ, .boolean)] U)) (vp_Si (fun r => r = (-4))) 0 0 (fun _ => False) := by
  refine Met.ofW (cc := cX4_delete) (maxL := 3) (ret := (some .int)) (by decide) rfl ?_
  intro pz ez sS mM args below meth cC s₁ B hml hv
  obtain ⟨rfl, hP, hK⟩ := hv
  have hx := B.exec
  have hb := B.bytes
  have hr := B.returns
  have hts := atoms_spec (ws := wsX4_delete) B.pre
  have hown : sS.vm.findClass RX4 = some mM.cls := findClass_of_methodNamed B.named
  have hlocks := B.notSynchronized
  have iwX4 : ∀ w ∈ wsX40, w ∈ wsX4_delete := by decide +kernel
  have fk10 := hts (.fieldLink RX4 10 "CodedStore" "disk" "LCodedStore$Disk;") (by decide +kernel)
  have hl := lv_entry ([.ref q4, .int ky]) (n := 3) (Nat.le_of_ble_eq_true rfl)
  rw [lg_entry_eq]
  generalize (lg_sl ([.ref q4, .int ky]) ++ List.replicate (3 - (lg_sl ([.ref q4, .int ky])).length) Slot.unset).toArray = ls at hl ⊢
  have hl : lv_has ls 3 [(0, .ref q4), (1, .int ky)] := hl
  refine lv_aload_n hx hb dX4_delete_0 rfl (lv_at hl 0 rfl) ?_
  refine va_get (D := (dC, dI)) (ci := 3) (v := .ref qd) (C := RX4) (T := TX4) (N := 9) hx hb hts iwX4 hown hK hP 0 rfl rfl 0 (by decide) fk10 (fun _ h9 => h9) rfl dX4_delete_1 ?_
  have hPc := hP.sub (ws' := [(qd, .inr (1, [.ref qw, .int (bI false), .int lf, .int (nI dn)])), (qw, .inl (cyI, 512, .inl w))]) [1, 2] rfl
  have hKc := hK.sub (tys' := [(cyI, .int), (cyZ, .boolean)]) [0, 1] rfl
  refine vp_callSi (va_Run.run (va_runV (As := []) (rest := []) ⟨hx, hb, hml, hown, hts⟩ (c_X2_isOn l dC dI cyI cyZ qd qw w false lf dn) (cwV 0 hts gX4_delete_X2_isOn rfl rfl rfl (by decide +kernel) ⟨Nat.le_of_ble_eq_true rfl, Nat.le_of_ble_eq_true rfl⟩) ⟨zz_blR, va_recv hKc hPc (ci := 1) (q0 := 0) rfl rfl, fun U hU hW => ⟨rfl, by rw [hU]; exact hPc, va_K.moved hW.alike hKc⟩⟩ rfl rfl hl.1 rfl (lv_room (Nat.le_of_ble_eq_true rfl)) dX4_delete_4 ⟨Nat.zero_le _, Nat.zero_le _⟩)) (fun r_4 hr_4 => ?_)
  have hr_4 : bI false = r_4 := Eq.symm hr_4
  subst hr_4
  refine lv_if_ne (tgt := 13) hx hb dX4_delete_7 (by decide) (fun c_7 => absurd (by decide) c_7) (fun c_7 => ?_)
  refine lv_bipush (v := (-4)) hx hb dX4_delete_10 (by decide) ?_
  exact W.iret hx hb hr (fun tS ht hW => ⟨_, rfl, rfl, ht⟩) (fun _ h => nomatch h) dX4_delete_12
set_option maxHeartbeats 4000000 in
set_option maxRecDepth 100000 in
theorem c_X4_load_off (l : Launch) (dC : Nat → ClassId) (dI : Nat → Nat → Nat) (cyI cyZ : ClassId) (q4 qd qw qc qt ql qn qe qr qz : Nat) (w : Nat → Int32) (lf : Int32) (dn : Nat) (fp : Int32) (ky : Int32)  : Met l yX4_load wsX4_load ({ frames := 5, cells := 0, slots := 0, locals := 107 }) (va_Pc [.ref q4, .int ky] (fun U => va_P (dC, dI) vwCl [(q4, .inr (3, [.ref qd, .ref qc, .ref qt, .ref ql, .ref qn, .ref qe, .ref qr, .ref qz, .int fp])), (qd, .inr (1, [.ref qw, .int (bI false), .int lf, .int (nI dn)])), (qw, .inl (cyI, 512, .inl w))] U.heap ∧ va_K (dC, dI) vwCl [(cyI, .int), (cyZ, .boolean)] U)) (vp_Si (fun r => r = (-4))) 0 0 (fun _ => False) := by
  refine Met.ofW (cc := cX4_load) (maxL := 3) (ret := (some .int)) (by decide) rfl ?_
  intro pz ez sS mM args below meth cC s₁ B hml hv
  obtain ⟨rfl, hP, hK⟩ := hv
  have hx := B.exec
  have hb := B.bytes
  have hr := B.returns
  have hts := atoms_spec (ws := wsX4_load) B.pre
  have hown : sS.vm.findClass RX4 = some mM.cls := findClass_of_methodNamed B.named
  have hlocks := B.notSynchronized
  have iwX4 : ∀ w ∈ wsX40, w ∈ wsX4_load := by decide +kernel
  have fk10 := hts (.fieldLink RX4 10 "CodedStore" "disk" "LCodedStore$Disk;") (by decide +kernel)
  have hl := lv_entry ([.ref q4, .int ky]) (n := 3) (Nat.le_of_ble_eq_true rfl)
  rw [lg_entry_eq]
  generalize (lg_sl ([.ref q4, .int ky]) ++ List.replicate (3 - (lg_sl ([.ref q4, .int ky])).length) Slot.unset).toArray = ls at hl ⊢
  have hl : lv_has ls 3 [(0, .ref q4), (1, .int ky)] := hl
  refine lv_aload_n hx hb dX4_load_0 rfl (lv_at hl 0 rfl) ?_
  refine va_get (D := (dC, dI)) (ci := 3) (v := .ref qd) (C := RX4) (T := TX4) (N := 9) hx hb hts iwX4 hown hK hP 0 rfl rfl 0 (by decide) fk10 (fun _ h9 => h9) rfl dX4_load_1 ?_
  have hPc := hP.sub (ws' := [(qd, .inr (1, [.ref qw, .int (bI false), .int lf, .int (nI dn)])), (qw, .inl (cyI, 512, .inl w))]) [1, 2] rfl
  have hKc := hK.sub (tys' := [(cyI, .int), (cyZ, .boolean)]) [0, 1] rfl
  refine vp_callSi (va_Run.run (va_runV (As := []) (rest := []) ⟨hx, hb, hml, hown, hts⟩ (c_X2_isOn l dC dI cyI cyZ qd qw w false lf dn) (cwV 0 hts gX4_load_X2_isOn rfl rfl rfl (by decide +kernel) ⟨Nat.le_of_ble_eq_true rfl, Nat.le_of_ble_eq_true rfl⟩) ⟨zz_blR, va_recv hKc hPc (ci := 1) (q0 := 0) rfl rfl, fun U hU hW => ⟨rfl, by rw [hU]; exact hPc, va_K.moved hW.alike hKc⟩⟩ rfl rfl hl.1 rfl (lv_room (Nat.le_of_ble_eq_true rfl)) dX4_load_4 ⟨Nat.zero_le _, Nat.zero_le _⟩)) (fun r_4 hr_4 => ?_)
  have hr_4 : bI false = r_4 := Eq.symm hr_4
  subst hr_4
  refine lv_if_ne (tgt := 13) hx hb dX4_load_7 (by decide) (fun c_7 => absurd (by decide) c_7) (fun c_7 => ?_)
  refine lv_bipush (v := (-4)) hx hb dX4_load_10 (by decide) ?_
  exact W.iret hx hb hr (fun tS ht hW => ⟨_, rfl, rfl, ht⟩) (fun _ h => nomatch h) dX4_load_12
set_option maxHeartbeats 4000000 in
set_option maxRecDepth 100000 in
theorem c_X4_clean_off (l : Launch) (dC : Nat → ClassId) (dI : Nat → Nat → Nat) (cyI cyZ : ClassId) (q4 qd qw qc qt ql qn qe qr qz : Nat) (w : Nat → Int32) (lf : Int32) (dn : Nat) (fp : Int32)  : Met l yX4_clean wsX4_clean ({ frames := 5, cells := 0, slots := 0, locals := 107 }) (va_Pc [.ref q4] (fun U => va_P (dC, dI) vwCl [(q4, .inr (3, [.ref qd, .ref qc, .ref qt, .ref ql, .ref qn, .ref qe, .ref qr, .ref qz, .int fp])), (qd, .inr (1, [.ref qw, .int (bI false), .int lf, .int (nI dn)])), (qw, .inl (cyI, 512, .inl w))] U.heap ∧ va_K (dC, dI) vwCl [(cyI, .int), (cyZ, .boolean)] U)) (vp_Si (fun r => r = (-4))) 0 0 (fun _ => False) := by
  refine Met.ofW (cc := cX4_clean) (maxL := 3) (ret := (some .int)) (by decide) rfl ?_
  intro pz ez sS mM args below meth cC s₁ B hml hv
  obtain ⟨rfl, hP, hK⟩ := hv
  have hx := B.exec
  have hb := B.bytes
  have hr := B.returns
  have hts := atoms_spec (ws := wsX4_clean) B.pre
  have hown : sS.vm.findClass RX4 = some mM.cls := findClass_of_methodNamed B.named
  have hlocks := B.notSynchronized
  have iwX4 : ∀ w ∈ wsX40, w ∈ wsX4_clean := by decide +kernel
  have fk10 := hts (.fieldLink RX4 10 "CodedStore" "disk" "LCodedStore$Disk;") (by decide +kernel)
  have hl := lv_entry ([.ref q4]) (n := 3) (Nat.le_of_ble_eq_true rfl)
  rw [lg_entry_eq]
  generalize (lg_sl ([.ref q4]) ++ List.replicate (3 - (lg_sl ([.ref q4])).length) Slot.unset).toArray = ls at hl ⊢
  have hl : lv_has ls 3 [(0, .ref q4)] := hl
  refine lv_aload_n hx hb dX4_clean_0 rfl (lv_at hl 0 rfl) ?_
  refine va_get (D := (dC, dI)) (ci := 3) (v := .ref qd) (C := RX4) (T := TX4) (N := 9) hx hb hts iwX4 hown hK hP 0 rfl rfl 0 (by decide) fk10 (fun _ h9 => h9) rfl dX4_clean_1 ?_
  have hPc := hP.sub (ws' := [(qd, .inr (1, [.ref qw, .int (bI false), .int lf, .int (nI dn)])), (qw, .inl (cyI, 512, .inl w))]) [1, 2] rfl
  have hKc := hK.sub (tys' := [(cyI, .int), (cyZ, .boolean)]) [0, 1] rfl
  refine vp_callSi (va_Run.run (va_runV (As := []) (rest := []) ⟨hx, hb, hml, hown, hts⟩ (c_X2_isOn l dC dI cyI cyZ qd qw w false lf dn) (cwV 0 hts gX4_clean_X2_isOn rfl rfl rfl (by decide +kernel) ⟨Nat.le_of_ble_eq_true rfl, Nat.le_of_ble_eq_true rfl⟩) ⟨zz_blR, va_recv hKc hPc (ci := 1) (q0 := 0) rfl rfl, fun U hU hW => ⟨rfl, by rw [hU]; exact hPc, va_K.moved hW.alike hKc⟩⟩ rfl rfl hl.1 rfl (lv_room (Nat.le_of_ble_eq_true rfl)) dX4_clean_4 ⟨Nat.zero_le _, Nat.zero_le _⟩)) (fun r_4 hr_4 => ?_)
  have hr_4 : bI false = r_4 := Eq.symm hr_4
  subst hr_4
  refine lv_if_ne (tgt := 13) hx hb dX4_clean_7 (by decide) (fun c_7 => absurd (by decide) c_7) (fun c_7 => ?_)
  refine lv_bipush (v := (-4)) hx hb dX4_clean_10 (by decide) ?_
  exact W.iret hx hb hr (fun tS ht hW => ⟨_, rfl, rfl, ht⟩) (fun _ h => nomatch h) dX4_clean_12
set_option maxHeartbeats 4000000 in
set_option maxRecDepth 100000 in
theorem c_X4_commit (l : Launch) (dC : Nat → ClassId) (dI : Nat → Nat → Nat) (cyI cyZ : ClassId) (q4 qd qw qc qwh qlv qt qta qn qna qr ql qe qz : Nat) (sz : Nat) (w : Nat → Int32) (lf : Int32) (dn : Nat) (WH LV : Nat → Int32) (sa : Int32) (fp : Int32) (T : Nat → Int32) (n : Nat) (C0 : Nat → Int32) (m0 : Nat) (row : Nat → Int32) (ky : Int32) (hn : n ≤ 400) (HT : ∀ j, j < n → zO (T j)) (hdn0 : dn < 900000) (HS : sa = nI dn → ∀ j, j < 64 → LV j = bI (kLive w j)) : Met l yX4_commit wsX4_commit ({ frames := 6, cells := 0, slots := 0, locals := 133 }) (va_Pc [.ref q4, .int ky] (fun U => U.heap.size = sz ∧ va_P (dC, dI) vwCl [(q4, .inr (3, [.ref qd, .ref qc, .ref qt, .ref ql, .ref qn, .ref qe, .ref qr, .ref qz, .int fp])), (qd, .inr (1, [.ref qw, .int (bI true), .int lf, .int (nI dn)])), (qw, .inl (cyI, 512, .inl w)), (qc, .inr (0, [.ref qd, .ref qwh, .ref qlv, .int sa])), (qwh, .inl (cyZ, 64, .inl WH)), (qlv, .inl (cyZ, 64, .inl LV)), (qt, .inr (2, [.ref qta, .int (nI n)])), (qta, .inl (cyI, 450, .inl T)), (qn, .inr (2, [.ref qna, .int (nI m0)])), (qna, .inl (cyI, 450, .inl C0)), (qr, .inl (cyI, 8, .inl row))] U.heap ∧ va_K (dC, dI) vwCl [(cyI, .int), (cyZ, .boolean)] U ∧ va_D (fun _ => True) [(q4, .inr (3, [.ref qd, .ref qc, .ref qt, .ref ql, .ref qn, .ref qe, .ref qr, .ref qz, .int fp])), (qd, .inr (1, [.ref qw, .int (bI true), .int lf, .int (nI dn)])), (qw, .inl (cyI, 512, .inl w)), (qc, .inr (0, [.ref qd, .ref qwh, .ref qlv, .int sa])), (qwh, .inl (cyZ, 64, .inl WH)), (qlv, .inl (cyZ, 64, .inl LV)), (qt, .inr (2, [.ref qta, .int (nI n)])), (qta, .inl (cyI, 450, .inl T)), (qn, .inr (2, [.ref qna, .int (nI m0)])), (qna, .inl (cyI, 450, .inl C0)), (qr, .inl (cyI, 8, .inl row))])) (va_Qi (S := Bool × (Nat → Int32) × Int32 × Nat × (Nat → Int32) × (Nat → Int32) × Nat × (Nat → Int32) × (Nat → Int32)) (fun (r : Int32) (uU : Bool × (Nat → Int32) × Int32 × Nat × (Nat → Int32) × (Nat → Int32) × Nat × (Nat → Int32) × (Nat → Int32)) => match uU with | (on1, w1, lf1, dn1, WH1, LV1, m1, C1, row1) => ((r, on1, w1, lf1, dn1) = kCommit w lf dn ky n T) ∧ (nI dn = nI dn1 → ∀ j, j < 64 → LV1 j = bI (kLive w1 j)) ∧ (dn ≤ dn1 ∧ dn1 ≤ dn + 128)) (fun (uU : Bool × (Nat → Int32) × Int32 × Nat × (Nat → Int32) × (Nat → Int32) × Nat × (Nat → Int32) × (Nat → Int32)) tS => match uU with | (on1, w1, lf1, dn1, WH1, LV1, m1, C1, row1) => va_P (dC, dI) vwCl [(q4, .inr (3, [.ref qd, .ref qc, .ref qt, .ref ql, .ref qn, .ref qe, .ref qr, .ref qz, .int fp])), (qd, .inr (1, [.ref qw, .int (bI on1), .int lf1, .int (nI dn1)])), (qw, .inl (cyI, 512, .inl w1)), (qc, .inr (0, [.ref qd, .ref qwh, .ref qlv, .int (nI dn)])), (qwh, .inl (cyZ, 64, .inl WH1)), (qlv, .inl (cyZ, 64, .inl LV1)), (qt, .inr (2, [.ref qta, .int (nI 0)])), (qta, .inl (cyI, 450, .inl T)), (qn, .inr (2, [.ref qna, .int (nI m1)])), (qna, .inl (cyI, 450, .inl C1)), (qr, .inl (cyI, 8, .inl row1))] tS.heap ∧ va_K (dC, dI) vwCl [(cyI, .int), (cyZ, .boolean)] tS ∧ va_D (va_A [(q4, .inr (3, [.ref qd, .ref qc, .ref qt, .ref ql, .ref qn, .ref qe, .ref qr, .ref qz, .int fp])), (qd, .inr (1, [.ref qw, .int (bI true), .int lf, .int (nI dn)])), (qw, .inl (cyI, 512, .inl w)), (qc, .inr (0, [.ref qd, .ref qwh, .ref qlv, .int sa])), (qwh, .inl (cyZ, 64, .inl WH)), (qlv, .inl (cyZ, 64, .inl LV)), (qt, .inr (2, [.ref qta, .int (nI n)])), (qta, .inl (cyI, 450, .inl T)), (qn, .inr (2, [.ref qna, .int (nI m0)])), (qna, .inl (cyI, 450, .inl C0)), (qr, .inl (cyI, 8, .inl row))] sz) [(q4, .inr (3, [.ref qd, .ref qc, .ref qt, .ref ql, .ref qn, .ref qe, .ref qr, .ref qz, .int fp])), (qd, .inr (1, [.ref qw, .int (bI on1), .int lf1, .int (nI dn1)])), (qw, .inl (cyI, 512, .inl w1)), (qc, .inr (0, [.ref qd, .ref qwh, .ref qlv, .int (nI dn)])), (qwh, .inl (cyZ, 64, .inl WH1)), (qlv, .inl (cyZ, 64, .inl LV1)), (qt, .inr (2, [.ref qta, .int (nI 0)])), (qta, .inl (cyI, 450, .inl T)), (qn, .inr (2, [.ref qna, .int (nI m1)])), (qna, .inl (cyI, 450, .inl C1)), (qr, .inl (cyI, 8, .inl row1))]) (va_A [(q4, .inr (3, [.ref qd, .ref qc, .ref qt, .ref ql, .ref qn, .ref qe, .ref qr, .ref qz, .int fp])), (qd, .inr (1, [.ref qw, .int (bI true), .int lf, .int (nI dn)])), (qw, .inl (cyI, 512, .inl w)), (qc, .inr (0, [.ref qd, .ref qwh, .ref qlv, .int sa])), (qwh, .inl (cyZ, 64, .inl WH)), (qlv, .inl (cyZ, 64, .inl LV)), (qt, .inr (2, [.ref qta, .int (nI n)])), (qta, .inl (cyI, 450, .inl T)), (qn, .inr (2, [.ref qna, .int (nI m0)])), (qna, .inl (cyI, 450, .inl C0)), (qr, .inl (cyI, 8, .inl row))] sz)) 0 0 (va_A [(q4, .inr (3, [.ref qd, .ref qc, .ref qt, .ref ql, .ref qn, .ref qe, .ref qr, .ref qz, .int fp])), (qd, .inr (1, [.ref qw, .int (bI true), .int lf, .int (nI dn)])), (qw, .inl (cyI, 512, .inl w)), (qc, .inr (0, [.ref qd, .ref qwh, .ref qlv, .int sa])), (qwh, .inl (cyZ, 64, .inl WH)), (qlv, .inl (cyZ, 64, .inl LV)), (qt, .inr (2, [.ref qta, .int (nI n)])), (qta, .inl (cyI, 450, .inl T)), (qn, .inr (2, [.ref qna, .int (nI m0)])), (qna, .inl (cyI, 450, .inl C0)), (qr, .inl (cyI, 8, .inl row))] sz) := by
  refine Met.ofW (cc := cX4_commit) (maxL := 3) (ret := (some .int)) (by decide) rfl ?_
  intro pz ez sS mM args below meth cC s₁ B hml hv
  obtain ⟨rfl, hsz, hP, hK, hD0⟩ := hv
  have hx := B.exec
  have hb := B.bytes
  have hr := B.returns
  have hts := atoms_spec (ws := wsX4_commit) B.pre
  have hown : sS.vm.findClass RX4 = some mM.cls := findClass_of_methodNamed B.named
  have hlocks := B.notSynchronized
  subst hsz
  have hD := hD0.self (sz := sS.heap.size)
  generalize hAe : va_A [(q4, .inr (3, [.ref qd, .ref qc, .ref qt, .ref ql, .ref qn, .ref qe, .ref qr, .ref qz, .int fp])), (qd, .inr (1, [.ref qw, .int (bI true), .int lf, .int (nI dn)])), (qw, .inl (cyI, 512, .inl w)), (qc, .inr (0, [.ref qd, .ref qwh, .ref qlv, .int sa])), (qwh, .inl (cyZ, 64, .inl WH)), (qlv, .inl (cyZ, 64, .inl LV)), (qt, .inr (2, [.ref qta, .int (nI n)])), (qta, .inl (cyI, 450, .inl T)), (qn, .inr (2, [.ref qna, .int (nI m0)])), (qna, .inl (cyI, 450, .inl C0)), (qr, .inl (cyI, 8, .inl row))] sS.heap.size = A at hD ⊢
  have hA : ∀ q : Nat, sS.heap.size ≤ q → A q := fun q h => by rw [← hAe]; exact Or.inr h
  have hS : va_S A sS.heap sS.heap [] := va_S.rf
  have hP : va_P (dC, dI) vwCl [(q4, .inr (3, [.ref qd, .ref qc, .ref qt, .ref ql, .ref qn, .ref qe, .ref qr, .ref qz, .int fp])), (qd, .inr (1, [.ref qw, .int (bI true), .int lf, .int (nI dn)])), (qw, .inl (cyI, 512, .inl w)), (qc, .inr (0, [.ref qd, .ref qwh, .ref qlv, .int sa])), (qwh, .inl (cyZ, 64, .inl WH)), (qlv, .inl (cyZ, 64, .inl LV)), (qt, .inr (2, [.ref qta, .int (nI n)])), (qta, .inl (cyI, 450, .inl T)), (qn, .inr (2, [.ref qna, .int (nI m0)])), (qna, .inl (cyI, 450, .inl C0)), (qr, .inl (cyI, 8, .inl row))] sS.heap := hP
  have iwX4 : ∀ w ∈ wsX40, w ∈ wsX4_commit := by decide +kernel
  have fk10 := hts (.fieldLink RX4 10 "CodedStore" "disk" "LCodedStore$Disk;") (by decide +kernel)
  have fk28 := hts (.fieldLink RX4 28 "CodedStore" "tape" "LCodedStore$Octets;") (by decide +kernel)
  have fk35 := hts (.fieldLink RX4 35 "CodedStore" "content" "LCodedStore$Octets;") (by decide +kernel)
  have hl := lv_entry ([.ref q4, .int ky]) (n := 3) (Nat.le_of_ble_eq_true rfl)
  rw [lg_entry_eq]
  generalize (lg_sl ([.ref q4, .int ky]) ++ List.replicate (3 - (lg_sl ([.ref q4, .int ky])).length) Slot.unset).toArray = ls at hl ⊢
  have hl : lv_has ls 3 [(0, .ref q4), (1, .int ky)] := hl
  refine lv_aload_n hx hb dX4_commit_0 rfl (lv_at hl 0 rfl) ?_
  refine va_get (D := (dC, dI)) (ci := 3) (v := .ref qd) (C := RX4) (T := TX4) (N := 9) hx hb hts iwX4 hown hK hP 0 rfl rfl 0 (by decide) fk10 (fun _ h9 => h9) rfl dX4_commit_1 ?_
  have hPc := hP.sub (ws' := [(qd, .inr (1, [.ref qw, .int (bI true), .int lf, .int (nI dn)])), (qw, .inl (cyI, 512, .inl w))]) [1, 2] rfl
  have hKc := hK.sub (tys' := [(cyI, .int), (cyZ, .boolean)]) [0, 1] rfl
  refine vp_callSi (va_Run.run (va_runV (As := []) (rest := []) ⟨hx, hb, hml, hown, hts⟩ (c_X2_isOn l dC dI cyI cyZ qd qw w true lf dn) (cwV 0 hts gX4_commit_X2_isOn rfl rfl rfl (by decide +kernel) ⟨Nat.le_of_ble_eq_true rfl, Nat.le_of_ble_eq_true rfl⟩) ⟨zz_blR, va_recv hKc hPc (ci := 1) (q0 := 0) rfl rfl, fun U hU hW => ⟨rfl, by rw [hU]; exact hPc, va_K.moved hW.alike hKc⟩⟩ rfl rfl hl.1 rfl (lv_room (Nat.le_of_ble_eq_true rfl)) dX4_commit_4 ⟨Nat.zero_le _, Nat.zero_le _⟩)) (fun r_4 hr_4 => ?_)
  have hr_4 : bI true = r_4 := Eq.symm hr_4
  subst hr_4
  refine lv_if_ne (tgt := 13) hx hb dX4_commit_7 (by decide) (fun c_7 => ?_) (fun c_7 => absurd c_7 (by decide))
  refine lv_aload_n hx hb dX4_commit_13 rfl (lv_at hl 0 rfl) ?_
  refine va_get (D := (dC, dI)) (ci := 3) (v := .ref qt) (C := RX4) (T := TX4) (N := 9) hx hb hts iwX4 hown hK hP 0 rfl rfl 2 (by decide) fk28 (fun _ h9 => h9) rfl dX4_commit_14 ?_
  refine lv_aload_n hx hb dX4_commit_17 rfl (lv_at hl 0 rfl) ?_
  refine va_get (D := (dC, dI)) (ci := 3) (v := .ref qn) (C := RX4) (T := TX4) (N := 9) hx hb hts iwX4 hown hK hP 0 rfl rfl 4 (by decide) fk35 (fun _ h9 => h9) rfl dX4_commit_18 ?_
  have hPc := hP.sub (ws' := [(qt, .inr (2, [.ref qta, .int (nI n)])), (qta, .inl (cyI, 450, .inl T)), (qn, .inr (2, [.ref qna, .int (nI m0)])), (qna, .inl (cyI, 450, .inl C0))]) [6, 7, 8, 9] rfl
  have hKc := hK.sub (tys' := [(cyI, .int), (cyZ, .boolean)]) [0, 1] rfl
  have hDc := hD.sub (ws' := [(qt, .inr (2, [.ref qta, .int (nI n)])), (qta, .inl (cyI, 450, .inl T)), (qn, .inr (2, [.ref qna, .int (nI m0)])), (qna, .inl (cyI, 450, .inl C0))]) [6, 7, 8, 9] (by decide) rfl
  have hFc := va_free (wc := [(qt, .inr (2, [.ref qta, .int (nI n)])), (qta, .inl (cyI, 450, .inl T)), (qn, .inr (2, [.ref qna, .int (nI m0)])), (qna, .inl (cyI, 450, .inl C0))]) hD hS hA [6, 7, 8, 9] rfl
  refine va_callv (va_runS (As := [.ref qt, .ref qn]) (rest := []) ⟨hx, hb, hml, hown, hts⟩ (c_X1_encode l dC dI cyI cyZ qt qta qn qna sS.heap.size T n C0 m0 (by omega) (HT)) (va_cwS 2 hts gX4_commit_X1_encode rfl rfl rfl (by decide +kernel) ⟨Nat.le_of_ble_eq_true rfl, Nat.le_of_ble_eq_true rfl⟩) ⟨zz_blW, fun U hU hW => ⟨rfl, by rw [hU], by rw [hU]; exact hPc, va_K.moved hW.alike hKc, hDc.weaken (fun _ _ _ _ => trivial)⟩⟩ rfl rfl hl.1 rfl (lv_room (Nat.le_of_ble_eq_true rfl)) dX4_commit_21 ⟨Nat.zero_le _, Nat.zero_le _⟩) hS (fun q _ h => hFc q h) hFc (fun uU tS H1 locs ht9 hvm9 hw9 hB9 hz1 hk1 hS => ?_)
  obtain ⟨m1_21, F1_21⟩ := uU
  obtain ⟨hP1, hK1, hD1⟩ := hB9
  have hw9 : (m1_21 = (zE T n).1) ∧ (∀ j, j < m1_21 → F1_21 j = (zE T n).2 j) ∧ (m1_21 ≤ 450) := hw9
  obtain ⟨hm1_21, hF1_21, hmm_21⟩ := hw9
  rw [ht9] at hP1
  have hK1 := va_K.moved hvm9.symm hK1
  obtain ⟨hP, hD⟩ := va_join (wr := [(q4, .inr (3, [.ref qd, .ref qc, .ref qt, .ref ql, .ref qn, .ref qe, .ref qr, .ref qz, .int fp])), (qd, .inr (1, [.ref qw, .int (bI true), .int lf, .int (nI dn)])), (qw, .inl (cyI, 512, .inl w)), (qc, .inr (0, [.ref qd, .ref qwh, .ref qlv, .int sa])), (qwh, .inl (cyZ, 64, .inl WH)), (qlv, .inl (cyZ, 64, .inl LV)), (qr, .inl (cyI, 8, .inl row))]) (w1 := [(qt, .inr (2, [.ref qta, .int (nI n)])), (qta, .inl (cyI, 450, .inl T)), (qn, .inr (2, [.ref qna, .int (nI m1_21)])), (qna, .inl (cyI, 450, .inl F1_21))]) hP hD [6, 7, 8, 9] [0, 1, 2, 3, 4, 5, 10] rfl rfl (by decide) (by decide) hk1 hFc hP1 hD1
  generalize H1 = H at hP hS ⊢
  have hP : va_P (dC, dI) vwCl [(q4, .inr (3, [.ref qd, .ref qc, .ref qt, .ref ql, .ref qn, .ref qe, .ref qr, .ref qz, .int fp])), (qd, .inr (1, [.ref qw, .int (bI true), .int lf, .int (nI dn)])), (qw, .inl (cyI, 512, .inl w)), (qc, .inr (0, [.ref qd, .ref qwh, .ref qlv, .int sa])), (qwh, .inl (cyZ, 64, .inl WH)), (qlv, .inl (cyZ, 64, .inl LV)), (qr, .inl (cyI, 8, .inl row)), (qt, .inr (2, [.ref qta, .int (nI n)])), (qta, .inl (cyI, 450, .inl T)), (qn, .inr (2, [.ref qna, .int (nI m1_21)])), (qna, .inl (cyI, 450, .inl F1_21))] H := hP
  have hD : va_D A [(q4, .inr (3, [.ref qd, .ref qc, .ref qt, .ref ql, .ref qn, .ref qe, .ref qr, .ref qz, .int fp])), (qd, .inr (1, [.ref qw, .int (bI true), .int lf, .int (nI dn)])), (qw, .inl (cyI, 512, .inl w)), (qc, .inr (0, [.ref qd, .ref qwh, .ref qlv, .int sa])), (qwh, .inl (cyZ, 64, .inl WH)), (qlv, .inl (cyZ, 64, .inl LV)), (qr, .inl (cyI, 8, .inl row)), (qt, .inr (2, [.ref qta, .int (nI n)])), (qta, .inl (cyI, 450, .inl T)), (qn, .inr (2, [.ref qna, .int (nI m1_21)])), (qna, .inl (cyI, 450, .inl F1_21))] := hD
  refine lv_iconst (v := nI 1) hx hb dX4_commit_24 (by decide) ?_
  refine lv_istore_n (lv' := [(2, .int (nI 1)), (0, .ref q4), (1, .int ky)]) hx hb dX4_commit_25 rfl hl (by decide) rfl (fun ls hl => ?_)
  refine lv_aload_n hx hb dX4_commit_26 rfl (lv_at hl 1 rfl) ?_
  refine va_get (D := (dC, dI)) (ci := 3) (v := .ref qn) (C := RX4) (T := TX4) (N := 9) hx hb hts iwX4 hown hK hP 0 rfl rfl 4 (by decide) fk35 (fun _ h9 => h9) rfl dX4_commit_27 ?_
  have hPc := hP.sub (ws' := [(qn, .inr (2, [.ref qna, .int (nI m1_21)])), (qna, .inl (cyI, 450, .inl F1_21))]) [9, 10] rfl
  have hKc := hK.sub (tys' := [(cyI, .int), (cyZ, .boolean)]) [0, 1] rfl
  refine vp_callSi (va_Run.run (va_runV (As := []) (rest := []) ⟨hx, hb, hml, hown, hts⟩ (c_X3_size l dC dI cyI cyZ qn qna F1_21 m1_21) (cwV 0 hts gX4_commit_X3_size rfl rfl rfl (by decide +kernel) ⟨Nat.le_of_ble_eq_true rfl, Nat.le_of_ble_eq_true rfl⟩) ⟨zz_blR, va_recv hKc hPc (ci := 2) (q0 := 0) rfl rfl, fun U hU hW => ⟨rfl, by rw [hU]; exact hPc, va_K.moved hW.alike hKc⟩⟩ rfl rfl hl.1 rfl (lv_room (Nat.le_of_ble_eq_true rfl)) dX4_commit_30 ⟨Nat.zero_le _, Nat.zero_le _⟩)) (fun r_30 hr_30 => ?_)
  have hr_30 : nI m1_21 = r_30 := Eq.symm hr_30
  subst hr_30
  refine lv_aload_n hx hb dX4_commit_33 rfl (lv_at hl 1 rfl) ?_
  refine va_get (D := (dC, dI)) (ci := 3) (v := .ref qt) (C := RX4) (T := TX4) (N := 9) hx hb hts iwX4 hown hK hP 0 rfl rfl 2 (by decide) fk28 (fun _ h9 => h9) rfl dX4_commit_34 ?_
  have hPc := hP.sub (ws' := [(qt, .inr (2, [.ref qta, .int (nI n)])), (qta, .inl (cyI, 450, .inl T))]) [7, 8] rfl
  have hKc := hK.sub (tys' := [(cyI, .int), (cyZ, .boolean)]) [0, 1] rfl
  refine vp_callSi (va_Run.run (va_runV (As := []) (rest := [.int (nI m1_21)]) ⟨hx, hb, hml, hown, hts⟩ (c_X3_size l dC dI cyI cyZ qt qta T n) (cwV 0 hts gX4_commit_X3_size rfl rfl rfl (by decide +kernel) ⟨Nat.le_of_ble_eq_true rfl, Nat.le_of_ble_eq_true rfl⟩) ⟨zz_blR, va_recv hKc hPc (ci := 2) (q0 := 0) rfl rfl, fun U hU hW => ⟨rfl, by rw [hU]; exact hPc, va_K.moved hW.alike hKc⟩⟩ rfl rfl hl.1 rfl (lv_room (Nat.le_of_ble_eq_true rfl)) dX4_commit_37 ⟨Nat.zero_le _, Nat.zero_le _⟩)) (fun r_37 hr_37 => ?_)
  have hr_37 : nI n = r_37 := Eq.symm hr_37
  subst hr_37
  refine zn_icmp_lt (tgt := 56) hx hb dX4_commit_40 (by decide) (by omega) (by omega) (fun c_40 => ?_) (fun c_40 => ?_)
  ·
    refine lv_aload_n hx hb dX4_commit_56 rfl (lv_at hl 1 rfl) ?_
    refine va_get (D := (dC, dI)) (ci := 3) (v := .ref qt) (C := RX4) (T := TX4) (N := 9) hx hb hts iwX4 hown hK hP 0 rfl rfl 2 (by decide) fk28 (fun _ h9 => h9) rfl dX4_commit_57 ?_
    have hPc := hP.sub (ws' := [(qt, .inr (2, [.ref qta, .int (nI n)])), (qta, .inl (cyI, 450, .inl T))]) [7, 8] rfl
    have hKc := hK.sub (tys' := [(cyI, .int), (cyZ, .boolean)]) [0, 1] rfl
    have hDc := hD.sub (ws' := [(qt, .inr (2, [.ref qta, .int (nI n)])), (qta, .inl (cyI, 450, .inl T))]) [7, 8] (by decide) rfl
    have hFc := va_free (wc := [(qt, .inr (2, [.ref qta, .int (nI n)])), (qta, .inl (cyI, 450, .inl T))]) hD hS hA [7, 8] rfl
    refine va_callv (va_runV (As := []) (rest := []) ⟨hx, hb, hml, hown, hts⟩ (c_X3_empty l dC dI cyI cyZ qt qta H.size T n) (cwV 0 hts gX4_commit_X3_empty rfl rfl rfl (by decide +kernel) ⟨Nat.le_of_ble_eq_true rfl, Nat.le_of_ble_eq_true rfl⟩) ⟨zz_blW, va_recv hKc hPc (ci := 2) (q0 := 0) rfl rfl, fun U hU hW => ⟨rfl, by rw [hU], by rw [hU]; exact hPc, va_K.moved hW.alike hKc, hDc.weaken (fun _ _ _ _ => trivial)⟩⟩ rfl rfl hl.1 rfl (lv_room (Nat.le_of_ble_eq_true rfl)) dX4_commit_60 ⟨Nat.zero_le _, Nat.zero_le _⟩) hS (fun q _ h => hFc q h) hFc (fun uU tS H1 locs ht9 hvm9 hw9 hB9 hz1 hk1 hS => ?_)
    obtain ⟨hP1, hK1, hD1⟩ := hB9
    rw [ht9] at hP1
    have hK1 := va_K.moved hvm9.symm hK1
    obtain ⟨hP, hD⟩ := va_join (wr := [(q4, .inr (3, [.ref qd, .ref qc, .ref qt, .ref ql, .ref qn, .ref qe, .ref qr, .ref qz, .int fp])), (qd, .inr (1, [.ref qw, .int (bI true), .int lf, .int (nI dn)])), (qw, .inl (cyI, 512, .inl w)), (qc, .inr (0, [.ref qd, .ref qwh, .ref qlv, .int sa])), (qwh, .inl (cyZ, 64, .inl WH)), (qlv, .inl (cyZ, 64, .inl LV)), (qr, .inl (cyI, 8, .inl row)), (qn, .inr (2, [.ref qna, .int (nI m1_21)])), (qna, .inl (cyI, 450, .inl F1_21))]) (w1 := [(qt, .inr (2, [.ref qta, .int (nI 0)])), (qta, .inl (cyI, 450, .inl T))]) hP hD [7, 8] [0, 1, 2, 3, 4, 5, 6, 9, 10] rfl rfl (by decide) (by decide) hk1 hFc hP1 hD1
    generalize H1 = H at hP hS ⊢
    have hP : va_P (dC, dI) vwCl [(q4, .inr (3, [.ref qd, .ref qc, .ref qt, .ref ql, .ref qn, .ref qe, .ref qr, .ref qz, .int fp])), (qd, .inr (1, [.ref qw, .int (bI true), .int lf, .int (nI dn)])), (qw, .inl (cyI, 512, .inl w)), (qc, .inr (0, [.ref qd, .ref qwh, .ref qlv, .int sa])), (qwh, .inl (cyZ, 64, .inl WH)), (qlv, .inl (cyZ, 64, .inl LV)), (qr, .inl (cyI, 8, .inl row)), (qn, .inr (2, [.ref qna, .int (nI m1_21)])), (qna, .inl (cyI, 450, .inl F1_21)), (qt, .inr (2, [.ref qta, .int (nI 0)])), (qta, .inl (cyI, 450, .inl T))] H := hP
    have hD : va_D A [(q4, .inr (3, [.ref qd, .ref qc, .ref qt, .ref ql, .ref qn, .ref qe, .ref qr, .ref qz, .int fp])), (qd, .inr (1, [.ref qw, .int (bI true), .int lf, .int (nI dn)])), (qw, .inl (cyI, 512, .inl w)), (qc, .inr (0, [.ref qd, .ref qwh, .ref qlv, .int sa])), (qwh, .inl (cyZ, 64, .inl WH)), (qlv, .inl (cyZ, 64, .inl LV)), (qr, .inl (cyI, 8, .inl row)), (qn, .inr (2, [.ref qna, .int (nI m1_21)])), (qna, .inl (cyI, 450, .inl F1_21)), (qt, .inr (2, [.ref qta, .int (nI 0)])), (qta, .inl (cyI, 450, .inl T))] := hD
    refine lv_aload_n hx hb dX4_commit_63 rfl (lv_at hl 1 rfl) ?_
    refine lv_iload_n hx hb dX4_commit_64 rfl (lv_at hl 2 rfl) ?_
    refine lv_iload_n hx hb dX4_commit_65 rfl (lv_at hl 0 rfl) ?_
    have hPc := hP.sub (ws' := [(q4, .inr (3, [.ref qd, .ref qc, .ref qt, .ref ql, .ref qn, .ref qe, .ref qr, .ref qz, .int fp])), (qd, .inr (1, [.ref qw, .int (bI true), .int lf, .int (nI dn)])), (qw, .inl (cyI, 512, .inl w)), (qc, .inr (0, [.ref qd, .ref qwh, .ref qlv, .int sa])), (qwh, .inl (cyZ, 64, .inl WH)), (qlv, .inl (cyZ, 64, .inl LV)), (qn, .inr (2, [.ref qna, .int (nI m1_21)])), (qna, .inl (cyI, 450, .inl F1_21)), (qr, .inl (cyI, 8, .inl row))]) [0, 1, 2, 3, 4, 5, 7, 8, 6] rfl
    have hKc := hK.sub (tys' := [(cyI, .int), (cyZ, .boolean)]) [0, 1] rfl
    have hDc := hD.sub (ws' := [(q4, .inr (3, [.ref qd, .ref qc, .ref qt, .ref ql, .ref qn, .ref qe, .ref qr, .ref qz, .int fp])), (qd, .inr (1, [.ref qw, .int (bI true), .int lf, .int (nI dn)])), (qw, .inl (cyI, 512, .inl w)), (qc, .inr (0, [.ref qd, .ref qwh, .ref qlv, .int sa])), (qwh, .inl (cyZ, 64, .inl WH)), (qlv, .inl (cyZ, 64, .inl LV)), (qn, .inr (2, [.ref qna, .int (nI m1_21)])), (qna, .inl (cyI, 450, .inl F1_21)), (qr, .inl (cyI, 8, .inl row))]) [0, 1, 2, 3, 4, 5, 7, 8, 6] (by decide) rfl
    have hFc := va_free (wc := [(q4, .inr (3, [.ref qd, .ref qc, .ref qt, .ref ql, .ref qn, .ref qe, .ref qr, .ref qz, .int fp])), (qd, .inr (1, [.ref qw, .int (bI true), .int lf, .int (nI dn)])), (qw, .inl (cyI, 512, .inl w)), (qc, .inr (0, [.ref qd, .ref qwh, .ref qlv, .int sa])), (qwh, .inl (cyZ, 64, .inl WH)), (qlv, .inl (cyZ, 64, .inl LV)), (qn, .inr (2, [.ref qna, .int (nI m1_21)])), (qna, .inl (cyI, 450, .inl F1_21)), (qr, .inl (cyI, 8, .inl row))]) hD hS hA [0, 1, 2, 3, 4, 5, 7, 8, 6] rfl
    refine va_calli (va_runV (As := [.int ky, .int (nI 1)]) (rest := []) ⟨hx, hb, hml, hown, hts⟩ (c_X4_putRecord l dC dI cyI cyZ q4 qd qw qc qwh qlv qn qna qr qt ql qe qz H.size w lf dn WH LV sa fp F1_21 m1_21 row ky 1 (by omega) (by omega) (HS)) (cwV 2 hts gX4_commit_X4_putRecord rfl rfl rfl (by decide +kernel) ⟨Nat.le_of_ble_eq_true rfl, Nat.le_of_ble_eq_true rfl⟩) ⟨zz_blW, va_recv hKc hPc (ci := 3) (q0 := 0) rfl rfl, fun U hU hW => ⟨rfl, by rw [hU], by rw [hU]; exact hPc, va_K.moved hW.alike hKc, hDc.weaken (fun _ _ _ _ => trivial)⟩⟩ rfl rfl hl.1 rfl (lv_room (Nat.le_of_ble_eq_true rfl)) dX4_commit_66 ⟨Nat.zero_le _, Nat.zero_le _⟩) hS (fun q _ h => hFc q h) hFc (fun r_66 uU tS H1 locs ht9 hvm9 hw9 hB9 hz1 hk1 hS => ?_)
    obtain ⟨on1_66, w1_66, lf1_66, dn1_66, WH1_66, LV1_66, row1_66⟩ := uU
    obtain ⟨hP1, hK1, hD1⟩ := hB9
    have hw9 : ((r_66, on1_66, w1_66, lf1_66, dn1_66) = kPut w lf dn ky 1 m1_21 F1_21) ∧ (nI dn = nI dn1_66 → ∀ j, j < 64 → LV1_66 j = bI (kLive w1_66 j)) ∧ (dn ≤ dn1_66 ∧ dn1_66 ≤ dn + 64) := hw9
    obtain ⟨hPut_66, HS1_66, hdn1_66⟩ := hw9
    rw [ht9] at hP1
    have hK1 := va_K.moved hvm9.symm hK1
    obtain ⟨hP, hD⟩ := va_join (wr := [(qt, .inr (2, [.ref qta, .int (nI 0)])), (qta, .inl (cyI, 450, .inl T))]) (w1 := [(q4, .inr (3, [.ref qd, .ref qc, .ref qt, .ref ql, .ref qn, .ref qe, .ref qr, .ref qz, .int fp])), (qd, .inr (1, [.ref qw, .int (bI on1_66), .int lf1_66, .int (nI dn1_66)])), (qw, .inl (cyI, 512, .inl w1_66)), (qc, .inr (0, [.ref qd, .ref qwh, .ref qlv, .int (nI dn)])), (qwh, .inl (cyZ, 64, .inl WH1_66)), (qlv, .inl (cyZ, 64, .inl LV1_66)), (qn, .inr (2, [.ref qna, .int (nI m1_21)])), (qna, .inl (cyI, 450, .inl F1_21)), (qr, .inl (cyI, 8, .inl row1_66))]) hP hD [0, 1, 2, 3, 4, 5, 7, 8, 6] [9, 10] rfl rfl (by decide) (by decide) hk1 hFc hP1 hD1
    generalize H1 = H at hP hS ⊢
    have hP : va_P (dC, dI) vwCl [(qt, .inr (2, [.ref qta, .int (nI 0)])), (qta, .inl (cyI, 450, .inl T)), (q4, .inr (3, [.ref qd, .ref qc, .ref qt, .ref ql, .ref qn, .ref qe, .ref qr, .ref qz, .int fp])), (qd, .inr (1, [.ref qw, .int (bI on1_66), .int lf1_66, .int (nI dn1_66)])), (qw, .inl (cyI, 512, .inl w1_66)), (qc, .inr (0, [.ref qd, .ref qwh, .ref qlv, .int (nI dn)])), (qwh, .inl (cyZ, 64, .inl WH1_66)), (qlv, .inl (cyZ, 64, .inl LV1_66)), (qn, .inr (2, [.ref qna, .int (nI m1_21)])), (qna, .inl (cyI, 450, .inl F1_21)), (qr, .inl (cyI, 8, .inl row1_66))] H := hP
    have hD : va_D A [(qt, .inr (2, [.ref qta, .int (nI 0)])), (qta, .inl (cyI, 450, .inl T)), (q4, .inr (3, [.ref qd, .ref qc, .ref qt, .ref ql, .ref qn, .ref qe, .ref qr, .ref qz, .int fp])), (qd, .inr (1, [.ref qw, .int (bI on1_66), .int lf1_66, .int (nI dn1_66)])), (qw, .inl (cyI, 512, .inl w1_66)), (qc, .inr (0, [.ref qd, .ref qwh, .ref qlv, .int (nI dn)])), (qwh, .inl (cyZ, 64, .inl WH1_66)), (qlv, .inl (cyZ, 64, .inl LV1_66)), (qn, .inr (2, [.ref qna, .int (nI m1_21)])), (qna, .inl (cyI, 450, .inl F1_21)), (qr, .inl (cyI, 8, .inl row1_66))] := hD
    have hP9 := hP.sub (ws' := [(q4, .inr (3, [.ref qd, .ref qc, .ref qt, .ref ql, .ref qn, .ref qe, .ref qr, .ref qz, .int fp])), (qd, .inr (1, [.ref qw, .int (bI on1_66), .int lf1_66, .int (nI dn1_66)])), (qw, .inl (cyI, 512, .inl w1_66)), (qc, .inr (0, [.ref qd, .ref qwh, .ref qlv, .int (nI dn)])), (qwh, .inl (cyZ, 64, .inl WH1_66)), (qlv, .inl (cyZ, 64, .inl LV1_66)), (qt, .inr (2, [.ref qta, .int (nI 0)])), (qta, .inl (cyI, 450, .inl T)), (qn, .inr (2, [.ref qna, .int (nI m1_21)])), (qna, .inl (cyI, 450, .inl F1_21)), (qr, .inl (cyI, 8, .inl row1_66))]) [2, 3, 4, 5, 6, 7, 0, 1, 8, 9, 10] rfl
    have hD9 := hD.sub (ws' := [(q4, .inr (3, [.ref qd, .ref qc, .ref qt, .ref ql, .ref qn, .ref qe, .ref qr, .ref qz, .int fp])), (qd, .inr (1, [.ref qw, .int (bI on1_66), .int lf1_66, .int (nI dn1_66)])), (qw, .inl (cyI, 512, .inl w1_66)), (qc, .inr (0, [.ref qd, .ref qwh, .ref qlv, .int (nI dn)])), (qwh, .inl (cyZ, 64, .inl WH1_66)), (qlv, .inl (cyZ, 64, .inl LV1_66)), (qt, .inr (2, [.ref qta, .int (nI 0)])), (qta, .inl (cyI, 450, .inl T)), (qn, .inr (2, [.ref qna, .int (nI m1_21)])), (qna, .inl (cyI, 450, .inl F1_21)), (qr, .inl (cyI, 8, .inl row1_66))]) [2, 3, 4, 5, 6, 7, 0, 1, 8, 9, 10] (by decide) rfl
    have hK9 := hK.sub (tys' := [(cyI, .int), (cyZ, .boolean)]) [0, 1] rfl
    exact W.iret hx hb hr (fun tS ht hW => ⟨⟨_, (on1_66, w1_66, lf1_66, dn1_66, WH1_66, LV1_66, m1_21, F1_21, row1_66), rfl, ⟨by rw [hPut_66, kCommit, if_pos (by rw [← hm1_21]; exact c_40), ← hm1_21]; exact kPut_cong hF1_21, HS1_66, by omega⟩, by rw [ht]; exact hP9, va_K.moved hW.alike hK9, hD9⟩, hS.F ht⟩) hS.2.2 dX4_commit_69
  ·
    refine lv_iconst (v := nI 0) hx hb dX4_commit_43 (by decide) ?_
    refine lv_istore_n (lv' := [(2, .int (nI 0)), (0, .ref q4), (1, .int ky)]) hx hb dX4_commit_44 rfl hl (by decide) rfl (fun ls hl => ?_)
    refine lv_aload_n hx hb dX4_commit_45 rfl (lv_at hl 1 rfl) ?_
    refine va_get (D := (dC, dI)) (ci := 3) (v := .ref qn) (C := RX4) (T := TX4) (N := 9) hx hb hts iwX4 hown hK hP 0 rfl rfl 4 (by decide) fk35 (fun _ h9 => h9) rfl dX4_commit_46 ?_
    refine lv_aload_n hx hb dX4_commit_49 rfl (lv_at hl 1 rfl) ?_
    refine va_get (D := (dC, dI)) (ci := 3) (v := .ref qt) (C := RX4) (T := TX4) (N := 9) hx hb hts iwX4 hown hK hP 0 rfl rfl 2 (by decide) fk28 (fun _ h9 => h9) rfl dX4_commit_50 ?_
    have hPc := hP.sub (ws' := [(qn, .inr (2, [.ref qna, .int (nI m1_21)])), (qna, .inl (cyI, 450, .inl F1_21)), (qt, .inr (2, [.ref qta, .int (nI n)])), (qta, .inl (cyI, 450, .inl T))]) [9, 10, 7, 8] rfl
    have hKc := hK.sub (tys' := [(cyI, .int), (cyZ, .boolean)]) [0, 1] rfl
    have hDc := hD.sub (ws' := [(qn, .inr (2, [.ref qna, .int (nI m1_21)])), (qna, .inl (cyI, 450, .inl F1_21)), (qt, .inr (2, [.ref qta, .int (nI n)])), (qta, .inl (cyI, 450, .inl T))]) [9, 10, 7, 8] (by decide) rfl
    have hFc := va_free (wc := [(qn, .inr (2, [.ref qna, .int (nI m1_21)])), (qna, .inl (cyI, 450, .inl F1_21)), (qt, .inr (2, [.ref qta, .int (nI n)])), (qta, .inl (cyI, 450, .inl T))]) hD hS hA [9, 10, 7, 8] rfl
    refine va_callv (va_runV (As := [.ref qt]) (rest := []) ⟨hx, hb, hml, hown, hts⟩ (c_X3_becomeLike l dC dI cyI cyZ qn qna qt qta H.size F1_21 m1_21 T n (by omega) (HT)) (cwV 1 hts gX4_commit_X3_becomeLike rfl rfl rfl (by decide +kernel) ⟨Nat.le_of_ble_eq_true rfl, Nat.le_of_ble_eq_true rfl⟩) ⟨zz_blW, va_recv hKc hPc (ci := 2) (q0 := 0) rfl rfl, fun U hU hW => ⟨rfl, by rw [hU], by rw [hU]; exact hPc, va_K.moved hW.alike hKc, hDc.weaken (fun _ _ _ _ => trivial)⟩⟩ rfl rfl hl.1 rfl (lv_room (Nat.le_of_ble_eq_true rfl)) dX4_commit_53 ⟨Nat.zero_le _, Nat.zero_le _⟩) hS (fun q _ h => hFc q h) hFc (fun uU tS H1 locs ht9 hvm9 hw9 hB9 hz1 hk1 hS => ?_)
    obtain ⟨f1_53, rfl⟩ : ∃ z, z = uU := ⟨_, rfl⟩
    obtain ⟨hP1, hK1, hD1⟩ := hB9
    have hw9 : (∀ j, j < n → f1_53 j = T j) := hw9
    have hf_53 := hw9
    rw [ht9] at hP1
    have hK1 := va_K.moved hvm9.symm hK1
    obtain ⟨hP, hD⟩ := va_join (wr := [(q4, .inr (3, [.ref qd, .ref qc, .ref qt, .ref ql, .ref qn, .ref qe, .ref qr, .ref qz, .int fp])), (qd, .inr (1, [.ref qw, .int (bI true), .int lf, .int (nI dn)])), (qw, .inl (cyI, 512, .inl w)), (qc, .inr (0, [.ref qd, .ref qwh, .ref qlv, .int sa])), (qwh, .inl (cyZ, 64, .inl WH)), (qlv, .inl (cyZ, 64, .inl LV)), (qr, .inl (cyI, 8, .inl row))]) (w1 := [(qn, .inr (2, [.ref qna, .int (nI n)])), (qna, .inl (cyI, 450, .inl f1_53)), (qt, .inr (2, [.ref qta, .int (nI n)])), (qta, .inl (cyI, 450, .inl T))]) hP hD [9, 10, 7, 8] [0, 1, 2, 3, 4, 5, 6] rfl rfl (by decide) (by decide) hk1 hFc hP1 hD1
    generalize H1 = H at hP hS ⊢
    have hP : va_P (dC, dI) vwCl [(q4, .inr (3, [.ref qd, .ref qc, .ref qt, .ref ql, .ref qn, .ref qe, .ref qr, .ref qz, .int fp])), (qd, .inr (1, [.ref qw, .int (bI true), .int lf, .int (nI dn)])), (qw, .inl (cyI, 512, .inl w)), (qc, .inr (0, [.ref qd, .ref qwh, .ref qlv, .int sa])), (qwh, .inl (cyZ, 64, .inl WH)), (qlv, .inl (cyZ, 64, .inl LV)), (qr, .inl (cyI, 8, .inl row)), (qn, .inr (2, [.ref qna, .int (nI n)])), (qna, .inl (cyI, 450, .inl f1_53)), (qt, .inr (2, [.ref qta, .int (nI n)])), (qta, .inl (cyI, 450, .inl T))] H := hP
    have hD : va_D A [(q4, .inr (3, [.ref qd, .ref qc, .ref qt, .ref ql, .ref qn, .ref qe, .ref qr, .ref qz, .int fp])), (qd, .inr (1, [.ref qw, .int (bI true), .int lf, .int (nI dn)])), (qw, .inl (cyI, 512, .inl w)), (qc, .inr (0, [.ref qd, .ref qwh, .ref qlv, .int sa])), (qwh, .inl (cyZ, 64, .inl WH)), (qlv, .inl (cyZ, 64, .inl LV)), (qr, .inl (cyI, 8, .inl row)), (qn, .inr (2, [.ref qna, .int (nI n)])), (qna, .inl (cyI, 450, .inl f1_53)), (qt, .inr (2, [.ref qta, .int (nI n)])), (qta, .inl (cyI, 450, .inl T))] := hD
    refine lv_aload_n hx hb dX4_commit_56 rfl (lv_at hl 1 rfl) ?_
    refine va_get (D := (dC, dI)) (ci := 3) (v := .ref qt) (C := RX4) (T := TX4) (N := 9) hx hb hts iwX4 hown hK hP 0 rfl rfl 2 (by decide) fk28 (fun _ h9 => h9) rfl dX4_commit_57 ?_
    have hPc := hP.sub (ws' := [(qt, .inr (2, [.ref qta, .int (nI n)])), (qta, .inl (cyI, 450, .inl T))]) [9, 10] rfl
    have hKc := hK.sub (tys' := [(cyI, .int), (cyZ, .boolean)]) [0, 1] rfl
    have hDc := hD.sub (ws' := [(qt, .inr (2, [.ref qta, .int (nI n)])), (qta, .inl (cyI, 450, .inl T))]) [9, 10] (by decide) rfl
    have hFc := va_free (wc := [(qt, .inr (2, [.ref qta, .int (nI n)])), (qta, .inl (cyI, 450, .inl T))]) hD hS hA [9, 10] rfl
    refine va_callv (va_runV (As := []) (rest := []) ⟨hx, hb, hml, hown, hts⟩ (c_X3_empty l dC dI cyI cyZ qt qta H.size T n) (cwV 0 hts gX4_commit_X3_empty rfl rfl rfl (by decide +kernel) ⟨Nat.le_of_ble_eq_true rfl, Nat.le_of_ble_eq_true rfl⟩) ⟨zz_blW, va_recv hKc hPc (ci := 2) (q0 := 0) rfl rfl, fun U hU hW => ⟨rfl, by rw [hU], by rw [hU]; exact hPc, va_K.moved hW.alike hKc, hDc.weaken (fun _ _ _ _ => trivial)⟩⟩ rfl rfl hl.1 rfl (lv_room (Nat.le_of_ble_eq_true rfl)) dX4_commit_60 ⟨Nat.zero_le _, Nat.zero_le _⟩) hS (fun q _ h => hFc q h) hFc (fun uU tS H1 locs ht9 hvm9 hw9 hB9 hz1 hk1 hS => ?_)
    obtain ⟨hP1, hK1, hD1⟩ := hB9
    rw [ht9] at hP1
    have hK1 := va_K.moved hvm9.symm hK1
    obtain ⟨hP, hD⟩ := va_join (wr := [(q4, .inr (3, [.ref qd, .ref qc, .ref qt, .ref ql, .ref qn, .ref qe, .ref qr, .ref qz, .int fp])), (qd, .inr (1, [.ref qw, .int (bI true), .int lf, .int (nI dn)])), (qw, .inl (cyI, 512, .inl w)), (qc, .inr (0, [.ref qd, .ref qwh, .ref qlv, .int sa])), (qwh, .inl (cyZ, 64, .inl WH)), (qlv, .inl (cyZ, 64, .inl LV)), (qr, .inl (cyI, 8, .inl row)), (qn, .inr (2, [.ref qna, .int (nI n)])), (qna, .inl (cyI, 450, .inl f1_53))]) (w1 := [(qt, .inr (2, [.ref qta, .int (nI 0)])), (qta, .inl (cyI, 450, .inl T))]) hP hD [9, 10] [0, 1, 2, 3, 4, 5, 6, 7, 8] rfl rfl (by decide) (by decide) hk1 hFc hP1 hD1
    generalize H1 = H at hP hS ⊢
    have hP : va_P (dC, dI) vwCl [(q4, .inr (3, [.ref qd, .ref qc, .ref qt, .ref ql, .ref qn, .ref qe, .ref qr, .ref qz, .int fp])), (qd, .inr (1, [.ref qw, .int (bI true), .int lf, .int (nI dn)])), (qw, .inl (cyI, 512, .inl w)), (qc, .inr (0, [.ref qd, .ref qwh, .ref qlv, .int sa])), (qwh, .inl (cyZ, 64, .inl WH)), (qlv, .inl (cyZ, 64, .inl LV)), (qr, .inl (cyI, 8, .inl row)), (qn, .inr (2, [.ref qna, .int (nI n)])), (qna, .inl (cyI, 450, .inl f1_53)), (qt, .inr (2, [.ref qta, .int (nI 0)])), (qta, .inl (cyI, 450, .inl T))] H := hP
    have hD : va_D A [(q4, .inr (3, [.ref qd, .ref qc, .ref qt, .ref ql, .ref qn, .ref qe, .ref qr, .ref qz, .int fp])), (qd, .inr (1, [.ref qw, .int (bI true), .int lf, .int (nI dn)])), (qw, .inl (cyI, 512, .inl w)), (qc, .inr (0, [.ref qd, .ref qwh, .ref qlv, .int sa])), (qwh, .inl (cyZ, 64, .inl WH)), (qlv, .inl (cyZ, 64, .inl LV)), (qr, .inl (cyI, 8, .inl row)), (qn, .inr (2, [.ref qna, .int (nI n)])), (qna, .inl (cyI, 450, .inl f1_53)), (qt, .inr (2, [.ref qta, .int (nI 0)])), (qta, .inl (cyI, 450, .inl T))] := hD
    refine lv_aload_n hx hb dX4_commit_63 rfl (lv_at hl 1 rfl) ?_
    refine lv_iload_n hx hb dX4_commit_64 rfl (lv_at hl 2 rfl) ?_
    refine lv_iload_n hx hb dX4_commit_65 rfl (lv_at hl 0 rfl) ?_
    have hPc := hP.sub (ws' := [(q4, .inr (3, [.ref qd, .ref qc, .ref qt, .ref ql, .ref qn, .ref qe, .ref qr, .ref qz, .int fp])), (qd, .inr (1, [.ref qw, .int (bI true), .int lf, .int (nI dn)])), (qw, .inl (cyI, 512, .inl w)), (qc, .inr (0, [.ref qd, .ref qwh, .ref qlv, .int sa])), (qwh, .inl (cyZ, 64, .inl WH)), (qlv, .inl (cyZ, 64, .inl LV)), (qn, .inr (2, [.ref qna, .int (nI n)])), (qna, .inl (cyI, 450, .inl f1_53)), (qr, .inl (cyI, 8, .inl row))]) [0, 1, 2, 3, 4, 5, 7, 8, 6] rfl
    have hKc := hK.sub (tys' := [(cyI, .int), (cyZ, .boolean)]) [0, 1] rfl
    have hDc := hD.sub (ws' := [(q4, .inr (3, [.ref qd, .ref qc, .ref qt, .ref ql, .ref qn, .ref qe, .ref qr, .ref qz, .int fp])), (qd, .inr (1, [.ref qw, .int (bI true), .int lf, .int (nI dn)])), (qw, .inl (cyI, 512, .inl w)), (qc, .inr (0, [.ref qd, .ref qwh, .ref qlv, .int sa])), (qwh, .inl (cyZ, 64, .inl WH)), (qlv, .inl (cyZ, 64, .inl LV)), (qn, .inr (2, [.ref qna, .int (nI n)])), (qna, .inl (cyI, 450, .inl f1_53)), (qr, .inl (cyI, 8, .inl row))]) [0, 1, 2, 3, 4, 5, 7, 8, 6] (by decide) rfl
    have hFc := va_free (wc := [(q4, .inr (3, [.ref qd, .ref qc, .ref qt, .ref ql, .ref qn, .ref qe, .ref qr, .ref qz, .int fp])), (qd, .inr (1, [.ref qw, .int (bI true), .int lf, .int (nI dn)])), (qw, .inl (cyI, 512, .inl w)), (qc, .inr (0, [.ref qd, .ref qwh, .ref qlv, .int sa])), (qwh, .inl (cyZ, 64, .inl WH)), (qlv, .inl (cyZ, 64, .inl LV)), (qn, .inr (2, [.ref qna, .int (nI n)])), (qna, .inl (cyI, 450, .inl f1_53)), (qr, .inl (cyI, 8, .inl row))]) hD hS hA [0, 1, 2, 3, 4, 5, 7, 8, 6] rfl
    refine va_calli (va_runV (As := [.int ky, .int (nI 0)]) (rest := []) ⟨hx, hb, hml, hown, hts⟩ (c_X4_putRecord l dC dI cyI cyZ q4 qd qw qc qwh qlv qn qna qr qt ql qe qz H.size w lf dn WH LV sa fp f1_53 n row ky 0 (by omega) (by omega) (HS)) (cwV 2 hts gX4_commit_X4_putRecord rfl rfl rfl (by decide +kernel) ⟨Nat.le_of_ble_eq_true rfl, Nat.le_of_ble_eq_true rfl⟩) ⟨zz_blW, va_recv hKc hPc (ci := 3) (q0 := 0) rfl rfl, fun U hU hW => ⟨rfl, by rw [hU], by rw [hU]; exact hPc, va_K.moved hW.alike hKc, hDc.weaken (fun _ _ _ _ => trivial)⟩⟩ rfl rfl hl.1 rfl (lv_room (Nat.le_of_ble_eq_true rfl)) dX4_commit_66 ⟨Nat.zero_le _, Nat.zero_le _⟩) hS (fun q _ h => hFc q h) hFc (fun r_66 uU tS H1 locs ht9 hvm9 hw9 hB9 hz1 hk1 hS => ?_)
    obtain ⟨on1_66, w1_66, lf1_66, dn1_66, WH1_66, LV1_66, row1_66⟩ := uU
    obtain ⟨hP1, hK1, hD1⟩ := hB9
    have hw9 : ((r_66, on1_66, w1_66, lf1_66, dn1_66) = kPut w lf dn ky 0 n f1_53) ∧ (nI dn = nI dn1_66 → ∀ j, j < 64 → LV1_66 j = bI (kLive w1_66 j)) ∧ (dn ≤ dn1_66 ∧ dn1_66 ≤ dn + 64) := hw9
    obtain ⟨hPut_66, HS1_66, hdn1_66⟩ := hw9
    rw [ht9] at hP1
    have hK1 := va_K.moved hvm9.symm hK1
    obtain ⟨hP, hD⟩ := va_join (wr := [(qt, .inr (2, [.ref qta, .int (nI 0)])), (qta, .inl (cyI, 450, .inl T))]) (w1 := [(q4, .inr (3, [.ref qd, .ref qc, .ref qt, .ref ql, .ref qn, .ref qe, .ref qr, .ref qz, .int fp])), (qd, .inr (1, [.ref qw, .int (bI on1_66), .int lf1_66, .int (nI dn1_66)])), (qw, .inl (cyI, 512, .inl w1_66)), (qc, .inr (0, [.ref qd, .ref qwh, .ref qlv, .int (nI dn)])), (qwh, .inl (cyZ, 64, .inl WH1_66)), (qlv, .inl (cyZ, 64, .inl LV1_66)), (qn, .inr (2, [.ref qna, .int (nI n)])), (qna, .inl (cyI, 450, .inl f1_53)), (qr, .inl (cyI, 8, .inl row1_66))]) hP hD [0, 1, 2, 3, 4, 5, 7, 8, 6] [9, 10] rfl rfl (by decide) (by decide) hk1 hFc hP1 hD1
    generalize H1 = H at hP hS ⊢
    have hP : va_P (dC, dI) vwCl [(qt, .inr (2, [.ref qta, .int (nI 0)])), (qta, .inl (cyI, 450, .inl T)), (q4, .inr (3, [.ref qd, .ref qc, .ref qt, .ref ql, .ref qn, .ref qe, .ref qr, .ref qz, .int fp])), (qd, .inr (1, [.ref qw, .int (bI on1_66), .int lf1_66, .int (nI dn1_66)])), (qw, .inl (cyI, 512, .inl w1_66)), (qc, .inr (0, [.ref qd, .ref qwh, .ref qlv, .int (nI dn)])), (qwh, .inl (cyZ, 64, .inl WH1_66)), (qlv, .inl (cyZ, 64, .inl LV1_66)), (qn, .inr (2, [.ref qna, .int (nI n)])), (qna, .inl (cyI, 450, .inl f1_53)), (qr, .inl (cyI, 8, .inl row1_66))] H := hP
    have hD : va_D A [(qt, .inr (2, [.ref qta, .int (nI 0)])), (qta, .inl (cyI, 450, .inl T)), (q4, .inr (3, [.ref qd, .ref qc, .ref qt, .ref ql, .ref qn, .ref qe, .ref qr, .ref qz, .int fp])), (qd, .inr (1, [.ref qw, .int (bI on1_66), .int lf1_66, .int (nI dn1_66)])), (qw, .inl (cyI, 512, .inl w1_66)), (qc, .inr (0, [.ref qd, .ref qwh, .ref qlv, .int (nI dn)])), (qwh, .inl (cyZ, 64, .inl WH1_66)), (qlv, .inl (cyZ, 64, .inl LV1_66)), (qn, .inr (2, [.ref qna, .int (nI n)])), (qna, .inl (cyI, 450, .inl f1_53)), (qr, .inl (cyI, 8, .inl row1_66))] := hD
    have hP9 := hP.sub (ws' := [(q4, .inr (3, [.ref qd, .ref qc, .ref qt, .ref ql, .ref qn, .ref qe, .ref qr, .ref qz, .int fp])), (qd, .inr (1, [.ref qw, .int (bI on1_66), .int lf1_66, .int (nI dn1_66)])), (qw, .inl (cyI, 512, .inl w1_66)), (qc, .inr (0, [.ref qd, .ref qwh, .ref qlv, .int (nI dn)])), (qwh, .inl (cyZ, 64, .inl WH1_66)), (qlv, .inl (cyZ, 64, .inl LV1_66)), (qt, .inr (2, [.ref qta, .int (nI 0)])), (qta, .inl (cyI, 450, .inl T)), (qn, .inr (2, [.ref qna, .int (nI n)])), (qna, .inl (cyI, 450, .inl f1_53)), (qr, .inl (cyI, 8, .inl row1_66))]) [2, 3, 4, 5, 6, 7, 0, 1, 8, 9, 10] rfl
    have hD9 := hD.sub (ws' := [(q4, .inr (3, [.ref qd, .ref qc, .ref qt, .ref ql, .ref qn, .ref qe, .ref qr, .ref qz, .int fp])), (qd, .inr (1, [.ref qw, .int (bI on1_66), .int lf1_66, .int (nI dn1_66)])), (qw, .inl (cyI, 512, .inl w1_66)), (qc, .inr (0, [.ref qd, .ref qwh, .ref qlv, .int (nI dn)])), (qwh, .inl (cyZ, 64, .inl WH1_66)), (qlv, .inl (cyZ, 64, .inl LV1_66)), (qt, .inr (2, [.ref qta, .int (nI 0)])), (qta, .inl (cyI, 450, .inl T)), (qn, .inr (2, [.ref qna, .int (nI n)])), (qna, .inl (cyI, 450, .inl f1_53)), (qr, .inl (cyI, 8, .inl row1_66))]) [2, 3, 4, 5, 6, 7, 0, 1, 8, 9, 10] (by decide) rfl
    have hK9 := hK.sub (tys' := [(cyI, .int), (cyZ, .boolean)]) [0, 1] rfl
    exact W.iret hx hb hr (fun tS ht hW => ⟨⟨_, (on1_66, w1_66, lf1_66, dn1_66, WH1_66, LV1_66, n, f1_53, row1_66), rfl, ⟨by rw [hPut_66, kCommit, if_neg (by rw [← hm1_21]; omega)]; exact kPut_cong hf_53, HS1_66, by omega⟩, by rw [ht]; exact hP9, va_K.moved hW.alike hK9, hD9⟩, hS.F ht⟩) hS.2.2 dX4_commit_69
set_option maxHeartbeats 4000000 in
set_option maxRecDepth 100000 in
theorem c_X4_delete (l : Launch) (dC : Nat → ClassId) (dI : Nat → Nat → Nat) (cyI cyZ : ClassId) (q4 qd qw qc qwh qlv qn qna qr qt ql qe qz : Nat) (sz : Nat) (w : Nat → Int32) (lf : Int32) (dn : Nat) (WH LV : Nat → Int32) (sa : Int32) (fp : Int32) (C0 : Nat → Int32) (m0 : Nat) (row : Nat → Int32) (ky : Int32) (hdn0 : dn < 900000) (HS : sa = nI dn → ∀ j, j < 64 → LV j = bI (kLive w j)) : Met l yX4_delete wsX4_delete ({ frames := 6, cells := 0, slots := 0, locals := 133 }) (va_Pc [.ref q4, .int ky] (fun U => U.heap.size = sz ∧ va_P (dC, dI) vwCl [(q4, .inr (3, [.ref qd, .ref qc, .ref qt, .ref ql, .ref qn, .ref qe, .ref qr, .ref qz, .int fp])), (qd, .inr (1, [.ref qw, .int (bI true), .int lf, .int (nI dn)])), (qw, .inl (cyI, 512, .inl w)), (qc, .inr (0, [.ref qd, .ref qwh, .ref qlv, .int sa])), (qwh, .inl (cyZ, 64, .inl WH)), (qlv, .inl (cyZ, 64, .inl LV)), (qn, .inr (2, [.ref qna, .int (nI m0)])), (qna, .inl (cyI, 450, .inl C0)), (qr, .inl (cyI, 8, .inl row))] U.heap ∧ va_K (dC, dI) vwCl [(cyI, .int), (cyZ, .boolean)] U ∧ va_D (fun _ => True) [(q4, .inr (3, [.ref qd, .ref qc, .ref qt, .ref ql, .ref qn, .ref qe, .ref qr, .ref qz, .int fp])), (qd, .inr (1, [.ref qw, .int (bI true), .int lf, .int (nI dn)])), (qw, .inl (cyI, 512, .inl w)), (qc, .inr (0, [.ref qd, .ref qwh, .ref qlv, .int sa])), (qwh, .inl (cyZ, 64, .inl WH)), (qlv, .inl (cyZ, 64, .inl LV)), (qn, .inr (2, [.ref qna, .int (nI m0)])), (qna, .inl (cyI, 450, .inl C0)), (qr, .inl (cyI, 8, .inl row))])) (va_Qi (S := Bool × (Nat → Int32) × Int32 × Nat × (Nat → Int32) × (Nat → Int32) × Nat × (Nat → Int32)) (fun (r : Int32) (uU : Bool × (Nat → Int32) × Int32 × Nat × (Nat → Int32) × (Nat → Int32) × Nat × (Nat → Int32)) => match uU with | (on1, w1, lf1, dn1, WH1, LV1, m1, row1) => ((r, on1, w1, lf1, dn1) = kDel w lf dn ky) ∧ (nI dn = nI dn1 → ∀ j, j < 64 → LV1 j = bI (kLive w1 j)) ∧ (dn ≤ dn1 ∧ dn1 ≤ dn + 128)) (fun (uU : Bool × (Nat → Int32) × Int32 × Nat × (Nat → Int32) × (Nat → Int32) × Nat × (Nat → Int32)) tS => match uU with | (on1, w1, lf1, dn1, WH1, LV1, m1, row1) => va_P (dC, dI) vwCl [(q4, .inr (3, [.ref qd, .ref qc, .ref qt, .ref ql, .ref qn, .ref qe, .ref qr, .ref qz, .int fp])), (qd, .inr (1, [.ref qw, .int (bI on1), .int lf1, .int (nI dn1)])), (qw, .inl (cyI, 512, .inl w1)), (qc, .inr (0, [.ref qd, .ref qwh, .ref qlv, .int (nI dn)])), (qwh, .inl (cyZ, 64, .inl WH1)), (qlv, .inl (cyZ, 64, .inl LV1)), (qn, .inr (2, [.ref qna, .int (nI m1)])), (qna, .inl (cyI, 450, .inl C0)), (qr, .inl (cyI, 8, .inl row1))] tS.heap ∧ va_K (dC, dI) vwCl [(cyI, .int), (cyZ, .boolean)] tS ∧ va_D (va_A [(q4, .inr (3, [.ref qd, .ref qc, .ref qt, .ref ql, .ref qn, .ref qe, .ref qr, .ref qz, .int fp])), (qd, .inr (1, [.ref qw, .int (bI true), .int lf, .int (nI dn)])), (qw, .inl (cyI, 512, .inl w)), (qc, .inr (0, [.ref qd, .ref qwh, .ref qlv, .int sa])), (qwh, .inl (cyZ, 64, .inl WH)), (qlv, .inl (cyZ, 64, .inl LV)), (qn, .inr (2, [.ref qna, .int (nI m0)])), (qna, .inl (cyI, 450, .inl C0)), (qr, .inl (cyI, 8, .inl row))] sz) [(q4, .inr (3, [.ref qd, .ref qc, .ref qt, .ref ql, .ref qn, .ref qe, .ref qr, .ref qz, .int fp])), (qd, .inr (1, [.ref qw, .int (bI on1), .int lf1, .int (nI dn1)])), (qw, .inl (cyI, 512, .inl w1)), (qc, .inr (0, [.ref qd, .ref qwh, .ref qlv, .int (nI dn)])), (qwh, .inl (cyZ, 64, .inl WH1)), (qlv, .inl (cyZ, 64, .inl LV1)), (qn, .inr (2, [.ref qna, .int (nI m1)])), (qna, .inl (cyI, 450, .inl C0)), (qr, .inl (cyI, 8, .inl row1))]) (va_A [(q4, .inr (3, [.ref qd, .ref qc, .ref qt, .ref ql, .ref qn, .ref qe, .ref qr, .ref qz, .int fp])), (qd, .inr (1, [.ref qw, .int (bI true), .int lf, .int (nI dn)])), (qw, .inl (cyI, 512, .inl w)), (qc, .inr (0, [.ref qd, .ref qwh, .ref qlv, .int sa])), (qwh, .inl (cyZ, 64, .inl WH)), (qlv, .inl (cyZ, 64, .inl LV)), (qn, .inr (2, [.ref qna, .int (nI m0)])), (qna, .inl (cyI, 450, .inl C0)), (qr, .inl (cyI, 8, .inl row))] sz)) 0 0 (va_A [(q4, .inr (3, [.ref qd, .ref qc, .ref qt, .ref ql, .ref qn, .ref qe, .ref qr, .ref qz, .int fp])), (qd, .inr (1, [.ref qw, .int (bI true), .int lf, .int (nI dn)])), (qw, .inl (cyI, 512, .inl w)), (qc, .inr (0, [.ref qd, .ref qwh, .ref qlv, .int sa])), (qwh, .inl (cyZ, 64, .inl WH)), (qlv, .inl (cyZ, 64, .inl LV)), (qn, .inr (2, [.ref qna, .int (nI m0)])), (qna, .inl (cyI, 450, .inl C0)), (qr, .inl (cyI, 8, .inl row))] sz) := by
  refine Met.ofW (cc := cX4_delete) (maxL := 3) (ret := (some .int)) (by decide) rfl ?_
  intro pz ez sS mM args below meth cC s₁ B hml hv
  obtain ⟨rfl, hsz, hP, hK, hD0⟩ := hv
  have hx := B.exec
  have hb := B.bytes
  have hr := B.returns
  have hts := atoms_spec (ws := wsX4_delete) B.pre
  have hown : sS.vm.findClass RX4 = some mM.cls := findClass_of_methodNamed B.named
  have hlocks := B.notSynchronized
  subst hsz
  have hD := hD0.self (sz := sS.heap.size)
  generalize hAe : va_A [(q4, .inr (3, [.ref qd, .ref qc, .ref qt, .ref ql, .ref qn, .ref qe, .ref qr, .ref qz, .int fp])), (qd, .inr (1, [.ref qw, .int (bI true), .int lf, .int (nI dn)])), (qw, .inl (cyI, 512, .inl w)), (qc, .inr (0, [.ref qd, .ref qwh, .ref qlv, .int sa])), (qwh, .inl (cyZ, 64, .inl WH)), (qlv, .inl (cyZ, 64, .inl LV)), (qn, .inr (2, [.ref qna, .int (nI m0)])), (qna, .inl (cyI, 450, .inl C0)), (qr, .inl (cyI, 8, .inl row))] sS.heap.size = A at hD ⊢
  have hA : ∀ q : Nat, sS.heap.size ≤ q → A q := fun q h => by rw [← hAe]; exact Or.inr h
  have hS : va_S A sS.heap sS.heap [] := va_S.rf
  have hP : va_P (dC, dI) vwCl [(q4, .inr (3, [.ref qd, .ref qc, .ref qt, .ref ql, .ref qn, .ref qe, .ref qr, .ref qz, .int fp])), (qd, .inr (1, [.ref qw, .int (bI true), .int lf, .int (nI dn)])), (qw, .inl (cyI, 512, .inl w)), (qc, .inr (0, [.ref qd, .ref qwh, .ref qlv, .int sa])), (qwh, .inl (cyZ, 64, .inl WH)), (qlv, .inl (cyZ, 64, .inl LV)), (qn, .inr (2, [.ref qna, .int (nI m0)])), (qna, .inl (cyI, 450, .inl C0)), (qr, .inl (cyI, 8, .inl row))] sS.heap := hP
  have iwX4 : ∀ w ∈ wsX40, w ∈ wsX4_delete := by decide +kernel
  have fk10 := hts (.fieldLink RX4 10 "CodedStore" "disk" "LCodedStore$Disk;") (by decide +kernel)
  have fk21 := hts (.fieldLink RX4 21 "CodedStore" "catalog" "LCodedStore$Catalog;") (by decide +kernel)
  have fk35 := hts (.fieldLink RX4 35 "CodedStore" "content" "LCodedStore$Octets;") (by decide +kernel)
  have hl := lv_entry ([.ref q4, .int ky]) (n := 3) (Nat.le_of_ble_eq_true rfl)
  rw [lg_entry_eq]
  generalize (lg_sl ([.ref q4, .int ky]) ++ List.replicate (3 - (lg_sl ([.ref q4, .int ky])).length) Slot.unset).toArray = ls at hl ⊢
  have hl : lv_has ls 3 [(0, .ref q4), (1, .int ky)] := hl
  refine lv_aload_n hx hb dX4_delete_0 rfl (lv_at hl 0 rfl) ?_
  refine va_get (D := (dC, dI)) (ci := 3) (v := .ref qd) (C := RX4) (T := TX4) (N := 9) hx hb hts iwX4 hown hK hP 0 rfl rfl 0 (by decide) fk10 (fun _ h9 => h9) rfl dX4_delete_1 ?_
  have hPc := hP.sub (ws' := [(qd, .inr (1, [.ref qw, .int (bI true), .int lf, .int (nI dn)])), (qw, .inl (cyI, 512, .inl w))]) [1, 2] rfl
  have hKc := hK.sub (tys' := [(cyI, .int), (cyZ, .boolean)]) [0, 1] rfl
  refine vp_callSi (va_Run.run (va_runV (As := []) (rest := []) ⟨hx, hb, hml, hown, hts⟩ (c_X2_isOn l dC dI cyI cyZ qd qw w true lf dn) (cwV 0 hts gX4_delete_X2_isOn rfl rfl rfl (by decide +kernel) ⟨Nat.le_of_ble_eq_true rfl, Nat.le_of_ble_eq_true rfl⟩) ⟨zz_blR, va_recv hKc hPc (ci := 1) (q0 := 0) rfl rfl, fun U hU hW => ⟨rfl, by rw [hU]; exact hPc, va_K.moved hW.alike hKc⟩⟩ rfl rfl hl.1 rfl (lv_room (Nat.le_of_ble_eq_true rfl)) dX4_delete_4 ⟨Nat.zero_le _, Nat.zero_le _⟩)) (fun r_4 hr_4 => ?_)
  have hr_4 : bI true = r_4 := Eq.symm hr_4
  subst hr_4
  refine lv_if_ne (tgt := 13) hx hb dX4_delete_7 (by decide) (fun c_7 => ?_) (fun c_7 => absurd c_7 (by decide))
  refine lv_aload_n hx hb dX4_delete_13 rfl (lv_at hl 0 rfl) ?_
  have hPc := hP.sub (ws' := [(q4, .inr (3, [.ref qd, .ref qc, .ref qt, .ref ql, .ref qn, .ref qe, .ref qr, .ref qz, .int fp])), (qd, .inr (1, [.ref qw, .int (bI true), .int lf, .int (nI dn)])), (qw, .inl (cyI, 512, .inl w)), (qc, .inr (0, [.ref qd, .ref qwh, .ref qlv, .int sa])), (qwh, .inl (cyZ, 64, .inl WH)), (qlv, .inl (cyZ, 64, .inl LV))]) [0, 1, 2, 3, 4, 5] rfl
  have hKc := hK.sub (tys' := [(cyI, .int), (cyZ, .boolean)]) [0, 1] rfl
  have hDc := hD.sub (ws' := [(q4, .inr (3, [.ref qd, .ref qc, .ref qt, .ref ql, .ref qn, .ref qe, .ref qr, .ref qz, .int fp])), (qd, .inr (1, [.ref qw, .int (bI true), .int lf, .int (nI dn)])), (qw, .inl (cyI, 512, .inl w)), (qc, .inr (0, [.ref qd, .ref qwh, .ref qlv, .int sa])), (qwh, .inl (cyZ, 64, .inl WH)), (qlv, .inl (cyZ, 64, .inl LV))]) [0, 1, 2, 3, 4, 5] (by decide) rfl
  have hFc := va_free (wc := [(q4, .inr (3, [.ref qd, .ref qc, .ref qt, .ref ql, .ref qn, .ref qe, .ref qr, .ref qz, .int fp])), (qd, .inr (1, [.ref qw, .int (bI true), .int lf, .int (nI dn)])), (qw, .inl (cyI, 512, .inl w)), (qc, .inr (0, [.ref qd, .ref qwh, .ref qlv, .int sa])), (qwh, .inl (cyZ, 64, .inl WH)), (qlv, .inl (cyZ, 64, .inl LV))]) hD hS hA [0, 1, 2, 3, 4, 5] rfl
  refine va_callr (va_runV (As := []) (rest := []) ⟨hx, hb, hml, hown, hts⟩ (c_X4_surveyed l dC dI cyI cyZ q4 qd qw qc qwh qlv qt ql qn qe qr qz sS.heap.size w true lf dn WH LV sa fp (HS)) (cwV 0 hts gX4_delete_X4_surveyed rfl rfl rfl (by decide +kernel) ⟨Nat.le_of_ble_eq_true rfl, Nat.le_of_ble_eq_true rfl⟩) ⟨zz_blW, va_recv hKc hPc (ci := 3) (q0 := 0) rfl rfl, fun U hU hW => ⟨rfl, by rw [hU], by rw [hU]; exact hPc, va_K.moved hW.alike hKc, hDc.weaken (fun _ _ _ _ => trivial)⟩⟩ rfl rfl hl.1 rfl (lv_room (Nat.le_of_ble_eq_true rfl)) dX4_delete_14 ⟨Nat.zero_le _, Nat.zero_le _⟩) hS (fun q _ h => hFc q h) hFc (fun uU ra tS H1 locs ht9 hvm9 hw9 hB9 hz1 hk1 hS => ?_)
  obtain ⟨WH1_14, LV1_14⟩ := uU
  obtain ⟨e9r, hP1, hK1, hD1⟩ := hB9
  have e9r : qc = ra := e9r.symm
  subst e9r
  have hw9 : (∀ j, j < 64 → LV1_14 j = bI (kLive w j)) := hw9
  have HL_14 := hw9
  rw [ht9] at hP1
  have hK1 := va_K.moved hvm9.symm hK1
  obtain ⟨hP, hD⟩ := va_join (wr := [(qn, .inr (2, [.ref qna, .int (nI m0)])), (qna, .inl (cyI, 450, .inl C0)), (qr, .inl (cyI, 8, .inl row))]) (w1 := [(q4, .inr (3, [.ref qd, .ref qc, .ref qt, .ref ql, .ref qn, .ref qe, .ref qr, .ref qz, .int fp])), (qd, .inr (1, [.ref qw, .int (bI true), .int lf, .int (nI dn)])), (qw, .inl (cyI, 512, .inl w)), (qc, .inr (0, [.ref qd, .ref qwh, .ref qlv, .int (nI dn)])), (qwh, .inl (cyZ, 64, .inl WH1_14)), (qlv, .inl (cyZ, 64, .inl LV1_14))]) hP hD [0, 1, 2, 3, 4, 5] [6, 7, 8] rfl rfl (by decide) (by decide) hk1 hFc hP1 hD1
  generalize H1 = H at hP hS ⊢
  have hP : va_P (dC, dI) vwCl [(qn, .inr (2, [.ref qna, .int (nI m0)])), (qna, .inl (cyI, 450, .inl C0)), (qr, .inl (cyI, 8, .inl row)), (q4, .inr (3, [.ref qd, .ref qc, .ref qt, .ref ql, .ref qn, .ref qe, .ref qr, .ref qz, .int fp])), (qd, .inr (1, [.ref qw, .int (bI true), .int lf, .int (nI dn)])), (qw, .inl (cyI, 512, .inl w)), (qc, .inr (0, [.ref qd, .ref qwh, .ref qlv, .int (nI dn)])), (qwh, .inl (cyZ, 64, .inl WH1_14)), (qlv, .inl (cyZ, 64, .inl LV1_14))] H := hP
  have hD : va_D A [(qn, .inr (2, [.ref qna, .int (nI m0)])), (qna, .inl (cyI, 450, .inl C0)), (qr, .inl (cyI, 8, .inl row)), (q4, .inr (3, [.ref qd, .ref qc, .ref qt, .ref ql, .ref qn, .ref qe, .ref qr, .ref qz, .int fp])), (qd, .inr (1, [.ref qw, .int (bI true), .int lf, .int (nI dn)])), (qw, .inl (cyI, 512, .inl w)), (qc, .inr (0, [.ref qd, .ref qwh, .ref qlv, .int (nI dn)])), (qwh, .inl (cyZ, 64, .inl WH1_14)), (qlv, .inl (cyZ, 64, .inl LV1_14))] := hD
  refine lv_iload_n hx hb dX4_delete_17 rfl (lv_at hl 1 rfl) ?_
  have hPc := hP.sub (ws' := [(qc, .inr (0, [.ref qd, .ref qwh, .ref qlv, .int (nI dn)])), (qwh, .inl (cyZ, 64, .inl WH1_14)), (qlv, .inl (cyZ, 64, .inl LV1_14)), (qd, .inr (1, [.ref qw, .int (bI true), .int lf, .int (nI dn)])), (qw, .inl (cyI, 512, .inl w))]) [6, 7, 8, 4, 5] rfl
  have hKc := hK.sub (tys' := [(cyI, .int), (cyZ, .boolean)]) [0, 1] rfl
  refine vp_callSi (va_Run.run (va_runV (As := [.int ky]) (rest := []) ⟨hx, hb, hml, hown, hts⟩ (c_X0_firstBlock l dC dI cyI cyZ qc qwh qlv qd qw WH1_14 LV1_14 (nI dn) w true lf dn (kLive w) ky (HL_14)) (cwV 1 hts gX4_delete_X0_firstBlock rfl rfl rfl (by decide +kernel) ⟨Nat.le_of_ble_eq_true rfl, Nat.le_of_ble_eq_true rfl⟩) ⟨zz_blR, va_recv hKc hPc (ci := 0) (q0 := 0) rfl rfl, fun U hU hW => ⟨rfl, by rw [hU]; exact hPc, va_K.moved hW.alike hKc⟩⟩ rfl rfl hl.1 rfl (lv_room (Nat.le_of_ble_eq_true rfl)) dX4_delete_18 ⟨Nat.zero_le _, Nat.zero_le _⟩)) (fun r_18 hr_18 => ?_)
  have hr_18 : zFI (zFst (kIs (kLive w) w ky) 64) 64 = r_18 := Eq.symm hr_18
  subst hr_18
  by_cases hf : zFst (kIs (kLive w) w ky) 64 < 64
  ·
    refine zz_top (zFI_t hf) ?_
    refine lv_istore_n (lv' := [(2, .int (nI (zFst (kIs (kLive w) w ky) 64))), (0, .ref q4), (1, .int ky)]) hx hb dX4_delete_21 rfl hl (by decide) rfl (fun ls hl => ?_)
    refine lv_aload_n hx hb dX4_delete_22 rfl (lv_at hl 1 rfl) ?_
    refine va_get (D := (dC, dI)) (ci := 3) (v := .ref qc) (C := RX4) (T := TX4) (N := 9) hx hb hts iwX4 hown hK hP 3 rfl rfl 1 (by decide) fk21 (fun _ h9 => h9) rfl dX4_delete_23 ?_
    refine lv_iload_n hx hb dX4_delete_26 rfl (lv_at hl 0 rfl) ?_
    have hPc := hP.sub (ws' := [(qc, .inr (0, [.ref qd, .ref qwh, .ref qlv, .int (nI dn)])), (qwh, .inl (cyZ, 64, .inl WH1_14)), (qlv, .inl (cyZ, 64, .inl LV1_14)), (qd, .inr (1, [.ref qw, .int (bI true), .int lf, .int (nI dn)])), (qw, .inl (cyI, 512, .inl w))]) [6, 7, 8, 4, 5] rfl
    have hKc := hK.sub (tys' := [(cyI, .int), (cyZ, .boolean)]) [0, 1] rfl
    refine vp_callSi (va_Run.run (va_runV (As := [.int (nI (zFst (kIs (kLive w) w ky) 64))]) (rest := []) ⟨hx, hb, hml, hown, hts⟩ (c_X0_isText l dC dI cyI cyZ qc qwh qlv qd qw WH1_14 LV1_14 (nI dn) w true lf dn (kLive w) (zFst (kIs (kLive w) w ky) 64) (hf) (HL_14)) (cwV 1 hts gX4_delete_X0_isText rfl rfl rfl (by decide +kernel) ⟨Nat.le_of_ble_eq_true rfl, Nat.le_of_ble_eq_true rfl⟩) ⟨zz_blR, va_recv hKc hPc (ci := 0) (q0 := 0) rfl rfl, fun U hU hW => ⟨rfl, by rw [hU]; exact hPc, va_K.moved hW.alike hKc⟩⟩ rfl rfl hl.1 rfl (lv_room (Nat.le_of_ble_eq_true rfl)) dX4_delete_27 ⟨Nat.zero_le _, Nat.zero_le _⟩)) (fun r_27 hr_27 => ?_)
    have hr_27 : bI (kText (kLive w) w (zFst (kIs (kLive w) w ky) 64)) = r_27 := Eq.symm hr_27
    subst hr_27
    refine zb_if_ne (tgt := 36) hx hb dX4_delete_30 (by decide) (fun c_30 => ?_) (fun c_30 => ?_)
    ·
      refine lv_aload_n hx hb dX4_delete_36 rfl (lv_at hl 1 rfl) ?_
      refine va_get (D := (dC, dI)) (ci := 3) (v := .ref qn) (C := RX4) (T := TX4) (N := 9) hx hb hts iwX4 hown hK hP 3 rfl rfl 4 (by decide) fk35 (fun _ h9 => h9) rfl dX4_delete_37 ?_
      have hPc := hP.sub (ws' := [(qn, .inr (2, [.ref qna, .int (nI m0)])), (qna, .inl (cyI, 450, .inl C0))]) [0, 1] rfl
      have hKc := hK.sub (tys' := [(cyI, .int), (cyZ, .boolean)]) [0, 1] rfl
      have hDc := hD.sub (ws' := [(qn, .inr (2, [.ref qna, .int (nI m0)])), (qna, .inl (cyI, 450, .inl C0))]) [0, 1] (by decide) rfl
      have hFc := va_free (wc := [(qn, .inr (2, [.ref qna, .int (nI m0)])), (qna, .inl (cyI, 450, .inl C0))]) hD hS hA [0, 1] rfl
      refine va_callv (va_runV (As := []) (rest := []) ⟨hx, hb, hml, hown, hts⟩ (c_X3_empty l dC dI cyI cyZ qn qna H.size C0 m0) (cwV 0 hts gX4_delete_X3_empty rfl rfl rfl (by decide +kernel) ⟨Nat.le_of_ble_eq_true rfl, Nat.le_of_ble_eq_true rfl⟩) ⟨zz_blW, va_recv hKc hPc (ci := 2) (q0 := 0) rfl rfl, fun U hU hW => ⟨rfl, by rw [hU], by rw [hU]; exact hPc, va_K.moved hW.alike hKc, hDc.weaken (fun _ _ _ _ => trivial)⟩⟩ rfl rfl hl.1 rfl (lv_room (Nat.le_of_ble_eq_true rfl)) dX4_delete_40 ⟨Nat.zero_le _, Nat.zero_le _⟩) hS (fun q _ h => hFc q h) hFc (fun uU tS H1 locs ht9 hvm9 hw9 hB9 hz1 hk1 hS => ?_)
      obtain ⟨hP1, hK1, hD1⟩ := hB9
      rw [ht9] at hP1
      have hK1 := va_K.moved hvm9.symm hK1
      obtain ⟨hP, hD⟩ := va_join (wr := [(qr, .inl (cyI, 8, .inl row)), (q4, .inr (3, [.ref qd, .ref qc, .ref qt, .ref ql, .ref qn, .ref qe, .ref qr, .ref qz, .int fp])), (qd, .inr (1, [.ref qw, .int (bI true), .int lf, .int (nI dn)])), (qw, .inl (cyI, 512, .inl w)), (qc, .inr (0, [.ref qd, .ref qwh, .ref qlv, .int (nI dn)])), (qwh, .inl (cyZ, 64, .inl WH1_14)), (qlv, .inl (cyZ, 64, .inl LV1_14))]) (w1 := [(qn, .inr (2, [.ref qna, .int (nI 0)])), (qna, .inl (cyI, 450, .inl C0))]) hP hD [0, 1] [2, 3, 4, 5, 6, 7, 8] rfl rfl (by decide) (by decide) hk1 hFc hP1 hD1
      generalize H1 = H at hP hS ⊢
      have hP : va_P (dC, dI) vwCl [(qr, .inl (cyI, 8, .inl row)), (q4, .inr (3, [.ref qd, .ref qc, .ref qt, .ref ql, .ref qn, .ref qe, .ref qr, .ref qz, .int fp])), (qd, .inr (1, [.ref qw, .int (bI true), .int lf, .int (nI dn)])), (qw, .inl (cyI, 512, .inl w)), (qc, .inr (0, [.ref qd, .ref qwh, .ref qlv, .int (nI dn)])), (qwh, .inl (cyZ, 64, .inl WH1_14)), (qlv, .inl (cyZ, 64, .inl LV1_14)), (qn, .inr (2, [.ref qna, .int (nI 0)])), (qna, .inl (cyI, 450, .inl C0))] H := hP
      have hD : va_D A [(qr, .inl (cyI, 8, .inl row)), (q4, .inr (3, [.ref qd, .ref qc, .ref qt, .ref ql, .ref qn, .ref qe, .ref qr, .ref qz, .int fp])), (qd, .inr (1, [.ref qw, .int (bI true), .int lf, .int (nI dn)])), (qw, .inl (cyI, 512, .inl w)), (qc, .inr (0, [.ref qd, .ref qwh, .ref qlv, .int (nI dn)])), (qwh, .inl (cyZ, 64, .inl WH1_14)), (qlv, .inl (cyZ, 64, .inl LV1_14)), (qn, .inr (2, [.ref qna, .int (nI 0)])), (qna, .inl (cyI, 450, .inl C0))] := hD
      refine lv_aload_n hx hb dX4_delete_43 rfl (lv_at hl 1 rfl) ?_
      refine lv_iload_n hx hb dX4_delete_44 rfl (lv_at hl 2 rfl) ?_
      refine lv_iconst (v := nI 2) hx hb dX4_delete_45 (by decide) ?_
      have hPc := hP.sub (ws' := [(q4, .inr (3, [.ref qd, .ref qc, .ref qt, .ref ql, .ref qn, .ref qe, .ref qr, .ref qz, .int fp])), (qd, .inr (1, [.ref qw, .int (bI true), .int lf, .int (nI dn)])), (qw, .inl (cyI, 512, .inl w)), (qc, .inr (0, [.ref qd, .ref qwh, .ref qlv, .int (nI dn)])), (qwh, .inl (cyZ, 64, .inl WH1_14)), (qlv, .inl (cyZ, 64, .inl LV1_14)), (qn, .inr (2, [.ref qna, .int (nI 0)])), (qna, .inl (cyI, 450, .inl C0)), (qr, .inl (cyI, 8, .inl row))]) [1, 2, 3, 4, 5, 6, 7, 8, 0] rfl
      have hKc := hK.sub (tys' := [(cyI, .int), (cyZ, .boolean)]) [0, 1] rfl
      have hDc := hD.sub (ws' := [(q4, .inr (3, [.ref qd, .ref qc, .ref qt, .ref ql, .ref qn, .ref qe, .ref qr, .ref qz, .int fp])), (qd, .inr (1, [.ref qw, .int (bI true), .int lf, .int (nI dn)])), (qw, .inl (cyI, 512, .inl w)), (qc, .inr (0, [.ref qd, .ref qwh, .ref qlv, .int (nI dn)])), (qwh, .inl (cyZ, 64, .inl WH1_14)), (qlv, .inl (cyZ, 64, .inl LV1_14)), (qn, .inr (2, [.ref qna, .int (nI 0)])), (qna, .inl (cyI, 450, .inl C0)), (qr, .inl (cyI, 8, .inl row))]) [1, 2, 3, 4, 5, 6, 7, 8, 0] (by decide) rfl
      have hFc := va_free (wc := [(q4, .inr (3, [.ref qd, .ref qc, .ref qt, .ref ql, .ref qn, .ref qe, .ref qr, .ref qz, .int fp])), (qd, .inr (1, [.ref qw, .int (bI true), .int lf, .int (nI dn)])), (qw, .inl (cyI, 512, .inl w)), (qc, .inr (0, [.ref qd, .ref qwh, .ref qlv, .int (nI dn)])), (qwh, .inl (cyZ, 64, .inl WH1_14)), (qlv, .inl (cyZ, 64, .inl LV1_14)), (qn, .inr (2, [.ref qna, .int (nI 0)])), (qna, .inl (cyI, 450, .inl C0)), (qr, .inl (cyI, 8, .inl row))]) hD hS hA [1, 2, 3, 4, 5, 6, 7, 8, 0] rfl
      refine va_calli (va_runV (As := [.int ky, .int (nI 2)]) (rest := []) ⟨hx, hb, hml, hown, hts⟩ (c_X4_putRecord l dC dI cyI cyZ q4 qd qw qc qwh qlv qn qna qr qt ql qe qz H.size w lf dn WH1_14 LV1_14 (nI dn) fp C0 0 row ky 2 (by omega) (by omega) (fun _ => HL_14)) (cwV 2 hts gX4_delete_X4_putRecord rfl rfl rfl (by decide +kernel) ⟨Nat.le_of_ble_eq_true rfl, Nat.le_of_ble_eq_true rfl⟩) ⟨zz_blW, va_recv hKc hPc (ci := 3) (q0 := 0) rfl rfl, fun U hU hW => ⟨rfl, by rw [hU], by rw [hU]; exact hPc, va_K.moved hW.alike hKc, hDc.weaken (fun _ _ _ _ => trivial)⟩⟩ rfl rfl hl.1 rfl (lv_room (Nat.le_of_ble_eq_true rfl)) dX4_delete_46 ⟨Nat.zero_le _, Nat.zero_le _⟩) hS (fun q _ h => hFc q h) hFc (fun r_46 uU tS H1 locs ht9 hvm9 hw9 hB9 hz1 hk1 hS => ?_)
      obtain ⟨on1_46, w1_46, lf1_46, dn1_46, WH1_46, LV1_46, row1_46⟩ := uU
      obtain ⟨hP1, hK1, hD1⟩ := hB9
      have hw9 : ((r_46, on1_46, w1_46, lf1_46, dn1_46) = kPut w lf dn ky 2 0 C0) ∧ (nI dn = nI dn1_46 → ∀ j, j < 64 → LV1_46 j = bI (kLive w1_46 j)) ∧ (dn ≤ dn1_46 ∧ dn1_46 ≤ dn + 64) := hw9
      obtain ⟨hPut_46, HS1_46, hdn1_46⟩ := hw9
      rw [ht9] at hP1
      have hK1 := va_K.moved hvm9.symm hK1
      obtain ⟨hP, hD⟩ := va_join (wr := []) (w1 := [(q4, .inr (3, [.ref qd, .ref qc, .ref qt, .ref ql, .ref qn, .ref qe, .ref qr, .ref qz, .int fp])), (qd, .inr (1, [.ref qw, .int (bI on1_46), .int lf1_46, .int (nI dn1_46)])), (qw, .inl (cyI, 512, .inl w1_46)), (qc, .inr (0, [.ref qd, .ref qwh, .ref qlv, .int (nI dn)])), (qwh, .inl (cyZ, 64, .inl WH1_46)), (qlv, .inl (cyZ, 64, .inl LV1_46)), (qn, .inr (2, [.ref qna, .int (nI 0)])), (qna, .inl (cyI, 450, .inl C0)), (qr, .inl (cyI, 8, .inl row1_46))]) hP hD [1, 2, 3, 4, 5, 6, 7, 8, 0] [] rfl rfl (by decide) (by decide) hk1 hFc hP1 hD1
      generalize H1 = H at hP hS ⊢
      have hP : va_P (dC, dI) vwCl [(q4, .inr (3, [.ref qd, .ref qc, .ref qt, .ref ql, .ref qn, .ref qe, .ref qr, .ref qz, .int fp])), (qd, .inr (1, [.ref qw, .int (bI on1_46), .int lf1_46, .int (nI dn1_46)])), (qw, .inl (cyI, 512, .inl w1_46)), (qc, .inr (0, [.ref qd, .ref qwh, .ref qlv, .int (nI dn)])), (qwh, .inl (cyZ, 64, .inl WH1_46)), (qlv, .inl (cyZ, 64, .inl LV1_46)), (qn, .inr (2, [.ref qna, .int (nI 0)])), (qna, .inl (cyI, 450, .inl C0)), (qr, .inl (cyI, 8, .inl row1_46))] H := hP
      have hD : va_D A [(q4, .inr (3, [.ref qd, .ref qc, .ref qt, .ref ql, .ref qn, .ref qe, .ref qr, .ref qz, .int fp])), (qd, .inr (1, [.ref qw, .int (bI on1_46), .int lf1_46, .int (nI dn1_46)])), (qw, .inl (cyI, 512, .inl w1_46)), (qc, .inr (0, [.ref qd, .ref qwh, .ref qlv, .int (nI dn)])), (qwh, .inl (cyZ, 64, .inl WH1_46)), (qlv, .inl (cyZ, 64, .inl LV1_46)), (qn, .inr (2, [.ref qna, .int (nI 0)])), (qna, .inl (cyI, 450, .inl C0)), (qr, .inl (cyI, 8, .inl row1_46))] := hD
      have hP9 := hP.sub (ws' := [(q4, .inr (3, [.ref qd, .ref qc, .ref qt, .ref ql, .ref qn, .ref qe, .ref qr, .ref qz, .int fp])), (qd, .inr (1, [.ref qw, .int (bI on1_46), .int lf1_46, .int (nI dn1_46)])), (qw, .inl (cyI, 512, .inl w1_46)), (qc, .inr (0, [.ref qd, .ref qwh, .ref qlv, .int (nI dn)])), (qwh, .inl (cyZ, 64, .inl WH1_46)), (qlv, .inl (cyZ, 64, .inl LV1_46)), (qn, .inr (2, [.ref qna, .int (nI 0)])), (qna, .inl (cyI, 450, .inl C0)), (qr, .inl (cyI, 8, .inl row1_46))]) [0, 1, 2, 3, 4, 5, 6, 7, 8] rfl
      have hD9 := hD.sub (ws' := [(q4, .inr (3, [.ref qd, .ref qc, .ref qt, .ref ql, .ref qn, .ref qe, .ref qr, .ref qz, .int fp])), (qd, .inr (1, [.ref qw, .int (bI on1_46), .int lf1_46, .int (nI dn1_46)])), (qw, .inl (cyI, 512, .inl w1_46)), (qc, .inr (0, [.ref qd, .ref qwh, .ref qlv, .int (nI dn)])), (qwh, .inl (cyZ, 64, .inl WH1_46)), (qlv, .inl (cyZ, 64, .inl LV1_46)), (qn, .inr (2, [.ref qna, .int (nI 0)])), (qna, .inl (cyI, 450, .inl C0)), (qr, .inl (cyI, 8, .inl row1_46))]) [0, 1, 2, 3, 4, 5, 6, 7, 8] (by decide) rfl
      have hK9 := hK.sub (tys' := [(cyI, .int), (cyZ, .boolean)]) [0, 1] rfl
      exact W.iret hx hb hr (fun tS ht hW => ⟨⟨_, (on1_46, w1_46, lf1_46, dn1_46, WH1_46, LV1_46, 0, row1_46), rfl, ⟨by rw [hPut_46]; exact (kDel_y hf c_30).symm, HS1_46, by omega⟩, by rw [ht]; exact hP9, va_K.moved hW.alike hK9, hD9⟩, hS.F ht⟩) hS.2.2 dX4_delete_49
    ·
      refine lv_bipush (v := (-2)) hx hb dX4_delete_33 (by decide) ?_
      have hP9 := hP.sub (ws' := [(q4, .inr (3, [.ref qd, .ref qc, .ref qt, .ref ql, .ref qn, .ref qe, .ref qr, .ref qz, .int fp])), (qd, .inr (1, [.ref qw, .int (bI true), .int lf, .int (nI dn)])), (qw, .inl (cyI, 512, .inl w)), (qc, .inr (0, [.ref qd, .ref qwh, .ref qlv, .int (nI dn)])), (qwh, .inl (cyZ, 64, .inl WH1_14)), (qlv, .inl (cyZ, 64, .inl LV1_14)), (qn, .inr (2, [.ref qna, .int (nI m0)])), (qna, .inl (cyI, 450, .inl C0)), (qr, .inl (cyI, 8, .inl row))]) [3, 4, 5, 6, 7, 8, 0, 1, 2] rfl
      have hD9 := hD.sub (ws' := [(q4, .inr (3, [.ref qd, .ref qc, .ref qt, .ref ql, .ref qn, .ref qe, .ref qr, .ref qz, .int fp])), (qd, .inr (1, [.ref qw, .int (bI true), .int lf, .int (nI dn)])), (qw, .inl (cyI, 512, .inl w)), (qc, .inr (0, [.ref qd, .ref qwh, .ref qlv, .int (nI dn)])), (qwh, .inl (cyZ, 64, .inl WH1_14)), (qlv, .inl (cyZ, 64, .inl LV1_14)), (qn, .inr (2, [.ref qna, .int (nI m0)])), (qna, .inl (cyI, 450, .inl C0)), (qr, .inl (cyI, 8, .inl row))]) [3, 4, 5, 6, 7, 8, 0, 1, 2] (by decide) rfl
      have hK9 := hK.sub (tys' := [(cyI, .int), (cyZ, .boolean)]) [0, 1] rfl
      exact W.iret hx hb hr (fun tS ht hW => ⟨⟨_, (true, w, lf, dn, WH1_14, LV1_14, m0, row), rfl, ⟨(kDel_n (fun _ => c_30)).symm, fun _ => HL_14, ⟨Nat.le_refl _, by omega⟩⟩, by rw [ht]; exact hP9, va_K.moved hW.alike hK9, hD9⟩, hS.F ht⟩) hS.2.2 dX4_delete_35
  ·
    refine zz_top (zFI_f hf) ?_
    refine lv_istore_n (lv' := [(2, .int (-1)), (0, .ref q4), (1, .int ky)]) hx hb dX4_delete_21 rfl hl (by decide) rfl (fun ls hl => ?_)
    refine lv_aload_n hx hb dX4_delete_22 rfl (lv_at hl 1 rfl) ?_
    refine va_get (D := (dC, dI)) (ci := 3) (v := .ref qc) (C := RX4) (T := TX4) (N := 9) hx hb hts iwX4 hown hK hP 3 rfl rfl 1 (by decide) fk21 (fun _ h9 => h9) rfl dX4_delete_23 ?_
    refine lv_iload_n hx hb dX4_delete_26 rfl (lv_at hl 0 rfl) ?_
    have hPc := hP.sub (ws' := [(qc, .inr (0, [.ref qd, .ref qwh, .ref qlv, .int (nI dn)])), (qwh, .inl (cyZ, 64, .inl WH1_14)), (qlv, .inl (cyZ, 64, .inl LV1_14)), (qd, .inr (1, [.ref qw, .int (bI true), .int lf, .int (nI dn)])), (qw, .inl (cyI, 512, .inl w))]) [6, 7, 8, 4, 5] rfl
    have hKc := hK.sub (tys' := [(cyI, .int), (cyZ, .boolean)]) [0, 1] rfl
    refine vp_callSi (va_Run.run (va_runV (As := [.int (-1)]) (rest := []) ⟨hx, hb, hml, hown, hts⟩ (c_X0_isText_m l dC dI cyI cyZ qc qwh qlv qd qw WH1_14 LV1_14 (nI dn) w true lf dn) (cwV 1 hts gX4_delete_X0_isText rfl rfl rfl (by decide +kernel) ⟨Nat.le_of_ble_eq_true rfl, Nat.le_of_ble_eq_true rfl⟩) ⟨zz_blR, va_recv hKc hPc (ci := 0) (q0 := 0) rfl rfl, fun U hU hW => ⟨rfl, by rw [hU]; exact hPc, va_K.moved hW.alike hKc⟩⟩ rfl rfl hl.1 rfl (lv_room (Nat.le_of_ble_eq_true rfl)) dX4_delete_27 ⟨Nat.zero_le _, Nat.zero_le _⟩)) (fun r_27 hr_27 => ?_)
    have hr_27 : bI false = r_27 := Eq.symm hr_27
    subst hr_27
    refine lv_if_ne (tgt := 36) hx hb dX4_delete_30 (by decide) (fun c_30 => absurd (by decide) c_30) (fun c_30 => ?_)
    refine lv_bipush (v := (-2)) hx hb dX4_delete_33 (by decide) ?_
    have hP9 := hP.sub (ws' := [(q4, .inr (3, [.ref qd, .ref qc, .ref qt, .ref ql, .ref qn, .ref qe, .ref qr, .ref qz, .int fp])), (qd, .inr (1, [.ref qw, .int (bI true), .int lf, .int (nI dn)])), (qw, .inl (cyI, 512, .inl w)), (qc, .inr (0, [.ref qd, .ref qwh, .ref qlv, .int (nI dn)])), (qwh, .inl (cyZ, 64, .inl WH1_14)), (qlv, .inl (cyZ, 64, .inl LV1_14)), (qn, .inr (2, [.ref qna, .int (nI m0)])), (qna, .inl (cyI, 450, .inl C0)), (qr, .inl (cyI, 8, .inl row))]) [3, 4, 5, 6, 7, 8, 0, 1, 2] rfl
    have hD9 := hD.sub (ws' := [(q4, .inr (3, [.ref qd, .ref qc, .ref qt, .ref ql, .ref qn, .ref qe, .ref qr, .ref qz, .int fp])), (qd, .inr (1, [.ref qw, .int (bI true), .int lf, .int (nI dn)])), (qw, .inl (cyI, 512, .inl w)), (qc, .inr (0, [.ref qd, .ref qwh, .ref qlv, .int (nI dn)])), (qwh, .inl (cyZ, 64, .inl WH1_14)), (qlv, .inl (cyZ, 64, .inl LV1_14)), (qn, .inr (2, [.ref qna, .int (nI m0)])), (qna, .inl (cyI, 450, .inl C0)), (qr, .inl (cyI, 8, .inl row))]) [3, 4, 5, 6, 7, 8, 0, 1, 2] (by decide) rfl
    have hK9 := hK.sub (tys' := [(cyI, .int), (cyZ, .boolean)]) [0, 1] rfl
    exact W.iret hx hb hr (fun tS ht hW => ⟨⟨_, (true, w, lf, dn, WH1_14, LV1_14, m0, row), rfl, ⟨(kDel_n (fun h => absurd h hf)).symm, fun _ => HL_14, ⟨Nat.le_refl _, by omega⟩⟩, by rw [ht]; exact hP9, va_K.moved hW.alike hK9, hD9⟩, hS.F ht⟩) hS.2.2 dX4_delete_35
set_option maxHeartbeats 4000000 in
set_option maxRecDepth 100000 in
theorem c_X4_clean (l : Launch) (dC : Nat → ClassId) (dI : Nat → Nat → Nat) (cyI cyZ : ClassId) (q4 qd qw qc qwh qlv qz qt ql qn qe qr : Nat) (sz : Nat) (w : Nat → Int32) (lf : Int32) (dn : Nat) (WH LV : Nat → Int32) (sa : Int32) (fp : Int32) (hdn0 : dn < 900000) (HS : sa = nI dn → ∀ j, j < 64 → LV j = bI (kLive w j)) : Met l yX4_clean wsX4_clean ({ frames := 5, cells := 0, slots := 0, locals := 107 }) (va_Pc [.ref q4] (fun U => U.heap.size = sz ∧ va_P (dC, dI) vwCl [(q4, .inr (3, [.ref qd, .ref qc, .ref qt, .ref ql, .ref qn, .ref qe, .ref qr, .ref qz, .int fp])), (qd, .inr (1, [.ref qw, .int (bI true), .int lf, .int (nI dn)])), (qw, .inl (cyI, 512, .inl w)), (qc, .inr (0, [.ref qd, .ref qwh, .ref qlv, .int sa])), (qwh, .inl (cyZ, 64, .inl WH)), (qlv, .inl (cyZ, 64, .inl LV)), (qz, .inl (cyI, 8, .inl (fun _ => nI 0)))] U.heap ∧ va_K (dC, dI) vwCl [(cyI, .int), (cyZ, .boolean)] U ∧ va_D (fun _ => True) [(q4, .inr (3, [.ref qd, .ref qc, .ref qt, .ref ql, .ref qn, .ref qe, .ref qr, .ref qz, .int fp])), (qd, .inr (1, [.ref qw, .int (bI true), .int lf, .int (nI dn)])), (qw, .inl (cyI, 512, .inl w)), (qc, .inr (0, [.ref qd, .ref qwh, .ref qlv, .int sa])), (qwh, .inl (cyZ, 64, .inl WH)), (qlv, .inl (cyZ, 64, .inl LV)), (qz, .inl (cyI, 8, .inl (fun _ => nI 0)))])) (va_Qi (S := Bool × (Nat → Int32) × Int32 × Nat × (Nat → Int32) × (Nat → Int32)) (fun (r : Int32) (uU : Bool × (Nat → Int32) × Int32 × Nat × (Nat → Int32) × (Nat → Int32)) => match uU with | (on1, w1, lf1, dn1, WH1, LV1) => ((r, on1, w1, lf1, dn1) = kClean w lf dn) ∧ (nI dn = nI dn1 → ∀ j, j < 64 → LV1 j = bI (kLive w1 j)) ∧ (dn ≤ dn1 ∧ dn1 ≤ dn + 128)) (fun (uU : Bool × (Nat → Int32) × Int32 × Nat × (Nat → Int32) × (Nat → Int32)) tS => match uU with | (on1, w1, lf1, dn1, WH1, LV1) => va_P (dC, dI) vwCl [(q4, .inr (3, [.ref qd, .ref qc, .ref qt, .ref ql, .ref qn, .ref qe, .ref qr, .ref qz, .int fp])), (qd, .inr (1, [.ref qw, .int (bI on1), .int lf1, .int (nI dn1)])), (qw, .inl (cyI, 512, .inl w1)), (qc, .inr (0, [.ref qd, .ref qwh, .ref qlv, .int (nI dn)])), (qwh, .inl (cyZ, 64, .inl WH1)), (qlv, .inl (cyZ, 64, .inl LV1)), (qz, .inl (cyI, 8, .inl (fun _ => nI 0)))] tS.heap ∧ va_K (dC, dI) vwCl [(cyI, .int), (cyZ, .boolean)] tS ∧ va_D (va_A [(q4, .inr (3, [.ref qd, .ref qc, .ref qt, .ref ql, .ref qn, .ref qe, .ref qr, .ref qz, .int fp])), (qd, .inr (1, [.ref qw, .int (bI true), .int lf, .int (nI dn)])), (qw, .inl (cyI, 512, .inl w)), (qc, .inr (0, [.ref qd, .ref qwh, .ref qlv, .int sa])), (qwh, .inl (cyZ, 64, .inl WH)), (qlv, .inl (cyZ, 64, .inl LV)), (qz, .inl (cyI, 8, .inl (fun _ => nI 0)))] sz) [(q4, .inr (3, [.ref qd, .ref qc, .ref qt, .ref ql, .ref qn, .ref qe, .ref qr, .ref qz, .int fp])), (qd, .inr (1, [.ref qw, .int (bI on1), .int lf1, .int (nI dn1)])), (qw, .inl (cyI, 512, .inl w1)), (qc, .inr (0, [.ref qd, .ref qwh, .ref qlv, .int (nI dn)])), (qwh, .inl (cyZ, 64, .inl WH1)), (qlv, .inl (cyZ, 64, .inl LV1)), (qz, .inl (cyI, 8, .inl (fun _ => nI 0)))]) (va_A [(q4, .inr (3, [.ref qd, .ref qc, .ref qt, .ref ql, .ref qn, .ref qe, .ref qr, .ref qz, .int fp])), (qd, .inr (1, [.ref qw, .int (bI true), .int lf, .int (nI dn)])), (qw, .inl (cyI, 512, .inl w)), (qc, .inr (0, [.ref qd, .ref qwh, .ref qlv, .int sa])), (qwh, .inl (cyZ, 64, .inl WH)), (qlv, .inl (cyZ, 64, .inl LV)), (qz, .inl (cyI, 8, .inl (fun _ => nI 0)))] sz)) 0 0 (va_A [(q4, .inr (3, [.ref qd, .ref qc, .ref qt, .ref ql, .ref qn, .ref qe, .ref qr, .ref qz, .int fp])), (qd, .inr (1, [.ref qw, .int (bI true), .int lf, .int (nI dn)])), (qw, .inl (cyI, 512, .inl w)), (qc, .inr (0, [.ref qd, .ref qwh, .ref qlv, .int sa])), (qwh, .inl (cyZ, 64, .inl WH)), (qlv, .inl (cyZ, 64, .inl LV)), (qz, .inl (cyI, 8, .inl (fun _ => nI 0)))] sz) := by
  refine Met.ofW (cc := cX4_clean) (maxL := 3) (ret := (some .int)) (by decide) rfl ?_
  intro pz ez sS mM args below meth cC s₁ B hml hv
  obtain ⟨rfl, hsz, hP, hK, hD0⟩ := hv
  have hx := B.exec
  have hb := B.bytes
  have hr := B.returns
  have hts := atoms_spec (ws := wsX4_clean) B.pre
  have hown : sS.vm.findClass RX4 = some mM.cls := findClass_of_methodNamed B.named
  have hlocks := B.notSynchronized
  subst hsz
  have hD := hD0.self (sz := sS.heap.size)
  generalize hAe : va_A [(q4, .inr (3, [.ref qd, .ref qc, .ref qt, .ref ql, .ref qn, .ref qe, .ref qr, .ref qz, .int fp])), (qd, .inr (1, [.ref qw, .int (bI true), .int lf, .int (nI dn)])), (qw, .inl (cyI, 512, .inl w)), (qc, .inr (0, [.ref qd, .ref qwh, .ref qlv, .int sa])), (qwh, .inl (cyZ, 64, .inl WH)), (qlv, .inl (cyZ, 64, .inl LV)), (qz, .inl (cyI, 8, .inl (fun _ => nI 0)))] sS.heap.size = A at hD ⊢
  have hA : ∀ q : Nat, sS.heap.size ≤ q → A q := fun q h => by rw [← hAe]; exact Or.inr h
  have hS : va_S A sS.heap sS.heap [] := va_S.rf
  have hP : va_P (dC, dI) vwCl [(q4, .inr (3, [.ref qd, .ref qc, .ref qt, .ref ql, .ref qn, .ref qe, .ref qr, .ref qz, .int fp])), (qd, .inr (1, [.ref qw, .int (bI true), .int lf, .int (nI dn)])), (qw, .inl (cyI, 512, .inl w)), (qc, .inr (0, [.ref qd, .ref qwh, .ref qlv, .int sa])), (qwh, .inl (cyZ, 64, .inl WH)), (qlv, .inl (cyZ, 64, .inl LV)), (qz, .inl (cyI, 8, .inl (fun _ => nI 0)))] sS.heap := hP
  have iwX4 : ∀ w ∈ wsX40, w ∈ wsX4_clean := by decide +kernel
  have fk10 := hts (.fieldLink RX4 10 "CodedStore" "disk" "LCodedStore$Disk;") (by decide +kernel)
  have fk21 := hts (.fieldLink RX4 21 "CodedStore" "catalog" "LCodedStore$Catalog;") (by decide +kernel)
  have fk45 := hts (.fieldLink RX4 45 "CodedStore" "zeros" "[I") (by decide +kernel)
  have hl := lv_entry ([.ref q4]) (n := 3) (Nat.le_of_ble_eq_true rfl)
  rw [lg_entry_eq]
  generalize (lg_sl ([.ref q4]) ++ List.replicate (3 - (lg_sl ([.ref q4])).length) Slot.unset).toArray = ls at hl ⊢
  have hl : lv_has ls 3 [(0, .ref q4)] := hl
  obtain ⟨Y0, hY0⟩ : ∃ Z, Z = kZapF (kLeft (kLive w)) 64 0 w lf dn 0 := ⟨_, rfl⟩
  refine lv_aload_n hx hb dX4_clean_0 rfl (lv_at hl 0 rfl) ?_
  refine va_get (D := (dC, dI)) (ci := 3) (v := .ref qd) (C := RX4) (T := TX4) (N := 9) hx hb hts iwX4 hown hK hP 0 rfl rfl 0 (by decide) fk10 (fun _ h9 => h9) rfl dX4_clean_1 ?_
  have hPc := hP.sub (ws' := [(qd, .inr (1, [.ref qw, .int (bI true), .int lf, .int (nI dn)])), (qw, .inl (cyI, 512, .inl w))]) [1, 2] rfl
  have hKc := hK.sub (tys' := [(cyI, .int), (cyZ, .boolean)]) [0, 1] rfl
  refine vp_callSi (va_Run.run (va_runV (As := []) (rest := []) ⟨hx, hb, hml, hown, hts⟩ (c_X2_isOn l dC dI cyI cyZ qd qw w true lf dn) (cwV 0 hts gX4_clean_X2_isOn rfl rfl rfl (by decide +kernel) ⟨Nat.le_of_ble_eq_true rfl, Nat.le_of_ble_eq_true rfl⟩) ⟨zz_blR, va_recv hKc hPc (ci := 1) (q0 := 0) rfl rfl, fun U hU hW => ⟨rfl, by rw [hU]; exact hPc, va_K.moved hW.alike hKc⟩⟩ rfl rfl hl.1 rfl (lv_room (Nat.le_of_ble_eq_true rfl)) dX4_clean_4 ⟨Nat.zero_le _, Nat.zero_le _⟩)) (fun r_4 hr_4 => ?_)
  have hr_4 : bI true = r_4 := Eq.symm hr_4
  subst hr_4
  refine lv_if_ne (tgt := 13) hx hb dX4_clean_7 (by decide) (fun c_7 => ?_) (fun c_7 => absurd c_7 (by decide))
  refine lv_aload_n hx hb dX4_clean_13 rfl (lv_at hl 0 rfl) ?_
  have hPc := hP.sub (ws' := [(q4, .inr (3, [.ref qd, .ref qc, .ref qt, .ref ql, .ref qn, .ref qe, .ref qr, .ref qz, .int fp])), (qd, .inr (1, [.ref qw, .int (bI true), .int lf, .int (nI dn)])), (qw, .inl (cyI, 512, .inl w)), (qc, .inr (0, [.ref qd, .ref qwh, .ref qlv, .int sa])), (qwh, .inl (cyZ, 64, .inl WH)), (qlv, .inl (cyZ, 64, .inl LV))]) [0, 1, 2, 3, 4, 5] rfl
  have hKc := hK.sub (tys' := [(cyI, .int), (cyZ, .boolean)]) [0, 1] rfl
  have hDc := hD.sub (ws' := [(q4, .inr (3, [.ref qd, .ref qc, .ref qt, .ref ql, .ref qn, .ref qe, .ref qr, .ref qz, .int fp])), (qd, .inr (1, [.ref qw, .int (bI true), .int lf, .int (nI dn)])), (qw, .inl (cyI, 512, .inl w)), (qc, .inr (0, [.ref qd, .ref qwh, .ref qlv, .int sa])), (qwh, .inl (cyZ, 64, .inl WH)), (qlv, .inl (cyZ, 64, .inl LV))]) [0, 1, 2, 3, 4, 5] (by decide) rfl
  have hFc := va_free (wc := [(q4, .inr (3, [.ref qd, .ref qc, .ref qt, .ref ql, .ref qn, .ref qe, .ref qr, .ref qz, .int fp])), (qd, .inr (1, [.ref qw, .int (bI true), .int lf, .int (nI dn)])), (qw, .inl (cyI, 512, .inl w)), (qc, .inr (0, [.ref qd, .ref qwh, .ref qlv, .int sa])), (qwh, .inl (cyZ, 64, .inl WH)), (qlv, .inl (cyZ, 64, .inl LV))]) hD hS hA [0, 1, 2, 3, 4, 5] rfl
  refine va_callr (va_runV (As := []) (rest := []) ⟨hx, hb, hml, hown, hts⟩ (c_X4_surveyed l dC dI cyI cyZ q4 qd qw qc qwh qlv qt ql qn qe qr qz sS.heap.size w true lf dn WH LV sa fp (HS)) (cwV 0 hts gX4_clean_X4_surveyed rfl rfl rfl (by decide +kernel) ⟨Nat.le_of_ble_eq_true rfl, Nat.le_of_ble_eq_true rfl⟩) ⟨zz_blW, va_recv hKc hPc (ci := 3) (q0 := 0) rfl rfl, fun U hU hW => ⟨rfl, by rw [hU], by rw [hU]; exact hPc, va_K.moved hW.alike hKc, hDc.weaken (fun _ _ _ _ => trivial)⟩⟩ rfl rfl hl.1 rfl (lv_room (Nat.le_of_ble_eq_true rfl)) dX4_clean_14 ⟨Nat.zero_le _, Nat.zero_le _⟩) hS (fun q _ h => hFc q h) hFc (fun uU ra tS H1 locs ht9 hvm9 hw9 hB9 hz1 hk1 hS => ?_)
  obtain ⟨WH1_14, LV1_14⟩ := uU
  obtain ⟨e9r, hP1, hK1, hD1⟩ := hB9
  have e9r : qc = ra := e9r.symm
  subst e9r
  have hw9 : (∀ j, j < 64 → LV1_14 j = bI (kLive w j)) := hw9
  have HL_14 := hw9
  rw [ht9] at hP1
  have hK1 := va_K.moved hvm9.symm hK1
  obtain ⟨hP, hD⟩ := va_join (wr := [(qz, .inl (cyI, 8, .inl (fun _ => nI 0)))]) (w1 := [(q4, .inr (3, [.ref qd, .ref qc, .ref qt, .ref ql, .ref qn, .ref qe, .ref qr, .ref qz, .int fp])), (qd, .inr (1, [.ref qw, .int (bI true), .int lf, .int (nI dn)])), (qw, .inl (cyI, 512, .inl w)), (qc, .inr (0, [.ref qd, .ref qwh, .ref qlv, .int (nI dn)])), (qwh, .inl (cyZ, 64, .inl WH1_14)), (qlv, .inl (cyZ, 64, .inl LV1_14))]) hP hD [0, 1, 2, 3, 4, 5] [6] rfl rfl (by decide) (by decide) hk1 hFc hP1 hD1
  generalize H1 = H at hP hS ⊢
  have hP : va_P (dC, dI) vwCl [(qz, .inl (cyI, 8, .inl (fun _ => nI 0))), (q4, .inr (3, [.ref qd, .ref qc, .ref qt, .ref ql, .ref qn, .ref qe, .ref qr, .ref qz, .int fp])), (qd, .inr (1, [.ref qw, .int (bI true), .int lf, .int (nI dn)])), (qw, .inl (cyI, 512, .inl w)), (qc, .inr (0, [.ref qd, .ref qwh, .ref qlv, .int (nI dn)])), (qwh, .inl (cyZ, 64, .inl WH1_14)), (qlv, .inl (cyZ, 64, .inl LV1_14))] H := hP
  have hD : va_D A [(qz, .inl (cyI, 8, .inl (fun _ => nI 0))), (q4, .inr (3, [.ref qd, .ref qc, .ref qt, .ref ql, .ref qn, .ref qe, .ref qr, .ref qz, .int fp])), (qd, .inr (1, [.ref qw, .int (bI true), .int lf, .int (nI dn)])), (qw, .inl (cyI, 512, .inl w)), (qc, .inr (0, [.ref qd, .ref qwh, .ref qlv, .int (nI dn)])), (qwh, .inl (cyZ, 64, .inl WH1_14)), (qlv, .inl (cyZ, 64, .inl LV1_14))] := hD
  refine lv_pop hx hb dX4_clean_17 rfl ?_
  refine lv_iconst (v := nI 0) hx hb dX4_clean_18 (by decide) ?_
  refine lv_istore_n (lv' := [(1, .int (nI 0)), (0, .ref q4)]) hx hb dX4_clean_19 rfl hl (by decide) rfl (fun ls hl => ?_)
  refine lv_iconst (v := nI 0) hx hb dX4_clean_20 (by decide) ?_
  refine lv_istore_n (lv' := [(2, .int (nI 0)), (1, .int (nI 0)), (0, .ref q4)]) hx hb dX4_clean_21 rfl hl (by decide) rfl (fun ls hl => ?_)
  refine zz_loopW (pc := 22) (μ := fun (x : Nat × Nat × (Nat → Int32) × Int32 × Nat × Nat) => match x with | (b, f, w1, lf1, dn1, k) => 64 - b) (Inv := fun (x : Nat × Nat × (Nat → Int32) × Int32 × Nat × Nat) (H : Heap) (locs : List Loc) (ls : Array Slot) => match x with | (b, f, w1, lf1, dn1, k) => (b ≤ 64) ∧ (b + f = 64) ∧ (k ≤ b) ∧ (dn ≤ dn1) ∧ (dn1 ≤ dn + b) ∧ (dn1 = dn → w1 = w) ∧ (kZapF (kLeft (kLive w)) f b w1 lf1 dn1 k = Y0) ∧ va_P (dC, dI) vwCl [(qz, .inl (cyI, 8, .inl (fun _ => nI 0))), (q4, .inr (3, [.ref qd, .ref qc, .ref qt, .ref ql, .ref qn, .ref qe, .ref qr, .ref qz, .int fp])), (qd, .inr (1, [.ref qw, .int (bI true), .int lf1, .int (nI dn1)])), (qw, .inl (cyI, 512, .inl w1)), (qc, .inr (0, [.ref qd, .ref qwh, .ref qlv, .int (nI dn)])), (qwh, .inl (cyZ, 64, .inl WH1_14)), (qlv, .inl (cyZ, 64, .inl LV1_14))] H ∧ va_D A [(qz, .inl (cyI, 8, .inl (fun _ => nI 0))), (q4, .inr (3, [.ref qd, .ref qc, .ref qt, .ref ql, .ref qn, .ref qe, .ref qr, .ref qz, .int fp])), (qd, .inr (1, [.ref qw, .int (bI true), .int lf1, .int (nI dn1)])), (qw, .inl (cyI, 512, .inl w1)), (qc, .inr (0, [.ref qd, .ref qwh, .ref qlv, .int (nI dn)])), (qwh, .inl (cyZ, 64, .inl WH1_14)), (qlv, .inl (cyZ, 64, .inl LV1_14))] ∧ va_S A sS.heap H locs ∧ lv_has ls 3 [(0, .ref q4), (1, .int (nI k)), (2, .int (nI b))]) (x0 := (0, 64, w, lf, dn, 0)) ⟨by omega, by omega, by omega, by omega, by omega, fun _ => rfl, hY0.symm, hP, hD, hS, lv_sub hl [2, 1, 0] rfl⟩ ?_
  intro ⟨b, f, w1, lf1, dn1, k⟩ H locs ls hI ih22
  obtain ⟨hb9, hf, hk, hd1, hd2, hw1, hE, hP, hD, hS, hl⟩ := hI
  have hl : lv_has ls 3 [(0, .ref q4), (1, .int (nI k)), (2, .int (nI b))] := hl
  have hP : va_P (dC, dI) vwCl [(qz, .inl (cyI, 8, .inl (fun _ => nI 0))), (q4, .inr (3, [.ref qd, .ref qc, .ref qt, .ref ql, .ref qn, .ref qe, .ref qr, .ref qz, .int fp])), (qd, .inr (1, [.ref qw, .int (bI true), .int lf1, .int (nI dn1)])), (qw, .inl (cyI, 512, .inl w1)), (qc, .inr (0, [.ref qd, .ref qwh, .ref qlv, .int (nI dn)])), (qwh, .inl (cyZ, 64, .inl WH1_14)), (qlv, .inl (cyZ, 64, .inl LV1_14))] H := hP
  have hD : va_D A [(qz, .inl (cyI, 8, .inl (fun _ => nI 0))), (q4, .inr (3, [.ref qd, .ref qc, .ref qt, .ref ql, .ref qn, .ref qe, .ref qr, .ref qz, .int fp])), (qd, .inr (1, [.ref qw, .int (bI true), .int lf1, .int (nI dn1)])), (qw, .inl (cyI, 512, .inl w1)), (qc, .inr (0, [.ref qd, .ref qwh, .ref qlv, .int (nI dn)])), (qwh, .inl (cyZ, 64, .inl WH1_14)), (qlv, .inl (cyZ, 64, .inl LV1_14))] := hD
  have hb9 : b ≤ 64 := hb9
  have hf : b + f = 64 := hf
  have hk : k ≤ b := hk
  have hd1 : dn ≤ dn1 := hd1
  have hd2 : dn1 ≤ dn + b := hd2
  have hw1 : dn1 = dn → w1 = w := hw1
  have hE : kZapF (kLeft (kLive w)) f b w1 lf1 dn1 k = Y0 := hE
  refine lv_iload_n hx hb dX4_clean_22 rfl (lv_at hl 2 rfl) ?_
  refine lv_bipush (v := nI 64) hx hb dX4_clean_23 (by decide) ?_
  refine zn_icmp_ge (tgt := 66) hx hb dX4_clean_25 (by decide) (by omega) (by omega) (fun c_25 => ?_) (fun c_25 => ?_)
  ·
    refine lv_iconst (v := nI 0) hx hb dX4_clean_66 (by decide) ?_
    refine lv_istore_n (lv' := [(2, .int (nI 0)), (0, .ref q4), (1, .int (nI k))]) hx hb dX4_clean_67 rfl hl (by decide) rfl (fun ls hl => ?_)
    have hY : kZapF (kLeft (kLive w)) 64 0 w lf dn 0 = (true, w1, lf1, dn1, k) := by
      rw [← hY0, ← hE]
      have e0 : f = 0 := by omega
      subst e0
      rfl
    obtain ⟨Z0, hZ0⟩ : ∃ Z, Z = kZapF (kGrave (kLive w)) 64 0 w1 lf1 dn1 k := ⟨_, rfl⟩
    refine zz_loopW (pc := 68) (μ := fun (x : Nat × Nat × (Nat → Int32) × Int32 × Nat × Nat) => match x with | (b, f, w2, lf2, dn2, k) => 64 - b) (Inv := fun (x : Nat × Nat × (Nat → Int32) × Int32 × Nat × Nat) (H : Heap) (locs : List Loc) (ls : Array Slot) => match x with | (b, f, w2, lf2, dn2, k) => (b ≤ 64) ∧ (b + f = 64) ∧ (k ≤ 64 + b) ∧ (dn ≤ dn2) ∧ (dn2 ≤ dn + 64 + b) ∧ (dn2 = dn → w2 = w) ∧ (kZapF (kGrave (kLive w)) f b w2 lf2 dn2 k = Z0) ∧ va_P (dC, dI) vwCl [(qz, .inl (cyI, 8, .inl (fun _ => nI 0))), (q4, .inr (3, [.ref qd, .ref qc, .ref qt, .ref ql, .ref qn, .ref qe, .ref qr, .ref qz, .int fp])), (qd, .inr (1, [.ref qw, .int (bI true), .int lf2, .int (nI dn2)])), (qw, .inl (cyI, 512, .inl w2)), (qc, .inr (0, [.ref qd, .ref qwh, .ref qlv, .int (nI dn)])), (qwh, .inl (cyZ, 64, .inl WH1_14)), (qlv, .inl (cyZ, 64, .inl LV1_14))] H ∧ va_D A [(qz, .inl (cyI, 8, .inl (fun _ => nI 0))), (q4, .inr (3, [.ref qd, .ref qc, .ref qt, .ref ql, .ref qn, .ref qe, .ref qr, .ref qz, .int fp])), (qd, .inr (1, [.ref qw, .int (bI true), .int lf2, .int (nI dn2)])), (qw, .inl (cyI, 512, .inl w2)), (qc, .inr (0, [.ref qd, .ref qwh, .ref qlv, .int (nI dn)])), (qwh, .inl (cyZ, 64, .inl WH1_14)), (qlv, .inl (cyZ, 64, .inl LV1_14))] ∧ va_S A sS.heap H locs ∧ lv_has ls 3 [(0, .ref q4), (1, .int (nI k)), (2, .int (nI b))]) (x0 := (0, 64, w1, lf1, dn1, k)) ⟨by omega, by omega, by omega, by omega, by omega, hw1, hZ0.symm, hP, hD, hS, lv_sub hl [1, 2, 0] rfl⟩ ?_
    intro ⟨b, f, w2, lf2, dn2, k⟩ H locs ls hI ih68
    obtain ⟨hb9, hf, hk, hd1, hd2, hw1, hE, hP, hD, hS, hl⟩ := hI
    have hl : lv_has ls 3 [(0, .ref q4), (1, .int (nI k)), (2, .int (nI b))] := hl
    have hP : va_P (dC, dI) vwCl [(qz, .inl (cyI, 8, .inl (fun _ => nI 0))), (q4, .inr (3, [.ref qd, .ref qc, .ref qt, .ref ql, .ref qn, .ref qe, .ref qr, .ref qz, .int fp])), (qd, .inr (1, [.ref qw, .int (bI true), .int lf2, .int (nI dn2)])), (qw, .inl (cyI, 512, .inl w2)), (qc, .inr (0, [.ref qd, .ref qwh, .ref qlv, .int (nI dn)])), (qwh, .inl (cyZ, 64, .inl WH1_14)), (qlv, .inl (cyZ, 64, .inl LV1_14))] H := hP
    have hD : va_D A [(qz, .inl (cyI, 8, .inl (fun _ => nI 0))), (q4, .inr (3, [.ref qd, .ref qc, .ref qt, .ref ql, .ref qn, .ref qe, .ref qr, .ref qz, .int fp])), (qd, .inr (1, [.ref qw, .int (bI true), .int lf2, .int (nI dn2)])), (qw, .inl (cyI, 512, .inl w2)), (qc, .inr (0, [.ref qd, .ref qwh, .ref qlv, .int (nI dn)])), (qwh, .inl (cyZ, 64, .inl WH1_14)), (qlv, .inl (cyZ, 64, .inl LV1_14))] := hD
    have hb9 : b ≤ 64 := hb9
    have hf : b + f = 64 := hf
    have hk : k ≤ 64 + b := hk
    have hd1 : dn ≤ dn2 := hd1
    have hd2 : dn2 ≤ dn + 64 + b := hd2
    have hw1 : dn2 = dn → w2 = w := hw1
    have hE : kZapF (kGrave (kLive w)) f b w2 lf2 dn2 k = Z0 := hE
    refine lv_iload_n hx hb dX4_clean_68 rfl (lv_at hl 2 rfl) ?_
    refine lv_bipush (v := nI 64) hx hb dX4_clean_69 (by decide) ?_
    refine zn_icmp_ge (tgt := 112) hx hb dX4_clean_71 (by decide) (by omega) (by omega) (fun c_71 => ?_) (fun c_71 => ?_)
    ·
      refine lv_iload_n hx hb dX4_clean_112 rfl (lv_at hl 1 rfl) ?_
      have hend : kZapF (kGrave (kLive w)) f b w2 lf2 dn2 k = (true, w2, lf2, dn2, k) := by
        have e0 : f = 0 := by omega
        subst e0
        rfl
      have hP9 := hP.sub (ws' := [(q4, .inr (3, [.ref qd, .ref qc, .ref qt, .ref ql, .ref qn, .ref qe, .ref qr, .ref qz, .int fp])), (qd, .inr (1, [.ref qw, .int (bI true), .int lf2, .int (nI dn2)])), (qw, .inl (cyI, 512, .inl w2)), (qc, .inr (0, [.ref qd, .ref qwh, .ref qlv, .int (nI dn)])), (qwh, .inl (cyZ, 64, .inl WH1_14)), (qlv, .inl (cyZ, 64, .inl LV1_14)), (qz, .inl (cyI, 8, .inl (fun _ => nI 0)))]) [1, 2, 3, 4, 5, 6, 0] rfl
      have hD9 := hD.sub (ws' := [(q4, .inr (3, [.ref qd, .ref qc, .ref qt, .ref ql, .ref qn, .ref qe, .ref qr, .ref qz, .int fp])), (qd, .inr (1, [.ref qw, .int (bI true), .int lf2, .int (nI dn2)])), (qw, .inl (cyI, 512, .inl w2)), (qc, .inr (0, [.ref qd, .ref qwh, .ref qlv, .int (nI dn)])), (qwh, .inl (cyZ, 64, .inl WH1_14)), (qlv, .inl (cyZ, 64, .inl LV1_14)), (qz, .inl (cyI, 8, .inl (fun _ => nI 0)))]) [1, 2, 3, 4, 5, 6, 0] (by decide) rfl
      have hK9 := hK.sub (tys' := [(cyI, .int), (cyZ, .boolean)]) [0, 1] rfl
      exact W.iret hx hb hr (fun tS ht hW => ⟨⟨_, (true, w2, lf2, dn2, WH1_14, LV1_14), rfl, ⟨by rw [kClean_2 hY (hZ0.symm.trans (hE.symm.trans hend))]; rfl, fun h => by rw [hw1 ((nI_eq (by omega) (by omega)).mp h).symm]; exact HL_14, by omega⟩, by rw [ht]; exact hP9, va_K.moved hW.alike hK9, hD9⟩, hS.F ht⟩) hS.2.2 dX4_clean_113
    ·
      obtain ⟨f9, e9⟩ : ∃ f9, f = f9 + 1 := ⟨f - 1, by omega⟩
      subst e9
      refine lv_aload_n hx hb dX4_clean_74 rfl (lv_at hl 0 rfl) ?_
      refine va_get (D := (dC, dI)) (ci := 3) (v := .ref qc) (C := RX4) (T := TX4) (N := 9) hx hb hts iwX4 hown hK hP 1 rfl rfl 1 (by decide) fk21 (fun _ h9 => h9) rfl dX4_clean_75 ?_
      refine lv_iload_n hx hb dX4_clean_78 rfl (lv_at hl 2 rfl) ?_
      have hPc := hP.sub (ws' := [(qc, .inr (0, [.ref qd, .ref qwh, .ref qlv, .int (nI dn)])), (qwh, .inl (cyZ, 64, .inl WH1_14)), (qlv, .inl (cyZ, 64, .inl LV1_14)), (qd, .inr (1, [.ref qw, .int (bI true), .int lf2, .int (nI dn2)])), (qw, .inl (cyI, 512, .inl w2))]) [4, 5, 6, 2, 3] rfl
      have hKc := hK.sub (tys' := [(cyI, .int), (cyZ, .boolean)]) [0, 1] rfl
      refine vp_callSi (va_Run.run (va_runV (As := [.int (nI b)]) (rest := []) ⟨hx, hb, hml, hown, hts⟩ (c_X0_isLiveGrave l dC dI cyI cyZ qc qwh qlv qd qw WH1_14 LV1_14 (nI dn) w2 true lf2 dn2 (kLive w) b (by omega) (HL_14)) (cwV 1 hts gX4_clean_X0_isLiveGrave rfl rfl rfl (by decide +kernel) ⟨Nat.le_of_ble_eq_true rfl, Nat.le_of_ble_eq_true rfl⟩) ⟨zz_blR, va_recv hKc hPc (ci := 0) (q0 := 0) rfl rfl, fun U hU hW => ⟨rfl, by rw [hU]; exact hPc, va_K.moved hW.alike hKc⟩⟩ rfl rfl hl.1 rfl (lv_room (Nat.le_of_ble_eq_true rfl)) dX4_clean_79 ⟨Nat.zero_le _, Nat.zero_le _⟩)) (fun r_79 hr_79 => ?_)
      have hr_79 : bI (kGrave (kLive w) w2 b) = r_79 := Eq.symm hr_79
      subst hr_79
      refine zb_if_eq (tgt := 106) hx hb dX4_clean_82 (by decide) (fun c_82 => ?_) (fun c_82 => ?_)
      ·
        refine lv_iinc (v := nI (b + 1)) (lv' := [(2, .int (nI (b + 1))), (0, .ref q4), (1, .int (nI k))]) hx hb dX4_clean_106 hl (k := 2) rfl (nI_add b 1) (by decide) rfl (fun ls hl => ?_)
        refine lv_goto (tgt := 68) hx hb dX4_clean_109 (by decide) ?_
        exact ih68 (b + 1, f9, w2, lf2, dn2, k) _ _ _ ⟨by omega, by omega, by omega, by omega, by omega, hw1, (kZapF_no c_82).symm.trans hE, hP, hD, hS, lv_sub hl [1, 2, 0] rfl⟩ (by first | omega | (dsimp only; omega))
      ·
        refine lv_aload_n hx hb dX4_clean_85 rfl (lv_at hl 0 rfl) ?_
        refine va_get (D := (dC, dI)) (ci := 3) (v := .ref qd) (C := RX4) (T := TX4) (N := 9) hx hb hts iwX4 hown hK hP 1 rfl rfl 0 (by decide) fk10 (fun _ h9 => h9) rfl dX4_clean_86 ?_
        refine lv_iload_n hx hb dX4_clean_89 rfl (lv_at hl 2 rfl) ?_
        refine lv_aload_n hx hb dX4_clean_90 rfl (lv_at hl 0 rfl) ?_
        refine va_get (D := (dC, dI)) (ci := 3) (v := .ref qz) (C := RX4) (T := TX4) (N := 9) hx hb hts iwX4 hown hK hP 1 rfl rfl 7 (by decide) fk45 (fun _ h9 => h9) rfl dX4_clean_91 ?_
        by_cases hz : lf2 = nI 0
        ·
          have hPc := hP.sub (ws' := [(qd, .inr (1, [.ref qw, .int (bI true), .int lf2, .int (nI dn2)])), (qw, .inl (cyI, 512, .inl w2)), (qz, .inl (cyI, 8, .inl (fun _ => nI 0)))]) [2, 3, 0] rfl
          have hKc := hK.sub (tys' := [(cyI, .int), (cyZ, .boolean)]) [0, 1] rfl
          have hDc := hD.sub (ws' := [(qd, .inr (1, [.ref qw, .int (bI true), .int lf2, .int (nI dn2)])), (qw, .inl (cyI, 512, .inl w2)), (qz, .inl (cyI, 8, .inl (fun _ => nI 0)))]) [2, 3, 0] (by decide) rfl
          have hFc := va_free (wc := [(qd, .inr (1, [.ref qw, .int (bI true), .int lf2, .int (nI dn2)])), (qw, .inl (cyI, 512, .inl w2)), (qz, .inl (cyI, 8, .inl (fun _ => nI 0)))]) hD hS hA [2, 3, 0] rfl
          refine va_calli (va_runV (As := [.int (nI b), .ref qz]) (rest := []) ⟨hx, hb, hml, hown, hts⟩ (c_X2_write_off l dC dI cyI cyZ qd qw qz H.size w2 lf2 dn2 (fun _ => nI 0) b (by omega) (hz)) (cwV 2 hts gX4_clean_X2_write rfl rfl rfl (by decide +kernel) ⟨Nat.le_of_ble_eq_true rfl, Nat.le_of_ble_eq_true rfl⟩) ⟨zz_blW, va_recv hKc hPc (ci := 1) (q0 := 0) rfl rfl, fun U hU hW => ⟨rfl, by rw [hU], by rw [hU]; exact hPc, va_K.moved hW.alike hKc, hDc.weaken (fun _ _ _ _ => trivial)⟩⟩ rfl rfl hl.1 rfl (lv_room (Nat.le_of_ble_eq_true rfl)) dX4_clean_94 ⟨Nat.zero_le _, Nat.zero_le _⟩) hS (fun q _ h => hFc q h) hFc (fun r_94 uU tS H1 locs ht9 hvm9 hw9 hB9 hz1 hk1 hS => ?_)
          obtain ⟨hP1, hK1, hD1⟩ := hB9
          have hw9 : (r_94 = bI false) := hw9
          have hr_94 := hw9
          have hr_94 := Eq.symm hr_94
          subst hr_94
          rw [ht9] at hP1
          have hK1 := va_K.moved hvm9.symm hK1
          obtain ⟨hP, hD⟩ := va_join (wr := [(q4, .inr (3, [.ref qd, .ref qc, .ref qt, .ref ql, .ref qn, .ref qe, .ref qr, .ref qz, .int fp])), (qc, .inr (0, [.ref qd, .ref qwh, .ref qlv, .int (nI dn)])), (qwh, .inl (cyZ, 64, .inl WH1_14)), (qlv, .inl (cyZ, 64, .inl LV1_14))]) (w1 := [(qd, .inr (1, [.ref qw, .int (bI false), .int lf2, .int (nI dn2)])), (qw, .inl (cyI, 512, .inl w2)), (qz, .inl (cyI, 8, .inl (fun _ => nI 0)))]) hP hD [2, 3, 0] [1, 4, 5, 6] rfl rfl (by decide) (by decide) hk1 hFc hP1 hD1
          generalize H1 = H at hP hS ⊢
          have hP : va_P (dC, dI) vwCl [(q4, .inr (3, [.ref qd, .ref qc, .ref qt, .ref ql, .ref qn, .ref qe, .ref qr, .ref qz, .int fp])), (qc, .inr (0, [.ref qd, .ref qwh, .ref qlv, .int (nI dn)])), (qwh, .inl (cyZ, 64, .inl WH1_14)), (qlv, .inl (cyZ, 64, .inl LV1_14)), (qd, .inr (1, [.ref qw, .int (bI false), .int lf2, .int (nI dn2)])), (qw, .inl (cyI, 512, .inl w2)), (qz, .inl (cyI, 8, .inl (fun _ => nI 0)))] H := hP
          have hD : va_D A [(q4, .inr (3, [.ref qd, .ref qc, .ref qt, .ref ql, .ref qn, .ref qe, .ref qr, .ref qz, .int fp])), (qc, .inr (0, [.ref qd, .ref qwh, .ref qlv, .int (nI dn)])), (qwh, .inl (cyZ, 64, .inl WH1_14)), (qlv, .inl (cyZ, 64, .inl LV1_14)), (qd, .inr (1, [.ref qw, .int (bI false), .int lf2, .int (nI dn2)])), (qw, .inl (cyI, 512, .inl w2)), (qz, .inl (cyI, 8, .inl (fun _ => nI 0)))] := hD
          refine lv_if_ne (tgt := 103) hx hb dX4_clean_97 (by decide) (fun c_97 => absurd (by decide) c_97) (fun c_97 => ?_)
          refine lv_bipush (v := (-4)) hx hb dX4_clean_100 (by decide) ?_
          have hP9 := hP.sub (ws' := [(q4, .inr (3, [.ref qd, .ref qc, .ref qt, .ref ql, .ref qn, .ref qe, .ref qr, .ref qz, .int fp])), (qd, .inr (1, [.ref qw, .int (bI false), .int lf2, .int (nI dn2)])), (qw, .inl (cyI, 512, .inl w2)), (qc, .inr (0, [.ref qd, .ref qwh, .ref qlv, .int (nI dn)])), (qwh, .inl (cyZ, 64, .inl WH1_14)), (qlv, .inl (cyZ, 64, .inl LV1_14)), (qz, .inl (cyI, 8, .inl (fun _ => nI 0)))]) [0, 4, 5, 1, 2, 3, 6] rfl
          have hD9 := hD.sub (ws' := [(q4, .inr (3, [.ref qd, .ref qc, .ref qt, .ref ql, .ref qn, .ref qe, .ref qr, .ref qz, .int fp])), (qd, .inr (1, [.ref qw, .int (bI false), .int lf2, .int (nI dn2)])), (qw, .inl (cyI, 512, .inl w2)), (qc, .inr (0, [.ref qd, .ref qwh, .ref qlv, .int (nI dn)])), (qwh, .inl (cyZ, 64, .inl WH1_14)), (qlv, .inl (cyZ, 64, .inl LV1_14)), (qz, .inl (cyI, 8, .inl (fun _ => nI 0)))]) [0, 4, 5, 1, 2, 3, 6] (by decide) rfl
          have hK9 := hK.sub (tys' := [(cyI, .int), (cyZ, .boolean)]) [0, 1] rfl
          exact W.iret hx hb hr (fun tS ht hW => ⟨⟨_, (false, w2, lf2, dn2, WH1_14, LV1_14), rfl, ⟨by rw [kClean_2 hY (hZ0.symm.trans (hE.symm.trans (kZapF_off c_82 hz)))]; rfl, fun h => by rw [hw1 ((nI_eq (by omega) (by omega)).mp h).symm]; exact HL_14, by omega⟩, by rw [ht]; exact hP9, va_K.moved hW.alike hK9, hD9⟩, hS.F ht⟩) hS.2.2 dX4_clean_102
        ·
          have hPc := hP.sub (ws' := [(qd, .inr (1, [.ref qw, .int (bI true), .int lf2, .int (nI dn2)])), (qw, .inl (cyI, 512, .inl w2)), (qz, .inl (cyI, 8, .inl (fun _ => nI 0)))]) [2, 3, 0] rfl
          have hKc := hK.sub (tys' := [(cyI, .int), (cyZ, .boolean)]) [0, 1] rfl
          have hDc := hD.sub (ws' := [(qd, .inr (1, [.ref qw, .int (bI true), .int lf2, .int (nI dn2)])), (qw, .inl (cyI, 512, .inl w2)), (qz, .inl (cyI, 8, .inl (fun _ => nI 0)))]) [2, 3, 0] (by decide) rfl
          have hFc := va_free (wc := [(qd, .inr (1, [.ref qw, .int (bI true), .int lf2, .int (nI dn2)])), (qw, .inl (cyI, 512, .inl w2)), (qz, .inl (cyI, 8, .inl (fun _ => nI 0)))]) hD hS hA [2, 3, 0] rfl
          refine va_calli (va_runV (As := [.int (nI b), .ref qz]) (rest := []) ⟨hx, hb, hml, hown, hts⟩ (c_X2_write_on l dC dI cyI cyZ qd qw qz H.size w2 lf2 dn2 (fun _ => nI 0) b (by omega) (hz)) (cwV 2 hts gX4_clean_X2_write rfl rfl rfl (by decide +kernel) ⟨Nat.le_of_ble_eq_true rfl, Nat.le_of_ble_eq_true rfl⟩) ⟨zz_blW, va_recv hKc hPc (ci := 1) (q0 := 0) rfl rfl, fun U hU hW => ⟨rfl, by rw [hU], by rw [hU]; exact hPc, va_K.moved hW.alike hKc, hDc.weaken (fun _ _ _ _ => trivial)⟩⟩ rfl rfl hl.1 rfl (lv_room (Nat.le_of_ble_eq_true rfl)) dX4_clean_94 ⟨Nat.zero_le _, Nat.zero_le _⟩) hS (fun q _ h => hFc q h) hFc (fun r_94 uU tS H1 locs ht9 hvm9 hw9 hB9 hz1 hk1 hS => ?_)
          obtain ⟨hP1, hK1, hD1⟩ := hB9
          have hw9 : (r_94 = bI true) := hw9
          have hr_94 := hw9
          have hr_94 := Eq.symm hr_94
          subst hr_94
          rw [ht9] at hP1
          have hK1 := va_K.moved hvm9.symm hK1
          obtain ⟨hP, hD⟩ := va_join (wr := [(q4, .inr (3, [.ref qd, .ref qc, .ref qt, .ref ql, .ref qn, .ref qe, .ref qr, .ref qz, .int fp])), (qc, .inr (0, [.ref qd, .ref qwh, .ref qlv, .int (nI dn)])), (qwh, .inl (cyZ, 64, .inl WH1_14)), (qlv, .inl (cyZ, 64, .inl LV1_14))]) (w1 := [(qd, .inr (1, [.ref qw, .int (bI true), .int (kDec lf2), .int (nI (dn2 + 1))])), (qw, .inl (cyI, 512, .inl (fb_put w2 (fun _ => nI 0) (8 * b) 8))), (qz, .inl (cyI, 8, .inl (fun _ => nI 0)))]) hP hD [2, 3, 0] [1, 4, 5, 6] rfl rfl (by decide) (by decide) hk1 hFc hP1 hD1
          generalize H1 = H at hP hS ⊢
          have hP : va_P (dC, dI) vwCl [(q4, .inr (3, [.ref qd, .ref qc, .ref qt, .ref ql, .ref qn, .ref qe, .ref qr, .ref qz, .int fp])), (qc, .inr (0, [.ref qd, .ref qwh, .ref qlv, .int (nI dn)])), (qwh, .inl (cyZ, 64, .inl WH1_14)), (qlv, .inl (cyZ, 64, .inl LV1_14)), (qd, .inr (1, [.ref qw, .int (bI true), .int (kDec lf2), .int (nI (dn2 + 1))])), (qw, .inl (cyI, 512, .inl (fb_put w2 (fun _ => nI 0) (8 * b) 8))), (qz, .inl (cyI, 8, .inl (fun _ => nI 0)))] H := hP
          have hD : va_D A [(q4, .inr (3, [.ref qd, .ref qc, .ref qt, .ref ql, .ref qn, .ref qe, .ref qr, .ref qz, .int fp])), (qc, .inr (0, [.ref qd, .ref qwh, .ref qlv, .int (nI dn)])), (qwh, .inl (cyZ, 64, .inl WH1_14)), (qlv, .inl (cyZ, 64, .inl LV1_14)), (qd, .inr (1, [.ref qw, .int (bI true), .int (kDec lf2), .int (nI (dn2 + 1))])), (qw, .inl (cyI, 512, .inl (fb_put w2 (fun _ => nI 0) (8 * b) 8))), (qz, .inl (cyI, 8, .inl (fun _ => nI 0)))] := hD
          refine lv_if_ne (tgt := 103) hx hb dX4_clean_97 (by decide) (fun c_97 => ?_) (fun c_97 => absurd c_97 (by decide))
          refine lv_iinc (v := nI (k + 1)) (lv' := [(1, .int (nI (k + 1))), (0, .ref q4), (2, .int (nI b))]) hx hb dX4_clean_103 hl (k := 1) rfl (nI_add k 1) (by decide) rfl (fun ls hl => ?_)
          refine lv_iinc (v := nI (b + 1)) (lv' := [(2, .int (nI (b + 1))), (1, .int (nI (k + 1))), (0, .ref q4)]) hx hb dX4_clean_106 hl (k := 2) rfl (nI_add b 1) (by decide) rfl (fun ls hl => ?_)
          refine lv_goto (tgt := 68) hx hb dX4_clean_109 (by decide) ?_
          have hP := hP.sub (ws' := [(qz, .inl (cyI, 8, .inl (fun _ => nI 0))), (q4, .inr (3, [.ref qd, .ref qc, .ref qt, .ref ql, .ref qn, .ref qe, .ref qr, .ref qz, .int fp])), (qd, .inr (1, [.ref qw, .int (bI true), .int (kDec lf2), .int (nI (dn2 + 1))])), (qw, .inl (cyI, 512, .inl (fb_put w2 (fun _ => nI 0) (8 * b) 8))), (qc, .inr (0, [.ref qd, .ref qwh, .ref qlv, .int (nI dn)])), (qwh, .inl (cyZ, 64, .inl WH1_14)), (qlv, .inl (cyZ, 64, .inl LV1_14))]) [6, 0, 4, 5, 1, 2, 3] rfl
          have hD := hD.sub (ws' := [(qz, .inl (cyI, 8, .inl (fun _ => nI 0))), (q4, .inr (3, [.ref qd, .ref qc, .ref qt, .ref ql, .ref qn, .ref qe, .ref qr, .ref qz, .int fp])), (qd, .inr (1, [.ref qw, .int (bI true), .int (kDec lf2), .int (nI (dn2 + 1))])), (qw, .inl (cyI, 512, .inl (fb_put w2 (fun _ => nI 0) (8 * b) 8))), (qc, .inr (0, [.ref qd, .ref qwh, .ref qlv, .int (nI dn)])), (qwh, .inl (cyZ, 64, .inl WH1_14)), (qlv, .inl (cyZ, 64, .inl LV1_14))]) [6, 0, 4, 5, 1, 2, 3] (by decide) rfl
          exact ih68 (b + 1, f9, fb_put w2 (fun _ => nI 0) (8 * b) 8, kDec lf2, dn2 + 1, k + 1) _ _ _ ⟨by omega, by omega, by omega, by omega, by omega, fun h => absurd h (by omega), (kZapF_do c_82 hz).symm.trans hE, hP, hD, hS, lv_sub hl [2, 1, 0] rfl⟩ (by first | omega | (dsimp only; omega))
  ·
    obtain ⟨f9, e9⟩ : ∃ f9, f = f9 + 1 := ⟨f - 1, by omega⟩
    subst e9
    refine lv_aload_n hx hb dX4_clean_28 rfl (lv_at hl 0 rfl) ?_
    refine va_get (D := (dC, dI)) (ci := 3) (v := .ref qc) (C := RX4) (T := TX4) (N := 9) hx hb hts iwX4 hown hK hP 1 rfl rfl 1 (by decide) fk21 (fun _ h9 => h9) rfl dX4_clean_29 ?_
    refine lv_iload_n hx hb dX4_clean_32 rfl (lv_at hl 2 rfl) ?_
    have hPc := hP.sub (ws' := [(qc, .inr (0, [.ref qd, .ref qwh, .ref qlv, .int (nI dn)])), (qwh, .inl (cyZ, 64, .inl WH1_14)), (qlv, .inl (cyZ, 64, .inl LV1_14)), (qd, .inr (1, [.ref qw, .int (bI true), .int lf1, .int (nI dn1)])), (qw, .inl (cyI, 512, .inl w1))]) [4, 5, 6, 2, 3] rfl
    have hKc := hK.sub (tys' := [(cyI, .int), (cyZ, .boolean)]) [0, 1] rfl
    refine vp_callSi (va_Run.run (va_runV (As := [.int (nI b)]) (rest := []) ⟨hx, hb, hml, hown, hts⟩ (c_X0_isLeftOver l dC dI cyI cyZ qc qwh qlv qd qw WH1_14 LV1_14 (nI dn) w1 true lf1 dn1 (kLive w) b (by omega) (HL_14)) (cwV 1 hts gX4_clean_X0_isLeftOver rfl rfl rfl (by decide +kernel) ⟨Nat.le_of_ble_eq_true rfl, Nat.le_of_ble_eq_true rfl⟩) ⟨zz_blR, va_recv hKc hPc (ci := 0) (q0 := 0) rfl rfl, fun U hU hW => ⟨rfl, by rw [hU]; exact hPc, va_K.moved hW.alike hKc⟩⟩ rfl rfl hl.1 rfl (lv_room (Nat.le_of_ble_eq_true rfl)) dX4_clean_33 ⟨Nat.zero_le _, Nat.zero_le _⟩)) (fun r_33 hr_33 => ?_)
    have hr_33 : bI (kLeft (kLive w) w1 b) = r_33 := Eq.symm hr_33
    subst hr_33
    refine zb_if_eq (tgt := 60) hx hb dX4_clean_36 (by decide) (fun c_36 => ?_) (fun c_36 => ?_)
    ·
      refine lv_iinc (v := nI (b + 1)) (lv' := [(2, .int (nI (b + 1))), (0, .ref q4), (1, .int (nI k))]) hx hb dX4_clean_60 hl (k := 2) rfl (nI_add b 1) (by decide) rfl (fun ls hl => ?_)
      refine lv_goto (tgt := 22) hx hb dX4_clean_63 (by decide) ?_
      exact ih22 (b + 1, f9, w1, lf1, dn1, k) _ _ _ ⟨by omega, by omega, by omega, by omega, by omega, hw1, (kZapF_no c_36).symm.trans hE, hP, hD, hS, lv_sub hl [1, 2, 0] rfl⟩ (by first | omega | (dsimp only; omega))
    ·
      refine lv_aload_n hx hb dX4_clean_39 rfl (lv_at hl 0 rfl) ?_
      refine va_get (D := (dC, dI)) (ci := 3) (v := .ref qd) (C := RX4) (T := TX4) (N := 9) hx hb hts iwX4 hown hK hP 1 rfl rfl 0 (by decide) fk10 (fun _ h9 => h9) rfl dX4_clean_40 ?_
      refine lv_iload_n hx hb dX4_clean_43 rfl (lv_at hl 2 rfl) ?_
      refine lv_aload_n hx hb dX4_clean_44 rfl (lv_at hl 0 rfl) ?_
      refine va_get (D := (dC, dI)) (ci := 3) (v := .ref qz) (C := RX4) (T := TX4) (N := 9) hx hb hts iwX4 hown hK hP 1 rfl rfl 7 (by decide) fk45 (fun _ h9 => h9) rfl dX4_clean_45 ?_
      by_cases hz : lf1 = nI 0
      ·
        have hPc := hP.sub (ws' := [(qd, .inr (1, [.ref qw, .int (bI true), .int lf1, .int (nI dn1)])), (qw, .inl (cyI, 512, .inl w1)), (qz, .inl (cyI, 8, .inl (fun _ => nI 0)))]) [2, 3, 0] rfl
        have hKc := hK.sub (tys' := [(cyI, .int), (cyZ, .boolean)]) [0, 1] rfl
        have hDc := hD.sub (ws' := [(qd, .inr (1, [.ref qw, .int (bI true), .int lf1, .int (nI dn1)])), (qw, .inl (cyI, 512, .inl w1)), (qz, .inl (cyI, 8, .inl (fun _ => nI 0)))]) [2, 3, 0] (by decide) rfl
        have hFc := va_free (wc := [(qd, .inr (1, [.ref qw, .int (bI true), .int lf1, .int (nI dn1)])), (qw, .inl (cyI, 512, .inl w1)), (qz, .inl (cyI, 8, .inl (fun _ => nI 0)))]) hD hS hA [2, 3, 0] rfl
        refine va_calli (va_runV (As := [.int (nI b), .ref qz]) (rest := []) ⟨hx, hb, hml, hown, hts⟩ (c_X2_write_off l dC dI cyI cyZ qd qw qz H.size w1 lf1 dn1 (fun _ => nI 0) b (by omega) (hz)) (cwV 2 hts gX4_clean_X2_write rfl rfl rfl (by decide +kernel) ⟨Nat.le_of_ble_eq_true rfl, Nat.le_of_ble_eq_true rfl⟩) ⟨zz_blW, va_recv hKc hPc (ci := 1) (q0 := 0) rfl rfl, fun U hU hW => ⟨rfl, by rw [hU], by rw [hU]; exact hPc, va_K.moved hW.alike hKc, hDc.weaken (fun _ _ _ _ => trivial)⟩⟩ rfl rfl hl.1 rfl (lv_room (Nat.le_of_ble_eq_true rfl)) dX4_clean_48 ⟨Nat.zero_le _, Nat.zero_le _⟩) hS (fun q _ h => hFc q h) hFc (fun r_48 uU tS H1 locs ht9 hvm9 hw9 hB9 hz1 hk1 hS => ?_)
        obtain ⟨hP1, hK1, hD1⟩ := hB9
        have hw9 : (r_48 = bI false) := hw9
        have hr_48 := hw9
        have hr_48 := Eq.symm hr_48
        subst hr_48
        rw [ht9] at hP1
        have hK1 := va_K.moved hvm9.symm hK1
        obtain ⟨hP, hD⟩ := va_join (wr := [(q4, .inr (3, [.ref qd, .ref qc, .ref qt, .ref ql, .ref qn, .ref qe, .ref qr, .ref qz, .int fp])), (qc, .inr (0, [.ref qd, .ref qwh, .ref qlv, .int (nI dn)])), (qwh, .inl (cyZ, 64, .inl WH1_14)), (qlv, .inl (cyZ, 64, .inl LV1_14))]) (w1 := [(qd, .inr (1, [.ref qw, .int (bI false), .int lf1, .int (nI dn1)])), (qw, .inl (cyI, 512, .inl w1)), (qz, .inl (cyI, 8, .inl (fun _ => nI 0)))]) hP hD [2, 3, 0] [1, 4, 5, 6] rfl rfl (by decide) (by decide) hk1 hFc hP1 hD1
        generalize H1 = H at hP hS ⊢
        have hP : va_P (dC, dI) vwCl [(q4, .inr (3, [.ref qd, .ref qc, .ref qt, .ref ql, .ref qn, .ref qe, .ref qr, .ref qz, .int fp])), (qc, .inr (0, [.ref qd, .ref qwh, .ref qlv, .int (nI dn)])), (qwh, .inl (cyZ, 64, .inl WH1_14)), (qlv, .inl (cyZ, 64, .inl LV1_14)), (qd, .inr (1, [.ref qw, .int (bI false), .int lf1, .int (nI dn1)])), (qw, .inl (cyI, 512, .inl w1)), (qz, .inl (cyI, 8, .inl (fun _ => nI 0)))] H := hP
        have hD : va_D A [(q4, .inr (3, [.ref qd, .ref qc, .ref qt, .ref ql, .ref qn, .ref qe, .ref qr, .ref qz, .int fp])), (qc, .inr (0, [.ref qd, .ref qwh, .ref qlv, .int (nI dn)])), (qwh, .inl (cyZ, 64, .inl WH1_14)), (qlv, .inl (cyZ, 64, .inl LV1_14)), (qd, .inr (1, [.ref qw, .int (bI false), .int lf1, .int (nI dn1)])), (qw, .inl (cyI, 512, .inl w1)), (qz, .inl (cyI, 8, .inl (fun _ => nI 0)))] := hD
        refine lv_if_ne (tgt := 57) hx hb dX4_clean_51 (by decide) (fun c_51 => absurd (by decide) c_51) (fun c_51 => ?_)
        refine lv_bipush (v := (-4)) hx hb dX4_clean_54 (by decide) ?_
        have hP9 := hP.sub (ws' := [(q4, .inr (3, [.ref qd, .ref qc, .ref qt, .ref ql, .ref qn, .ref qe, .ref qr, .ref qz, .int fp])), (qd, .inr (1, [.ref qw, .int (bI false), .int lf1, .int (nI dn1)])), (qw, .inl (cyI, 512, .inl w1)), (qc, .inr (0, [.ref qd, .ref qwh, .ref qlv, .int (nI dn)])), (qwh, .inl (cyZ, 64, .inl WH1_14)), (qlv, .inl (cyZ, 64, .inl LV1_14)), (qz, .inl (cyI, 8, .inl (fun _ => nI 0)))]) [0, 4, 5, 1, 2, 3, 6] rfl
        have hD9 := hD.sub (ws' := [(q4, .inr (3, [.ref qd, .ref qc, .ref qt, .ref ql, .ref qn, .ref qe, .ref qr, .ref qz, .int fp])), (qd, .inr (1, [.ref qw, .int (bI false), .int lf1, .int (nI dn1)])), (qw, .inl (cyI, 512, .inl w1)), (qc, .inr (0, [.ref qd, .ref qwh, .ref qlv, .int (nI dn)])), (qwh, .inl (cyZ, 64, .inl WH1_14)), (qlv, .inl (cyZ, 64, .inl LV1_14)), (qz, .inl (cyI, 8, .inl (fun _ => nI 0)))]) [0, 4, 5, 1, 2, 3, 6] (by decide) rfl
        have hK9 := hK.sub (tys' := [(cyI, .int), (cyZ, .boolean)]) [0, 1] rfl
        exact W.iret hx hb hr (fun tS ht hW => ⟨⟨_, (false, w1, lf1, dn1, WH1_14, LV1_14), rfl, ⟨(kClean_1 (hY0.symm.trans (hE.symm.trans (kZapF_off c_36 hz)))).symm, fun h => by rw [hw1 ((nI_eq (by omega) (by omega)).mp h).symm]; exact HL_14, by omega⟩, by rw [ht]; exact hP9, va_K.moved hW.alike hK9, hD9⟩, hS.F ht⟩) hS.2.2 dX4_clean_56
      ·
        have hPc := hP.sub (ws' := [(qd, .inr (1, [.ref qw, .int (bI true), .int lf1, .int (nI dn1)])), (qw, .inl (cyI, 512, .inl w1)), (qz, .inl (cyI, 8, .inl (fun _ => nI 0)))]) [2, 3, 0] rfl
        have hKc := hK.sub (tys' := [(cyI, .int), (cyZ, .boolean)]) [0, 1] rfl
        have hDc := hD.sub (ws' := [(qd, .inr (1, [.ref qw, .int (bI true), .int lf1, .int (nI dn1)])), (qw, .inl (cyI, 512, .inl w1)), (qz, .inl (cyI, 8, .inl (fun _ => nI 0)))]) [2, 3, 0] (by decide) rfl
        have hFc := va_free (wc := [(qd, .inr (1, [.ref qw, .int (bI true), .int lf1, .int (nI dn1)])), (qw, .inl (cyI, 512, .inl w1)), (qz, .inl (cyI, 8, .inl (fun _ => nI 0)))]) hD hS hA [2, 3, 0] rfl
        refine va_calli (va_runV (As := [.int (nI b), .ref qz]) (rest := []) ⟨hx, hb, hml, hown, hts⟩ (c_X2_write_on l dC dI cyI cyZ qd qw qz H.size w1 lf1 dn1 (fun _ => nI 0) b (by omega) (hz)) (cwV 2 hts gX4_clean_X2_write rfl rfl rfl (by decide +kernel) ⟨Nat.le_of_ble_eq_true rfl, Nat.le_of_ble_eq_true rfl⟩) ⟨zz_blW, va_recv hKc hPc (ci := 1) (q0 := 0) rfl rfl, fun U hU hW => ⟨rfl, by rw [hU], by rw [hU]; exact hPc, va_K.moved hW.alike hKc, hDc.weaken (fun _ _ _ _ => trivial)⟩⟩ rfl rfl hl.1 rfl (lv_room (Nat.le_of_ble_eq_true rfl)) dX4_clean_48 ⟨Nat.zero_le _, Nat.zero_le _⟩) hS (fun q _ h => hFc q h) hFc (fun r_48 uU tS H1 locs ht9 hvm9 hw9 hB9 hz1 hk1 hS => ?_)
        obtain ⟨hP1, hK1, hD1⟩ := hB9
        have hw9 : (r_48 = bI true) := hw9
        have hr_48 := hw9
        have hr_48 := Eq.symm hr_48
        subst hr_48
        rw [ht9] at hP1
        have hK1 := va_K.moved hvm9.symm hK1
        obtain ⟨hP, hD⟩ := va_join (wr := [(q4, .inr (3, [.ref qd, .ref qc, .ref qt, .ref ql, .ref qn, .ref qe, .ref qr, .ref qz, .int fp])), (qc, .inr (0, [.ref qd, .ref qwh, .ref qlv, .int (nI dn)])), (qwh, .inl (cyZ, 64, .inl WH1_14)), (qlv, .inl (cyZ, 64, .inl LV1_14))]) (w1 := [(qd, .inr (1, [.ref qw, .int (bI true), .int (kDec lf1), .int (nI (dn1 + 1))])), (qw, .inl (cyI, 512, .inl (fb_put w1 (fun _ => nI 0) (8 * b) 8))), (qz, .inl (cyI, 8, .inl (fun _ => nI 0)))]) hP hD [2, 3, 0] [1, 4, 5, 6] rfl rfl (by decide) (by decide) hk1 hFc hP1 hD1
        generalize H1 = H at hP hS ⊢
        have hP : va_P (dC, dI) vwCl [(q4, .inr (3, [.ref qd, .ref qc, .ref qt, .ref ql, .ref qn, .ref qe, .ref qr, .ref qz, .int fp])), (qc, .inr (0, [.ref qd, .ref qwh, .ref qlv, .int (nI dn)])), (qwh, .inl (cyZ, 64, .inl WH1_14)), (qlv, .inl (cyZ, 64, .inl LV1_14)), (qd, .inr (1, [.ref qw, .int (bI true), .int (kDec lf1), .int (nI (dn1 + 1))])), (qw, .inl (cyI, 512, .inl (fb_put w1 (fun _ => nI 0) (8 * b) 8))), (qz, .inl (cyI, 8, .inl (fun _ => nI 0)))] H := hP
        have hD : va_D A [(q4, .inr (3, [.ref qd, .ref qc, .ref qt, .ref ql, .ref qn, .ref qe, .ref qr, .ref qz, .int fp])), (qc, .inr (0, [.ref qd, .ref qwh, .ref qlv, .int (nI dn)])), (qwh, .inl (cyZ, 64, .inl WH1_14)), (qlv, .inl (cyZ, 64, .inl LV1_14)), (qd, .inr (1, [.ref qw, .int (bI true), .int (kDec lf1), .int (nI (dn1 + 1))])), (qw, .inl (cyI, 512, .inl (fb_put w1 (fun _ => nI 0) (8 * b) 8))), (qz, .inl (cyI, 8, .inl (fun _ => nI 0)))] := hD
        refine lv_if_ne (tgt := 57) hx hb dX4_clean_51 (by decide) (fun c_51 => ?_) (fun c_51 => absurd c_51 (by decide))
        refine lv_iinc (v := nI (k + 1)) (lv' := [(1, .int (nI (k + 1))), (0, .ref q4), (2, .int (nI b))]) hx hb dX4_clean_57 hl (k := 1) rfl (nI_add k 1) (by decide) rfl (fun ls hl => ?_)
        refine lv_iinc (v := nI (b + 1)) (lv' := [(2, .int (nI (b + 1))), (1, .int (nI (k + 1))), (0, .ref q4)]) hx hb dX4_clean_60 hl (k := 2) rfl (nI_add b 1) (by decide) rfl (fun ls hl => ?_)
        refine lv_goto (tgt := 22) hx hb dX4_clean_63 (by decide) ?_
        have hP := hP.sub (ws' := [(qz, .inl (cyI, 8, .inl (fun _ => nI 0))), (q4, .inr (3, [.ref qd, .ref qc, .ref qt, .ref ql, .ref qn, .ref qe, .ref qr, .ref qz, .int fp])), (qd, .inr (1, [.ref qw, .int (bI true), .int (kDec lf1), .int (nI (dn1 + 1))])), (qw, .inl (cyI, 512, .inl (fb_put w1 (fun _ => nI 0) (8 * b) 8))), (qc, .inr (0, [.ref qd, .ref qwh, .ref qlv, .int (nI dn)])), (qwh, .inl (cyZ, 64, .inl WH1_14)), (qlv, .inl (cyZ, 64, .inl LV1_14))]) [6, 0, 4, 5, 1, 2, 3] rfl
        have hD := hD.sub (ws' := [(qz, .inl (cyI, 8, .inl (fun _ => nI 0))), (q4, .inr (3, [.ref qd, .ref qc, .ref qt, .ref ql, .ref qn, .ref qe, .ref qr, .ref qz, .int fp])), (qd, .inr (1, [.ref qw, .int (bI true), .int (kDec lf1), .int (nI (dn1 + 1))])), (qw, .inl (cyI, 512, .inl (fb_put w1 (fun _ => nI 0) (8 * b) 8))), (qc, .inr (0, [.ref qd, .ref qwh, .ref qlv, .int (nI dn)])), (qwh, .inl (cyZ, 64, .inl WH1_14)), (qlv, .inl (cyZ, 64, .inl LV1_14))]) [6, 0, 4, 5, 1, 2, 3] (by decide) rfl
        exact ih22 (b + 1, f9, fb_put w1 (fun _ => nI 0) (8 * b) 8, kDec lf1, dn1 + 1, k + 1) _ _ _ ⟨by omega, by omega, by omega, by omega, by omega, fun h => absurd h (by omega), (kZapF_do c_36 hz).symm.trans hE, hP, hD, hS, lv_sub hl [2, 1, 0] rfl⟩ (by first | omega | (dsimp only; omega))
set_option maxHeartbeats 4000000 in
set_option maxRecDepth 100000 in
theorem c_X4_load (l : Launch) (dC : Nat → ClassId) (dI : Nat → Nat → Nat) (cyI cyZ : ClassId) (q4 qd qw qc qwh qlv ql qla qn qna qe qea qt qr qz : Nat) (sz : Nat) (w : Nat → Int32) (lf : Int32) (dn : Nat) (WH LV : Nat → Int32) (sa : Int32) (fp : Int32) (P : Nat → Int32) (k : Nat) (C0 : Nat → Int32) (m0 : Nat) (G : Nat → Int32) (g : Nat) (ky : Int32) (HS : sa = nI dn → ∀ j, j < 64 → LV j = bI (kLive w j)) (HG : kGood w) : Met l yX4_load wsX4_load ({ frames := 5, cells := 0, slots := 0, locals := 107 }) (va_Pc [.ref q4, .int ky] (fun U => U.heap.size = sz ∧ va_P (dC, dI) vwCl [(q4, .inr (3, [.ref qd, .ref qc, .ref qt, .ref ql, .ref qn, .ref qe, .ref qr, .ref qz, .int fp])), (qd, .inr (1, [.ref qw, .int (bI true), .int lf, .int (nI dn)])), (qw, .inl (cyI, 512, .inl w)), (qc, .inr (0, [.ref qd, .ref qwh, .ref qlv, .int sa])), (qwh, .inl (cyZ, 64, .inl WH)), (qlv, .inl (cyZ, 64, .inl LV)), (ql, .inr (2, [.ref qla, .int (nI k)])), (qla, .inl (cyI, 450, .inl P)), (qn, .inr (2, [.ref qna, .int (nI m0)])), (qna, .inl (cyI, 450, .inl C0)), (qe, .inr (2, [.ref qea, .int (nI g)])), (qea, .inl (cyI, 450, .inl G))] U.heap ∧ va_K (dC, dI) vwCl [(cyI, .int), (cyZ, .boolean)] U ∧ va_D (fun _ => True) [(q4, .inr (3, [.ref qd, .ref qc, .ref qt, .ref ql, .ref qn, .ref qe, .ref qr, .ref qz, .int fp])), (qd, .inr (1, [.ref qw, .int (bI true), .int lf, .int (nI dn)])), (qw, .inl (cyI, 512, .inl w)), (qc, .inr (0, [.ref qd, .ref qwh, .ref qlv, .int sa])), (qwh, .inl (cyZ, 64, .inl WH)), (qlv, .inl (cyZ, 64, .inl LV)), (ql, .inr (2, [.ref qla, .int (nI k)])), (qla, .inl (cyI, 450, .inl P)), (qn, .inr (2, [.ref qna, .int (nI m0)])), (qna, .inl (cyI, 450, .inl C0)), (qe, .inr (2, [.ref qea, .int (nI g)])), (qea, .inl (cyI, 450, .inl G))])) (va_Qi (S := (Nat → Int32) × (Nat → Int32) × Nat × (Nat → Int32) × Nat × (Nat → Int32) × Nat × (Nat → Int32)) (fun (r : Int32) (uU : (Nat → Int32) × (Nat → Int32) × Nat × (Nat → Int32) × Nat × (Nat → Int32) × Nat × (Nat → Int32)) => match uU with | (WH1, LV1, k1, P1, m1, C1, g1, G1) => (∀ j, j < 64 → LV1 j = bI (kLive w j)) ∧ (r = (zLoad w ky k P).1 ∧ k1 = (zLoad w ky k P).2.1 ∧ ∀ j, j < k1 → P1 j = (zLoad w ky k P).2.2 j) ∧ (k1 ≤ 400 ∨ k1 = k)) (fun (uU : (Nat → Int32) × (Nat → Int32) × Nat × (Nat → Int32) × Nat × (Nat → Int32) × Nat × (Nat → Int32)) tS => match uU with | (WH1, LV1, k1, P1, m1, C1, g1, G1) => va_P (dC, dI) vwCl [(q4, .inr (3, [.ref qd, .ref qc, .ref qt, .ref ql, .ref qn, .ref qe, .ref qr, .ref qz, .int fp])), (qd, .inr (1, [.ref qw, .int (bI true), .int lf, .int (nI dn)])), (qw, .inl (cyI, 512, .inl w)), (qc, .inr (0, [.ref qd, .ref qwh, .ref qlv, .int (nI dn)])), (qwh, .inl (cyZ, 64, .inl WH1)), (qlv, .inl (cyZ, 64, .inl LV1)), (ql, .inr (2, [.ref qla, .int (nI k1)])), (qla, .inl (cyI, 450, .inl P1)), (qn, .inr (2, [.ref qna, .int (nI m1)])), (qna, .inl (cyI, 450, .inl C1)), (qe, .inr (2, [.ref qea, .int (nI g1)])), (qea, .inl (cyI, 450, .inl G1))] tS.heap ∧ va_K (dC, dI) vwCl [(cyI, .int), (cyZ, .boolean)] tS ∧ va_D (va_A [(q4, .inr (3, [.ref qd, .ref qc, .ref qt, .ref ql, .ref qn, .ref qe, .ref qr, .ref qz, .int fp])), (qd, .inr (1, [.ref qw, .int (bI true), .int lf, .int (nI dn)])), (qw, .inl (cyI, 512, .inl w)), (qc, .inr (0, [.ref qd, .ref qwh, .ref qlv, .int sa])), (qwh, .inl (cyZ, 64, .inl WH)), (qlv, .inl (cyZ, 64, .inl LV)), (ql, .inr (2, [.ref qla, .int (nI k)])), (qla, .inl (cyI, 450, .inl P)), (qn, .inr (2, [.ref qna, .int (nI m0)])), (qna, .inl (cyI, 450, .inl C0)), (qe, .inr (2, [.ref qea, .int (nI g)])), (qea, .inl (cyI, 450, .inl G))] sz) [(q4, .inr (3, [.ref qd, .ref qc, .ref qt, .ref ql, .ref qn, .ref qe, .ref qr, .ref qz, .int fp])), (qd, .inr (1, [.ref qw, .int (bI true), .int lf, .int (nI dn)])), (qw, .inl (cyI, 512, .inl w)), (qc, .inr (0, [.ref qd, .ref qwh, .ref qlv, .int (nI dn)])), (qwh, .inl (cyZ, 64, .inl WH1)), (qlv, .inl (cyZ, 64, .inl LV1)), (ql, .inr (2, [.ref qla, .int (nI k1)])), (qla, .inl (cyI, 450, .inl P1)), (qn, .inr (2, [.ref qna, .int (nI m1)])), (qna, .inl (cyI, 450, .inl C1)), (qe, .inr (2, [.ref qea, .int (nI g1)])), (qea, .inl (cyI, 450, .inl G1))]) (va_A [(q4, .inr (3, [.ref qd, .ref qc, .ref qt, .ref ql, .ref qn, .ref qe, .ref qr, .ref qz, .int fp])), (qd, .inr (1, [.ref qw, .int (bI true), .int lf, .int (nI dn)])), (qw, .inl (cyI, 512, .inl w)), (qc, .inr (0, [.ref qd, .ref qwh, .ref qlv, .int sa])), (qwh, .inl (cyZ, 64, .inl WH)), (qlv, .inl (cyZ, 64, .inl LV)), (ql, .inr (2, [.ref qla, .int (nI k)])), (qla, .inl (cyI, 450, .inl P)), (qn, .inr (2, [.ref qna, .int (nI m0)])), (qna, .inl (cyI, 450, .inl C0)), (qe, .inr (2, [.ref qea, .int (nI g)])), (qea, .inl (cyI, 450, .inl G))] sz)) 0 0 (va_A [(q4, .inr (3, [.ref qd, .ref qc, .ref qt, .ref ql, .ref qn, .ref qe, .ref qr, .ref qz, .int fp])), (qd, .inr (1, [.ref qw, .int (bI true), .int lf, .int (nI dn)])), (qw, .inl (cyI, 512, .inl w)), (qc, .inr (0, [.ref qd, .ref qwh, .ref qlv, .int sa])), (qwh, .inl (cyZ, 64, .inl WH)), (qlv, .inl (cyZ, 64, .inl LV)), (ql, .inr (2, [.ref qla, .int (nI k)])), (qla, .inl (cyI, 450, .inl P)), (qn, .inr (2, [.ref qna, .int (nI m0)])), (qna, .inl (cyI, 450, .inl C0)), (qe, .inr (2, [.ref qea, .int (nI g)])), (qea, .inl (cyI, 450, .inl G))] sz) := by
  refine Met.ofW (cc := cX4_load) (maxL := 3) (ret := (some .int)) (by decide) rfl ?_
  intro pz ez sS mM args below meth cC s₁ B hml hv
  obtain ⟨rfl, hsz, hP, hK, hD0⟩ := hv
  have hx := B.exec
  have hb := B.bytes
  have hr := B.returns
  have hts := atoms_spec (ws := wsX4_load) B.pre
  have hown : sS.vm.findClass RX4 = some mM.cls := findClass_of_methodNamed B.named
  have hlocks := B.notSynchronized
  subst hsz
  have hD := hD0.self (sz := sS.heap.size)
  generalize hAe : va_A [(q4, .inr (3, [.ref qd, .ref qc, .ref qt, .ref ql, .ref qn, .ref qe, .ref qr, .ref qz, .int fp])), (qd, .inr (1, [.ref qw, .int (bI true), .int lf, .int (nI dn)])), (qw, .inl (cyI, 512, .inl w)), (qc, .inr (0, [.ref qd, .ref qwh, .ref qlv, .int sa])), (qwh, .inl (cyZ, 64, .inl WH)), (qlv, .inl (cyZ, 64, .inl LV)), (ql, .inr (2, [.ref qla, .int (nI k)])), (qla, .inl (cyI, 450, .inl P)), (qn, .inr (2, [.ref qna, .int (nI m0)])), (qna, .inl (cyI, 450, .inl C0)), (qe, .inr (2, [.ref qea, .int (nI g)])), (qea, .inl (cyI, 450, .inl G))] sS.heap.size = A at hD ⊢
  have hA : ∀ q : Nat, sS.heap.size ≤ q → A q := fun q h => by rw [← hAe]; exact Or.inr h
  have hS : va_S A sS.heap sS.heap [] := va_S.rf
  have hP : va_P (dC, dI) vwCl [(q4, .inr (3, [.ref qd, .ref qc, .ref qt, .ref ql, .ref qn, .ref qe, .ref qr, .ref qz, .int fp])), (qd, .inr (1, [.ref qw, .int (bI true), .int lf, .int (nI dn)])), (qw, .inl (cyI, 512, .inl w)), (qc, .inr (0, [.ref qd, .ref qwh, .ref qlv, .int sa])), (qwh, .inl (cyZ, 64, .inl WH)), (qlv, .inl (cyZ, 64, .inl LV)), (ql, .inr (2, [.ref qla, .int (nI k)])), (qla, .inl (cyI, 450, .inl P)), (qn, .inr (2, [.ref qna, .int (nI m0)])), (qna, .inl (cyI, 450, .inl C0)), (qe, .inr (2, [.ref qea, .int (nI g)])), (qea, .inl (cyI, 450, .inl G))] sS.heap := hP
  have iwX4 : ∀ w ∈ wsX40, w ∈ wsX4_load := by decide +kernel
  have fk10 := hts (.fieldLink RX4 10 "CodedStore" "disk" "LCodedStore$Disk;") (by decide +kernel)
  have fk21 := hts (.fieldLink RX4 21 "CodedStore" "catalog" "LCodedStore$Catalog;") (by decide +kernel)
  have fk32 := hts (.fieldLink RX4 32 "CodedStore" "loaded" "LCodedStore$Octets;") (by decide +kernel)
  have fk35 := hts (.fieldLink RX4 35 "CodedStore" "content" "LCodedStore$Octets;") (by decide +kernel)
  have fk38 := hts (.fieldLink RX4 38 "CodedStore" "decoded" "LCodedStore$Octets;") (by decide +kernel)
  have hl := lv_entry ([.ref q4, .int ky]) (n := 3) (Nat.le_of_ble_eq_true rfl)
  rw [lg_entry_eq]
  generalize (lg_sl ([.ref q4, .int ky]) ++ List.replicate (3 - (lg_sl ([.ref q4, .int ky])).length) Slot.unset).toArray = ls at hl ⊢
  have hl : lv_has ls 3 [(0, .ref q4), (1, .int ky)] := hl
  refine lv_aload_n hx hb dX4_load_0 rfl (lv_at hl 0 rfl) ?_
  refine va_get (D := (dC, dI)) (ci := 3) (v := .ref qd) (C := RX4) (T := TX4) (N := 9) hx hb hts iwX4 hown hK hP 0 rfl rfl 0 (by decide) fk10 (fun _ h9 => h9) rfl dX4_load_1 ?_
  have hPc := hP.sub (ws' := [(qd, .inr (1, [.ref qw, .int (bI true), .int lf, .int (nI dn)])), (qw, .inl (cyI, 512, .inl w))]) [1, 2] rfl
  have hKc := hK.sub (tys' := [(cyI, .int), (cyZ, .boolean)]) [0, 1] rfl
  refine vp_callSi (va_Run.run (va_runV (As := []) (rest := []) ⟨hx, hb, hml, hown, hts⟩ (c_X2_isOn l dC dI cyI cyZ qd qw w true lf dn) (cwV 0 hts gX4_load_X2_isOn rfl rfl rfl (by decide +kernel) ⟨Nat.le_of_ble_eq_true rfl, Nat.le_of_ble_eq_true rfl⟩) ⟨zz_blR, va_recv hKc hPc (ci := 1) (q0 := 0) rfl rfl, fun U hU hW => ⟨rfl, by rw [hU]; exact hPc, va_K.moved hW.alike hKc⟩⟩ rfl rfl hl.1 rfl (lv_room (Nat.le_of_ble_eq_true rfl)) dX4_load_4 ⟨Nat.zero_le _, Nat.zero_le _⟩)) (fun r_4 hr_4 => ?_)
  have hr_4 : bI true = r_4 := Eq.symm hr_4
  subst hr_4
  refine lv_if_ne (tgt := 13) hx hb dX4_load_7 (by decide) (fun c_7 => ?_) (fun c_7 => absurd c_7 (by decide))
  refine lv_aload_n hx hb dX4_load_13 rfl (lv_at hl 0 rfl) ?_
  have hPc := hP.sub (ws' := [(q4, .inr (3, [.ref qd, .ref qc, .ref qt, .ref ql, .ref qn, .ref qe, .ref qr, .ref qz, .int fp])), (qd, .inr (1, [.ref qw, .int (bI true), .int lf, .int (nI dn)])), (qw, .inl (cyI, 512, .inl w)), (qc, .inr (0, [.ref qd, .ref qwh, .ref qlv, .int sa])), (qwh, .inl (cyZ, 64, .inl WH)), (qlv, .inl (cyZ, 64, .inl LV))]) [0, 1, 2, 3, 4, 5] rfl
  have hKc := hK.sub (tys' := [(cyI, .int), (cyZ, .boolean)]) [0, 1] rfl
  have hDc := hD.sub (ws' := [(q4, .inr (3, [.ref qd, .ref qc, .ref qt, .ref ql, .ref qn, .ref qe, .ref qr, .ref qz, .int fp])), (qd, .inr (1, [.ref qw, .int (bI true), .int lf, .int (nI dn)])), (qw, .inl (cyI, 512, .inl w)), (qc, .inr (0, [.ref qd, .ref qwh, .ref qlv, .int sa])), (qwh, .inl (cyZ, 64, .inl WH)), (qlv, .inl (cyZ, 64, .inl LV))]) [0, 1, 2, 3, 4, 5] (by decide) rfl
  have hFc := va_free (wc := [(q4, .inr (3, [.ref qd, .ref qc, .ref qt, .ref ql, .ref qn, .ref qe, .ref qr, .ref qz, .int fp])), (qd, .inr (1, [.ref qw, .int (bI true), .int lf, .int (nI dn)])), (qw, .inl (cyI, 512, .inl w)), (qc, .inr (0, [.ref qd, .ref qwh, .ref qlv, .int sa])), (qwh, .inl (cyZ, 64, .inl WH)), (qlv, .inl (cyZ, 64, .inl LV))]) hD hS hA [0, 1, 2, 3, 4, 5] rfl
  refine va_callr (va_runV (As := []) (rest := []) ⟨hx, hb, hml, hown, hts⟩ (c_X4_surveyed l dC dI cyI cyZ q4 qd qw qc qwh qlv qt ql qn qe qr qz sS.heap.size w true lf dn WH LV sa fp (HS)) (cwV 0 hts gX4_load_X4_surveyed rfl rfl rfl (by decide +kernel) ⟨Nat.le_of_ble_eq_true rfl, Nat.le_of_ble_eq_true rfl⟩) ⟨zz_blW, va_recv hKc hPc (ci := 3) (q0 := 0) rfl rfl, fun U hU hW => ⟨rfl, by rw [hU], by rw [hU]; exact hPc, va_K.moved hW.alike hKc, hDc.weaken (fun _ _ _ _ => trivial)⟩⟩ rfl rfl hl.1 rfl (lv_room (Nat.le_of_ble_eq_true rfl)) dX4_load_14 ⟨Nat.zero_le _, Nat.zero_le _⟩) hS (fun q _ h => hFc q h) hFc (fun uU ra tS H1 locs ht9 hvm9 hw9 hB9 hz1 hk1 hS => ?_)
  obtain ⟨WH1_14, LV1_14⟩ := uU
  obtain ⟨e9r, hP1, hK1, hD1⟩ := hB9
  have e9r : qc = ra := e9r.symm
  subst e9r
  have hw9 : (∀ j, j < 64 → LV1_14 j = bI (kLive w j)) := hw9
  have HL_14 := hw9
  rw [ht9] at hP1
  have hK1 := va_K.moved hvm9.symm hK1
  obtain ⟨hP, hD⟩ := va_join (wr := [(ql, .inr (2, [.ref qla, .int (nI k)])), (qla, .inl (cyI, 450, .inl P)), (qn, .inr (2, [.ref qna, .int (nI m0)])), (qna, .inl (cyI, 450, .inl C0)), (qe, .inr (2, [.ref qea, .int (nI g)])), (qea, .inl (cyI, 450, .inl G))]) (w1 := [(q4, .inr (3, [.ref qd, .ref qc, .ref qt, .ref ql, .ref qn, .ref qe, .ref qr, .ref qz, .int fp])), (qd, .inr (1, [.ref qw, .int (bI true), .int lf, .int (nI dn)])), (qw, .inl (cyI, 512, .inl w)), (qc, .inr (0, [.ref qd, .ref qwh, .ref qlv, .int (nI dn)])), (qwh, .inl (cyZ, 64, .inl WH1_14)), (qlv, .inl (cyZ, 64, .inl LV1_14))]) hP hD [0, 1, 2, 3, 4, 5] [6, 7, 8, 9, 10, 11] rfl rfl (by decide) (by decide) hk1 hFc hP1 hD1
  generalize H1 = H at hP hS ⊢
  have hP : va_P (dC, dI) vwCl [(ql, .inr (2, [.ref qla, .int (nI k)])), (qla, .inl (cyI, 450, .inl P)), (qn, .inr (2, [.ref qna, .int (nI m0)])), (qna, .inl (cyI, 450, .inl C0)), (qe, .inr (2, [.ref qea, .int (nI g)])), (qea, .inl (cyI, 450, .inl G)), (q4, .inr (3, [.ref qd, .ref qc, .ref qt, .ref ql, .ref qn, .ref qe, .ref qr, .ref qz, .int fp])), (qd, .inr (1, [.ref qw, .int (bI true), .int lf, .int (nI dn)])), (qw, .inl (cyI, 512, .inl w)), (qc, .inr (0, [.ref qd, .ref qwh, .ref qlv, .int (nI dn)])), (qwh, .inl (cyZ, 64, .inl WH1_14)), (qlv, .inl (cyZ, 64, .inl LV1_14))] H := hP
  have hD : va_D A [(ql, .inr (2, [.ref qla, .int (nI k)])), (qla, .inl (cyI, 450, .inl P)), (qn, .inr (2, [.ref qna, .int (nI m0)])), (qna, .inl (cyI, 450, .inl C0)), (qe, .inr (2, [.ref qea, .int (nI g)])), (qea, .inl (cyI, 450, .inl G)), (q4, .inr (3, [.ref qd, .ref qc, .ref qt, .ref ql, .ref qn, .ref qe, .ref qr, .ref qz, .int fp])), (qd, .inr (1, [.ref qw, .int (bI true), .int lf, .int (nI dn)])), (qw, .inl (cyI, 512, .inl w)), (qc, .inr (0, [.ref qd, .ref qwh, .ref qlv, .int (nI dn)])), (qwh, .inl (cyZ, 64, .inl WH1_14)), (qlv, .inl (cyZ, 64, .inl LV1_14))] := hD
  refine lv_iload_n hx hb dX4_load_17 rfl (lv_at hl 1 rfl) ?_
  have hPc := hP.sub (ws' := [(qc, .inr (0, [.ref qd, .ref qwh, .ref qlv, .int (nI dn)])), (qwh, .inl (cyZ, 64, .inl WH1_14)), (qlv, .inl (cyZ, 64, .inl LV1_14)), (qd, .inr (1, [.ref qw, .int (bI true), .int lf, .int (nI dn)])), (qw, .inl (cyI, 512, .inl w))]) [9, 10, 11, 7, 8] rfl
  have hKc := hK.sub (tys' := [(cyI, .int), (cyZ, .boolean)]) [0, 1] rfl
  refine vp_callSi (va_Run.run (va_runV (As := [.int ky]) (rest := []) ⟨hx, hb, hml, hown, hts⟩ (c_X0_firstBlock l dC dI cyI cyZ qc qwh qlv qd qw WH1_14 LV1_14 (nI dn) w true lf dn (kLive w) ky (HL_14)) (cwV 1 hts gX4_load_X0_firstBlock rfl rfl rfl (by decide +kernel) ⟨Nat.le_of_ble_eq_true rfl, Nat.le_of_ble_eq_true rfl⟩) ⟨zz_blR, va_recv hKc hPc (ci := 0) (q0 := 0) rfl rfl, fun U hU hW => ⟨rfl, by rw [hU]; exact hPc, va_K.moved hW.alike hKc⟩⟩ rfl rfl hl.1 rfl (lv_room (Nat.le_of_ble_eq_true rfl)) dX4_load_18 ⟨Nat.zero_le _, Nat.zero_le _⟩)) (fun r_18 hr_18 => ?_)
  have hr_18 : zFI (zFst (kIs (kLive w) w ky) 64) 64 = r_18 := Eq.symm hr_18
  subst hr_18
  by_cases hf : zFst (kIs (kLive w) w ky) 64 < 64
  ·
    refine zz_top (zFI_t hf) ?_
    refine lv_istore_n (lv' := [(2, .int (nI (zFst (kIs (kLive w) w ky) 64))), (0, .ref q4), (1, .int ky)]) hx hb dX4_load_21 rfl hl (by decide) rfl (fun ls hl => ?_)
    refine lv_aload_n hx hb dX4_load_22 rfl (lv_at hl 1 rfl) ?_
    refine va_get (D := (dC, dI)) (ci := 3) (v := .ref qc) (C := RX4) (T := TX4) (N := 9) hx hb hts iwX4 hown hK hP 6 rfl rfl 1 (by decide) fk21 (fun _ h9 => h9) rfl dX4_load_23 ?_
    refine lv_iload_n hx hb dX4_load_26 rfl (lv_at hl 0 rfl) ?_
    have hPc := hP.sub (ws' := [(qc, .inr (0, [.ref qd, .ref qwh, .ref qlv, .int (nI dn)])), (qwh, .inl (cyZ, 64, .inl WH1_14)), (qlv, .inl (cyZ, 64, .inl LV1_14)), (qd, .inr (1, [.ref qw, .int (bI true), .int lf, .int (nI dn)])), (qw, .inl (cyI, 512, .inl w))]) [9, 10, 11, 7, 8] rfl
    have hKc := hK.sub (tys' := [(cyI, .int), (cyZ, .boolean)]) [0, 1] rfl
    refine vp_callSi (va_Run.run (va_runV (As := [.int (nI (zFst (kIs (kLive w) w ky) 64))]) (rest := []) ⟨hx, hb, hml, hown, hts⟩ (c_X0_isText l dC dI cyI cyZ qc qwh qlv qd qw WH1_14 LV1_14 (nI dn) w true lf dn (kLive w) (zFst (kIs (kLive w) w ky) 64) (hf) (HL_14)) (cwV 1 hts gX4_load_X0_isText rfl rfl rfl (by decide +kernel) ⟨Nat.le_of_ble_eq_true rfl, Nat.le_of_ble_eq_true rfl⟩) ⟨zz_blR, va_recv hKc hPc (ci := 0) (q0 := 0) rfl rfl, fun U hU hW => ⟨rfl, by rw [hU]; exact hPc, va_K.moved hW.alike hKc⟩⟩ rfl rfl hl.1 rfl (lv_room (Nat.le_of_ble_eq_true rfl)) dX4_load_27 ⟨Nat.zero_le _, Nat.zero_le _⟩)) (fun r_27 hr_27 => ?_)
    have hr_27 : bI (kText (kLive w) w (zFst (kIs (kLive w) w ky) 64)) = r_27 := Eq.symm hr_27
    subst hr_27
    refine zb_if_ne (tgt := 36) hx hb dX4_load_30 (by decide) (fun c_30 => ?_) (fun c_30 => ?_)
    ·
      obtain ⟨ps, zn, g1, g2, g3, g4, g5, g6⟩ := HG _ hf c_30
      have hvn : vN (kOct w (kF w ky)) = zn := (congrArg vN g3).trans (vN_nI (by omega))
      refine lv_aload_n hx hb dX4_load_36 rfl (lv_at hl 1 rfl) ?_
      refine lv_iload_n hx hb dX4_load_37 rfl (lv_at hl 0 rfl) ?_
      have hPc := hP.sub (ws' := [(q4, .inr (3, [.ref qd, .ref qc, .ref qt, .ref ql, .ref qn, .ref qe, .ref qr, .ref qz, .int fp])), (qd, .inr (1, [.ref qw, .int (bI true), .int lf, .int (nI dn)])), (qw, .inl (cyI, 512, .inl w)), (qn, .inr (2, [.ref qna, .int (nI m0)])), (qna, .inl (cyI, 450, .inl C0))]) [6, 7, 8, 2, 3] rfl
      have hKc := hK.sub (tys' := [(cyI, .int), (cyZ, .boolean)]) [0, 1] rfl
      have hDc := hD.sub (ws' := [(q4, .inr (3, [.ref qd, .ref qc, .ref qt, .ref ql, .ref qn, .ref qe, .ref qr, .ref qz, .int fp])), (qd, .inr (1, [.ref qw, .int (bI true), .int lf, .int (nI dn)])), (qw, .inl (cyI, 512, .inl w)), (qn, .inr (2, [.ref qna, .int (nI m0)])), (qna, .inl (cyI, 450, .inl C0))]) [6, 7, 8, 2, 3] (by decide) rfl
      have hFc := va_free (wc := [(q4, .inr (3, [.ref qd, .ref qc, .ref qt, .ref ql, .ref qn, .ref qe, .ref qr, .ref qz, .int fp])), (qd, .inr (1, [.ref qw, .int (bI true), .int lf, .int (nI dn)])), (qw, .inl (cyI, 512, .inl w)), (qn, .inr (2, [.ref qna, .int (nI m0)])), (qna, .inl (cyI, 450, .inl C0))]) hD hS hA [6, 7, 8, 2, 3] rfl
      refine va_callv (va_runV (As := [.int (nI (zFst (kIs (kLive w) w ky) 64))]) (rest := []) ⟨hx, hb, hml, hown, hts⟩ (c_X4_gatherContent l dC dI cyI cyZ q4 qd qw qn qna qc qt ql qe qr qz H.size w true lf dn fp C0 m0 (zFst (kIs (kLive w) w ky) 64) ps zn (hf) (g1) (g2) (g3) ((by omega)) (g5) (g6)) (cwV 1 hts gX4_load_X4_gatherContent rfl rfl rfl (by decide +kernel) ⟨Nat.le_of_ble_eq_true rfl, Nat.le_of_ble_eq_true rfl⟩) ⟨zz_blW, va_recv hKc hPc (ci := 3) (q0 := 0) rfl rfl, fun U hU hW => ⟨rfl, by rw [hU], by rw [hU]; exact hPc, va_K.moved hW.alike hKc, hDc.weaken (fun _ _ _ _ => trivial)⟩⟩ rfl rfl hl.1 rfl (lv_room (Nat.le_of_ble_eq_true rfl)) dX4_load_38 ⟨Nat.zero_le _, Nat.zero_le _⟩) hS (fun q _ h => hFc q h) hFc (fun uU tS H1 locs ht9 hvm9 hw9 hB9 hz1 hk1 hS => ?_)
      obtain ⟨F1_38, rfl⟩ : ∃ z, z = uU := ⟨_, rfl⟩
      obtain ⟨hP1, hK1, hD1⟩ := hB9
      have hw9 : (∀ k, k < zn → F1_38 k = zGat w (zFst (kIs (kLive w) w ky) 64) k) := hw9
      have hF1_38 := hw9
      rw [ht9] at hP1
      have hK1 := va_K.moved hvm9.symm hK1
      obtain ⟨hP, hD⟩ := va_join (wr := [(ql, .inr (2, [.ref qla, .int (nI k)])), (qla, .inl (cyI, 450, .inl P)), (qe, .inr (2, [.ref qea, .int (nI g)])), (qea, .inl (cyI, 450, .inl G)), (qc, .inr (0, [.ref qd, .ref qwh, .ref qlv, .int (nI dn)])), (qwh, .inl (cyZ, 64, .inl WH1_14)), (qlv, .inl (cyZ, 64, .inl LV1_14))]) (w1 := [(q4, .inr (3, [.ref qd, .ref qc, .ref qt, .ref ql, .ref qn, .ref qe, .ref qr, .ref qz, .int fp])), (qd, .inr (1, [.ref qw, .int (bI true), .int lf, .int (nI dn)])), (qw, .inl (cyI, 512, .inl w)), (qn, .inr (2, [.ref qna, .int (nI zn)])), (qna, .inl (cyI, 450, .inl F1_38))]) hP hD [6, 7, 8, 2, 3] [0, 1, 4, 5, 9, 10, 11] rfl rfl (by decide) (by decide) hk1 hFc hP1 hD1
      generalize H1 = H at hP hS ⊢
      have hP : va_P (dC, dI) vwCl [(ql, .inr (2, [.ref qla, .int (nI k)])), (qla, .inl (cyI, 450, .inl P)), (qe, .inr (2, [.ref qea, .int (nI g)])), (qea, .inl (cyI, 450, .inl G)), (qc, .inr (0, [.ref qd, .ref qwh, .ref qlv, .int (nI dn)])), (qwh, .inl (cyZ, 64, .inl WH1_14)), (qlv, .inl (cyZ, 64, .inl LV1_14)), (q4, .inr (3, [.ref qd, .ref qc, .ref qt, .ref ql, .ref qn, .ref qe, .ref qr, .ref qz, .int fp])), (qd, .inr (1, [.ref qw, .int (bI true), .int lf, .int (nI dn)])), (qw, .inl (cyI, 512, .inl w)), (qn, .inr (2, [.ref qna, .int (nI zn)])), (qna, .inl (cyI, 450, .inl F1_38))] H := hP
      have hD : va_D A [(ql, .inr (2, [.ref qla, .int (nI k)])), (qla, .inl (cyI, 450, .inl P)), (qe, .inr (2, [.ref qea, .int (nI g)])), (qea, .inl (cyI, 450, .inl G)), (qc, .inr (0, [.ref qd, .ref qwh, .ref qlv, .int (nI dn)])), (qwh, .inl (cyZ, 64, .inl WH1_14)), (qlv, .inl (cyZ, 64, .inl LV1_14)), (q4, .inr (3, [.ref qd, .ref qc, .ref qt, .ref ql, .ref qn, .ref qe, .ref qr, .ref qz, .int fp])), (qd, .inr (1, [.ref qw, .int (bI true), .int lf, .int (nI dn)])), (qw, .inl (cyI, 512, .inl w)), (qn, .inr (2, [.ref qna, .int (nI zn)])), (qna, .inl (cyI, 450, .inl F1_38))] := hD
      refine lv_aload_n hx hb dX4_load_41 rfl (lv_at hl 1 rfl) ?_
      refine va_get (D := (dC, dI)) (ci := 3) (v := .ref qd) (C := RX4) (T := TX4) (N := 9) hx hb hts iwX4 hown hK hP 7 rfl rfl 0 (by decide) fk10 (fun _ h9 => h9) rfl dX4_load_42 ?_
      refine lv_iload_n hx hb dX4_load_45 rfl (lv_at hl 0 rfl) ?_
      have hPc := hP.sub (ws' := [(qd, .inr (1, [.ref qw, .int (bI true), .int lf, .int (nI dn)])), (qw, .inl (cyI, 512, .inl w))]) [8, 9] rfl
      have hKc := hK.sub (tys' := [(cyI, .int), (cyZ, .boolean)]) [0, 1] rfl
      refine vp_callSi (va_Run.run (va_runV (As := [.int (nI (zFst (kIs (kLive w) w ky) 64))]) (rest := []) ⟨hx, hb, hml, hown, hts⟩ (c_X2_formOf l dC dI cyI cyZ qd qw w true lf dn (zFst (kIs (kLive w) w ky) 64) (hf)) (cwV 1 hts gX4_load_X2_formOf rfl rfl rfl (by decide +kernel) ⟨Nat.le_of_ble_eq_true rfl, Nat.le_of_ble_eq_true rfl⟩) ⟨zz_blR, va_recv hKc hPc (ci := 1) (q0 := 0) rfl rfl, fun U hU hW => ⟨rfl, by rw [hU]; exact hPc, va_K.moved hW.alike hKc⟩⟩ rfl rfl hl.1 rfl (lv_room (Nat.le_of_ble_eq_true rfl)) dX4_load_46 ⟨Nat.zero_le _, Nat.zero_le _⟩)) (fun r_46 hr_46 => ?_)
      have hr_46 : kForm w (zFst (kIs (kLive w) w ky) 64) = r_46 := Eq.symm hr_46
      subst hr_46
      refine lv_iconst (v := nI 1) hx hb dX4_load_49 (by decide) ?_
      refine lv_icmp_ne (tgt := 79) hx hb dX4_load_50 (by decide) (fun c_50 => ?_) (fun c_50 => ?_)
      ·
        refine lv_aload_n hx hb dX4_load_79 rfl (lv_at hl 1 rfl) ?_
        refine va_get (D := (dC, dI)) (ci := 3) (v := .ref ql) (C := RX4) (T := TX4) (N := 9) hx hb hts iwX4 hown hK hP 7 rfl rfl 3 (by decide) fk32 (fun _ h9 => h9) rfl dX4_load_80 ?_
        refine lv_aload_n hx hb dX4_load_83 rfl (lv_at hl 1 rfl) ?_
        refine va_get (D := (dC, dI)) (ci := 3) (v := .ref qn) (C := RX4) (T := TX4) (N := 9) hx hb hts iwX4 hown hK hP 7 rfl rfl 4 (by decide) fk35 (fun _ h9 => h9) rfl dX4_load_84 ?_
        have hPc := hP.sub (ws' := [(ql, .inr (2, [.ref qla, .int (nI k)])), (qla, .inl (cyI, 450, .inl P)), (qn, .inr (2, [.ref qna, .int (nI zn)])), (qna, .inl (cyI, 450, .inl F1_38))]) [0, 1, 10, 11] rfl
        have hKc := hK.sub (tys' := [(cyI, .int), (cyZ, .boolean)]) [0, 1] rfl
        have hDc := hD.sub (ws' := [(ql, .inr (2, [.ref qla, .int (nI k)])), (qla, .inl (cyI, 450, .inl P)), (qn, .inr (2, [.ref qna, .int (nI zn)])), (qna, .inl (cyI, 450, .inl F1_38))]) [0, 1, 10, 11] (by decide) rfl
        have hFc := va_free (wc := [(ql, .inr (2, [.ref qla, .int (nI k)])), (qla, .inl (cyI, 450, .inl P)), (qn, .inr (2, [.ref qna, .int (nI zn)])), (qna, .inl (cyI, 450, .inl F1_38))]) hD hS hA [0, 1, 10, 11] rfl
        refine va_callv (va_runV (As := [.ref qn]) (rest := []) ⟨hx, hb, hml, hown, hts⟩ (c_X3_becomeLike l dC dI cyI cyZ ql qla qn qna H.size P k F1_38 zn (by omega) (fun j hj => by rw [hF1_38 j hj]; exact zGat_O _ _ _)) (cwV 1 hts gX4_load_X3_becomeLike rfl rfl rfl (by decide +kernel) ⟨Nat.le_of_ble_eq_true rfl, Nat.le_of_ble_eq_true rfl⟩) ⟨zz_blW, va_recv hKc hPc (ci := 2) (q0 := 0) rfl rfl, fun U hU hW => ⟨rfl, by rw [hU], by rw [hU]; exact hPc, va_K.moved hW.alike hKc, hDc.weaken (fun _ _ _ _ => trivial)⟩⟩ rfl rfl hl.1 rfl (lv_room (Nat.le_of_ble_eq_true rfl)) dX4_load_87 ⟨Nat.zero_le _, Nat.zero_le _⟩) hS (fun q _ h => hFc q h) hFc (fun uU tS H1 locs ht9 hvm9 hw9 hB9 hz1 hk1 hS => ?_)
        obtain ⟨f1_87, rfl⟩ : ∃ z, z = uU := ⟨_, rfl⟩
        obtain ⟨hP1, hK1, hD1⟩ := hB9
        have hw9 : (∀ j, j < zn → f1_87 j = F1_38 j) := hw9
        have hf_87 := hw9
        rw [ht9] at hP1
        have hK1 := va_K.moved hvm9.symm hK1
        obtain ⟨hP, hD⟩ := va_join (wr := [(qe, .inr (2, [.ref qea, .int (nI g)])), (qea, .inl (cyI, 450, .inl G)), (qc, .inr (0, [.ref qd, .ref qwh, .ref qlv, .int (nI dn)])), (qwh, .inl (cyZ, 64, .inl WH1_14)), (qlv, .inl (cyZ, 64, .inl LV1_14)), (q4, .inr (3, [.ref qd, .ref qc, .ref qt, .ref ql, .ref qn, .ref qe, .ref qr, .ref qz, .int fp])), (qd, .inr (1, [.ref qw, .int (bI true), .int lf, .int (nI dn)])), (qw, .inl (cyI, 512, .inl w))]) (w1 := [(ql, .inr (2, [.ref qla, .int (nI zn)])), (qla, .inl (cyI, 450, .inl f1_87)), (qn, .inr (2, [.ref qna, .int (nI zn)])), (qna, .inl (cyI, 450, .inl F1_38))]) hP hD [0, 1, 10, 11] [2, 3, 4, 5, 6, 7, 8, 9] rfl rfl (by decide) (by decide) hk1 hFc hP1 hD1
        generalize H1 = H at hP hS ⊢
        have hP : va_P (dC, dI) vwCl [(qe, .inr (2, [.ref qea, .int (nI g)])), (qea, .inl (cyI, 450, .inl G)), (qc, .inr (0, [.ref qd, .ref qwh, .ref qlv, .int (nI dn)])), (qwh, .inl (cyZ, 64, .inl WH1_14)), (qlv, .inl (cyZ, 64, .inl LV1_14)), (q4, .inr (3, [.ref qd, .ref qc, .ref qt, .ref ql, .ref qn, .ref qe, .ref qr, .ref qz, .int fp])), (qd, .inr (1, [.ref qw, .int (bI true), .int lf, .int (nI dn)])), (qw, .inl (cyI, 512, .inl w)), (ql, .inr (2, [.ref qla, .int (nI zn)])), (qla, .inl (cyI, 450, .inl f1_87)), (qn, .inr (2, [.ref qna, .int (nI zn)])), (qna, .inl (cyI, 450, .inl F1_38))] H := hP
        have hD : va_D A [(qe, .inr (2, [.ref qea, .int (nI g)])), (qea, .inl (cyI, 450, .inl G)), (qc, .inr (0, [.ref qd, .ref qwh, .ref qlv, .int (nI dn)])), (qwh, .inl (cyZ, 64, .inl WH1_14)), (qlv, .inl (cyZ, 64, .inl LV1_14)), (q4, .inr (3, [.ref qd, .ref qc, .ref qt, .ref ql, .ref qn, .ref qe, .ref qr, .ref qz, .int fp])), (qd, .inr (1, [.ref qw, .int (bI true), .int lf, .int (nI dn)])), (qw, .inl (cyI, 512, .inl w)), (ql, .inr (2, [.ref qla, .int (nI zn)])), (qla, .inl (cyI, 450, .inl f1_87)), (qn, .inr (2, [.ref qna, .int (nI zn)])), (qna, .inl (cyI, 450, .inl F1_38))] := hD
        refine lv_aload_n hx hb dX4_load_90 rfl (lv_at hl 1 rfl) ?_
        refine va_get (D := (dC, dI)) (ci := 3) (v := .ref ql) (C := RX4) (T := TX4) (N := 9) hx hb hts iwX4 hown hK hP 5 rfl rfl 3 (by decide) fk32 (fun _ h9 => h9) rfl dX4_load_91 ?_
        have hPc := hP.sub (ws' := [(ql, .inr (2, [.ref qla, .int (nI zn)])), (qla, .inl (cyI, 450, .inl f1_87))]) [8, 9] rfl
        have hKc := hK.sub (tys' := [(cyI, .int), (cyZ, .boolean)]) [0, 1] rfl
        refine vp_callSi (va_Run.run (va_runV (As := []) (rest := []) ⟨hx, hb, hml, hown, hts⟩ (c_X3_size l dC dI cyI cyZ ql qla f1_87 zn) (cwV 0 hts gX4_load_X3_size rfl rfl rfl (by decide +kernel) ⟨Nat.le_of_ble_eq_true rfl, Nat.le_of_ble_eq_true rfl⟩) ⟨zz_blR, va_recv hKc hPc (ci := 2) (q0 := 0) rfl rfl, fun U hU hW => ⟨rfl, by rw [hU]; exact hPc, va_K.moved hW.alike hKc⟩⟩ rfl rfl hl.1 rfl (lv_room (Nat.le_of_ble_eq_true rfl)) dX4_load_94 ⟨Nat.zero_le _, Nat.zero_le _⟩)) (fun r_94 hr_94 => ?_)
        have hr_94 : nI zn = r_94 := Eq.symm hr_94
        subst hr_94
        have eL := zLoad_0 (k := k) (P := P) hf c_30 c_50 hvn
        have hP9 := hP.sub (ws' := [(q4, .inr (3, [.ref qd, .ref qc, .ref qt, .ref ql, .ref qn, .ref qe, .ref qr, .ref qz, .int fp])), (qd, .inr (1, [.ref qw, .int (bI true), .int lf, .int (nI dn)])), (qw, .inl (cyI, 512, .inl w)), (qc, .inr (0, [.ref qd, .ref qwh, .ref qlv, .int (nI dn)])), (qwh, .inl (cyZ, 64, .inl WH1_14)), (qlv, .inl (cyZ, 64, .inl LV1_14)), (ql, .inr (2, [.ref qla, .int (nI zn)])), (qla, .inl (cyI, 450, .inl f1_87)), (qn, .inr (2, [.ref qna, .int (nI zn)])), (qna, .inl (cyI, 450, .inl F1_38)), (qe, .inr (2, [.ref qea, .int (nI g)])), (qea, .inl (cyI, 450, .inl G))]) [5, 6, 7, 2, 3, 4, 8, 9, 10, 11, 0, 1] rfl
        have hD9 := hD.sub (ws' := [(q4, .inr (3, [.ref qd, .ref qc, .ref qt, .ref ql, .ref qn, .ref qe, .ref qr, .ref qz, .int fp])), (qd, .inr (1, [.ref qw, .int (bI true), .int lf, .int (nI dn)])), (qw, .inl (cyI, 512, .inl w)), (qc, .inr (0, [.ref qd, .ref qwh, .ref qlv, .int (nI dn)])), (qwh, .inl (cyZ, 64, .inl WH1_14)), (qlv, .inl (cyZ, 64, .inl LV1_14)), (ql, .inr (2, [.ref qla, .int (nI zn)])), (qla, .inl (cyI, 450, .inl f1_87)), (qn, .inr (2, [.ref qna, .int (nI zn)])), (qna, .inl (cyI, 450, .inl F1_38)), (qe, .inr (2, [.ref qea, .int (nI g)])), (qea, .inl (cyI, 450, .inl G))]) [5, 6, 7, 2, 3, 4, 8, 9, 10, 11, 0, 1] (by decide) rfl
        have hK9 := hK.sub (tys' := [(cyI, .int), (cyZ, .boolean)]) [0, 1] rfl
        exact W.iret hx hb hr (fun tS ht hW => ⟨⟨_, (WH1_14, LV1_14, zn, f1_87, zn, F1_38, g, G), rfl, ⟨HL_14, by rw [eL]; exact ⟨rfl, rfl, fun j hj => (hf_87 j hj).trans (hF1_38 j hj)⟩, Or.inl (by omega)⟩, by rw [ht]; exact hP9, va_K.moved hW.alike hK9, hD9⟩, hS.F ht⟩) hS.2.2 dX4_load_97
      ·
        refine lv_aload_n hx hb dX4_load_53 rfl (lv_at hl 1 rfl) ?_
        refine va_get (D := (dC, dI)) (ci := 3) (v := .ref qn) (C := RX4) (T := TX4) (N := 9) hx hb hts iwX4 hown hK hP 7 rfl rfl 4 (by decide) fk35 (fun _ h9 => h9) rfl dX4_load_54 ?_
        refine lv_aload_n hx hb dX4_load_57 rfl (lv_at hl 1 rfl) ?_
        refine va_get (D := (dC, dI)) (ci := 3) (v := .ref qe) (C := RX4) (T := TX4) (N := 9) hx hb hts iwX4 hown hK hP 7 rfl rfl 5 (by decide) fk38 (fun _ h9 => h9) rfl dX4_load_58 ?_
        have hPc := hP.sub (ws' := [(qn, .inr (2, [.ref qna, .int (nI zn)])), (qna, .inl (cyI, 450, .inl F1_38)), (qe, .inr (2, [.ref qea, .int (nI g)])), (qea, .inl (cyI, 450, .inl G))]) [10, 11, 2, 3] rfl
        have hKc := hK.sub (tys' := [(cyI, .int), (cyZ, .boolean)]) [0, 1] rfl
        have hDc := hD.sub (ws' := [(qn, .inr (2, [.ref qna, .int (nI zn)])), (qna, .inl (cyI, 450, .inl F1_38)), (qe, .inr (2, [.ref qea, .int (nI g)])), (qea, .inl (cyI, 450, .inl G))]) [10, 11, 2, 3] (by decide) rfl
        have hFc := va_free (wc := [(qn, .inr (2, [.ref qna, .int (nI zn)])), (qna, .inl (cyI, 450, .inl F1_38)), (qe, .inr (2, [.ref qea, .int (nI g)])), (qea, .inl (cyI, 450, .inl G))]) hD hS hA [10, 11, 2, 3] rfl
        refine va_calli (va_runS (As := [.ref qn, .ref qe]) (rest := []) ⟨hx, hb, hml, hown, hts⟩ (c_X1_decode l dC dI cyI cyZ qn qna qe qea H.size F1_38 zn G g (by omega) (fun j hj => by rw [hF1_38 j hj]; exact zGat_O _ _ _)) (va_cwS 2 hts gX4_load_X1_decode rfl rfl rfl (by decide +kernel) ⟨Nat.le_of_ble_eq_true rfl, Nat.le_of_ble_eq_true rfl⟩) ⟨zz_blW, fun U hU hW => ⟨rfl, by rw [hU], by rw [hU]; exact hPc, va_K.moved hW.alike hKc, hDc.weaken (fun _ _ _ _ => trivial)⟩⟩ rfl rfl hl.1 rfl (lv_room (Nat.le_of_ble_eq_true rfl)) dX4_load_61 ⟨Nat.zero_le _, Nat.zero_le _⟩) hS (fun q _ h => hFc q h) hFc (fun r_61 uU tS H1 locs ht9 hvm9 hw9 hB9 hz1 hk1 hS => ?_)
        obtain ⟨m1_61, F1_61⟩ := uU
        obtain ⟨hP1, hK1, hD1⟩ := hB9
        have hw9 : (r_61 = zPl (zD F1_38 zn).1) ∧ (m1_61 = (zD F1_38 zn).2.1) ∧ (∀ j, j < m1_61 → F1_61 j = (zD F1_38 zn).2.2 j) ∧ (∀ j, j < m1_61 → zO (F1_61 j)) ∧ (m1_61 ≤ 400) := hw9
        obtain ⟨hr_61, hm1_61, hF1_61, hO1_61, hmm_61⟩ := hw9
        have hr_61 := Eq.symm hr_61
        subst hr_61
        rw [ht9] at hP1
        have hK1 := va_K.moved hvm9.symm hK1
        obtain ⟨hP, hD⟩ := va_join (wr := [(ql, .inr (2, [.ref qla, .int (nI k)])), (qla, .inl (cyI, 450, .inl P)), (qc, .inr (0, [.ref qd, .ref qwh, .ref qlv, .int (nI dn)])), (qwh, .inl (cyZ, 64, .inl WH1_14)), (qlv, .inl (cyZ, 64, .inl LV1_14)), (q4, .inr (3, [.ref qd, .ref qc, .ref qt, .ref ql, .ref qn, .ref qe, .ref qr, .ref qz, .int fp])), (qd, .inr (1, [.ref qw, .int (bI true), .int lf, .int (nI dn)])), (qw, .inl (cyI, 512, .inl w))]) (w1 := [(qn, .inr (2, [.ref qna, .int (nI zn)])), (qna, .inl (cyI, 450, .inl F1_38)), (qe, .inr (2, [.ref qea, .int (nI m1_61)])), (qea, .inl (cyI, 450, .inl F1_61))]) hP hD [10, 11, 2, 3] [0, 1, 4, 5, 6, 7, 8, 9] rfl rfl (by decide) (by decide) hk1 hFc hP1 hD1
        generalize H1 = H at hP hS ⊢
        have hP : va_P (dC, dI) vwCl [(ql, .inr (2, [.ref qla, .int (nI k)])), (qla, .inl (cyI, 450, .inl P)), (qc, .inr (0, [.ref qd, .ref qwh, .ref qlv, .int (nI dn)])), (qwh, .inl (cyZ, 64, .inl WH1_14)), (qlv, .inl (cyZ, 64, .inl LV1_14)), (q4, .inr (3, [.ref qd, .ref qc, .ref qt, .ref ql, .ref qn, .ref qe, .ref qr, .ref qz, .int fp])), (qd, .inr (1, [.ref qw, .int (bI true), .int lf, .int (nI dn)])), (qw, .inl (cyI, 512, .inl w)), (qn, .inr (2, [.ref qna, .int (nI zn)])), (qna, .inl (cyI, 450, .inl F1_38)), (qe, .inr (2, [.ref qea, .int (nI m1_61)])), (qea, .inl (cyI, 450, .inl F1_61))] H := hP
        have hD : va_D A [(ql, .inr (2, [.ref qla, .int (nI k)])), (qla, .inl (cyI, 450, .inl P)), (qc, .inr (0, [.ref qd, .ref qwh, .ref qlv, .int (nI dn)])), (qwh, .inl (cyZ, 64, .inl WH1_14)), (qlv, .inl (cyZ, 64, .inl LV1_14)), (q4, .inr (3, [.ref qd, .ref qc, .ref qt, .ref ql, .ref qn, .ref qe, .ref qr, .ref qz, .int fp])), (qd, .inr (1, [.ref qw, .int (bI true), .int lf, .int (nI dn)])), (qw, .inl (cyI, 512, .inl w)), (qn, .inr (2, [.ref qna, .int (nI zn)])), (qna, .inl (cyI, 450, .inl F1_38)), (qe, .inr (2, [.ref qea, .int (nI m1_61)])), (qea, .inl (cyI, 450, .inl F1_61))] := hD
        refine lv_pop hx hb dX4_load_64 rfl ?_
        refine lv_aload_n hx hb dX4_load_65 rfl (lv_at hl 1 rfl) ?_
        refine va_get (D := (dC, dI)) (ci := 3) (v := .ref ql) (C := RX4) (T := TX4) (N := 9) hx hb hts iwX4 hown hK hP 5 rfl rfl 3 (by decide) fk32 (fun _ h9 => h9) rfl dX4_load_66 ?_
        refine lv_aload_n hx hb dX4_load_69 rfl (lv_at hl 1 rfl) ?_
        refine va_get (D := (dC, dI)) (ci := 3) (v := .ref qe) (C := RX4) (T := TX4) (N := 9) hx hb hts iwX4 hown hK hP 5 rfl rfl 5 (by decide) fk38 (fun _ h9 => h9) rfl dX4_load_70 ?_
        have hPc := hP.sub (ws' := [(ql, .inr (2, [.ref qla, .int (nI k)])), (qla, .inl (cyI, 450, .inl P)), (qe, .inr (2, [.ref qea, .int (nI m1_61)])), (qea, .inl (cyI, 450, .inl F1_61))]) [0, 1, 10, 11] rfl
        have hKc := hK.sub (tys' := [(cyI, .int), (cyZ, .boolean)]) [0, 1] rfl
        have hDc := hD.sub (ws' := [(ql, .inr (2, [.ref qla, .int (nI k)])), (qla, .inl (cyI, 450, .inl P)), (qe, .inr (2, [.ref qea, .int (nI m1_61)])), (qea, .inl (cyI, 450, .inl F1_61))]) [0, 1, 10, 11] (by decide) rfl
        have hFc := va_free (wc := [(ql, .inr (2, [.ref qla, .int (nI k)])), (qla, .inl (cyI, 450, .inl P)), (qe, .inr (2, [.ref qea, .int (nI m1_61)])), (qea, .inl (cyI, 450, .inl F1_61))]) hD hS hA [0, 1, 10, 11] rfl
        refine va_callv (va_runV (As := [.ref qe]) (rest := []) ⟨hx, hb, hml, hown, hts⟩ (c_X3_becomeLike l dC dI cyI cyZ ql qla qe qea H.size P k F1_61 m1_61 (by omega) (hO1_61)) (cwV 1 hts gX4_load_X3_becomeLike rfl rfl rfl (by decide +kernel) ⟨Nat.le_of_ble_eq_true rfl, Nat.le_of_ble_eq_true rfl⟩) ⟨zz_blW, va_recv hKc hPc (ci := 2) (q0 := 0) rfl rfl, fun U hU hW => ⟨rfl, by rw [hU], by rw [hU]; exact hPc, va_K.moved hW.alike hKc, hDc.weaken (fun _ _ _ _ => trivial)⟩⟩ rfl rfl hl.1 rfl (lv_room (Nat.le_of_ble_eq_true rfl)) dX4_load_73 ⟨Nat.zero_le _, Nat.zero_le _⟩) hS (fun q _ h => hFc q h) hFc (fun uU tS H1 locs ht9 hvm9 hw9 hB9 hz1 hk1 hS => ?_)
        obtain ⟨f1_73, rfl⟩ : ∃ z, z = uU := ⟨_, rfl⟩
        obtain ⟨hP1, hK1, hD1⟩ := hB9
        have hw9 : (∀ j, j < m1_61 → f1_73 j = F1_61 j) := hw9
        have hf_73 := hw9
        rw [ht9] at hP1
        have hK1 := va_K.moved hvm9.symm hK1
        obtain ⟨hP, hD⟩ := va_join (wr := [(qc, .inr (0, [.ref qd, .ref qwh, .ref qlv, .int (nI dn)])), (qwh, .inl (cyZ, 64, .inl WH1_14)), (qlv, .inl (cyZ, 64, .inl LV1_14)), (q4, .inr (3, [.ref qd, .ref qc, .ref qt, .ref ql, .ref qn, .ref qe, .ref qr, .ref qz, .int fp])), (qd, .inr (1, [.ref qw, .int (bI true), .int lf, .int (nI dn)])), (qw, .inl (cyI, 512, .inl w)), (qn, .inr (2, [.ref qna, .int (nI zn)])), (qna, .inl (cyI, 450, .inl F1_38))]) (w1 := [(ql, .inr (2, [.ref qla, .int (nI m1_61)])), (qla, .inl (cyI, 450, .inl f1_73)), (qe, .inr (2, [.ref qea, .int (nI m1_61)])), (qea, .inl (cyI, 450, .inl F1_61))]) hP hD [0, 1, 10, 11] [2, 3, 4, 5, 6, 7, 8, 9] rfl rfl (by decide) (by decide) hk1 hFc hP1 hD1
        generalize H1 = H at hP hS ⊢
        have hP : va_P (dC, dI) vwCl [(qc, .inr (0, [.ref qd, .ref qwh, .ref qlv, .int (nI dn)])), (qwh, .inl (cyZ, 64, .inl WH1_14)), (qlv, .inl (cyZ, 64, .inl LV1_14)), (q4, .inr (3, [.ref qd, .ref qc, .ref qt, .ref ql, .ref qn, .ref qe, .ref qr, .ref qz, .int fp])), (qd, .inr (1, [.ref qw, .int (bI true), .int lf, .int (nI dn)])), (qw, .inl (cyI, 512, .inl w)), (qn, .inr (2, [.ref qna, .int (nI zn)])), (qna, .inl (cyI, 450, .inl F1_38)), (ql, .inr (2, [.ref qla, .int (nI m1_61)])), (qla, .inl (cyI, 450, .inl f1_73)), (qe, .inr (2, [.ref qea, .int (nI m1_61)])), (qea, .inl (cyI, 450, .inl F1_61))] H := hP
        have hD : va_D A [(qc, .inr (0, [.ref qd, .ref qwh, .ref qlv, .int (nI dn)])), (qwh, .inl (cyZ, 64, .inl WH1_14)), (qlv, .inl (cyZ, 64, .inl LV1_14)), (q4, .inr (3, [.ref qd, .ref qc, .ref qt, .ref ql, .ref qn, .ref qe, .ref qr, .ref qz, .int fp])), (qd, .inr (1, [.ref qw, .int (bI true), .int lf, .int (nI dn)])), (qw, .inl (cyI, 512, .inl w)), (qn, .inr (2, [.ref qna, .int (nI zn)])), (qna, .inl (cyI, 450, .inl F1_38)), (ql, .inr (2, [.ref qla, .int (nI m1_61)])), (qla, .inl (cyI, 450, .inl f1_73)), (qe, .inr (2, [.ref qea, .int (nI m1_61)])), (qea, .inl (cyI, 450, .inl F1_61))] := hD
        refine lv_goto (tgt := 90) hx hb dX4_load_76 (by decide) ?_
        refine lv_aload_n hx hb dX4_load_90 rfl (lv_at hl 1 rfl) ?_
        refine va_get (D := (dC, dI)) (ci := 3) (v := .ref ql) (C := RX4) (T := TX4) (N := 9) hx hb hts iwX4 hown hK hP 3 rfl rfl 3 (by decide) fk32 (fun _ h9 => h9) rfl dX4_load_91 ?_
        have hPc := hP.sub (ws' := [(ql, .inr (2, [.ref qla, .int (nI m1_61)])), (qla, .inl (cyI, 450, .inl f1_73))]) [8, 9] rfl
        have hKc := hK.sub (tys' := [(cyI, .int), (cyZ, .boolean)]) [0, 1] rfl
        refine vp_callSi (va_Run.run (va_runV (As := []) (rest := []) ⟨hx, hb, hml, hown, hts⟩ (c_X3_size l dC dI cyI cyZ ql qla f1_73 m1_61) (cwV 0 hts gX4_load_X3_size rfl rfl rfl (by decide +kernel) ⟨Nat.le_of_ble_eq_true rfl, Nat.le_of_ble_eq_true rfl⟩) ⟨zz_blR, va_recv hKc hPc (ci := 2) (q0 := 0) rfl rfl, fun U hU hW => ⟨rfl, by rw [hU]; exact hPc, va_K.moved hW.alike hKc⟩⟩ rfl rfl hl.1 rfl (lv_room (Nat.le_of_ble_eq_true rfl)) dX4_load_94 ⟨Nat.zero_le _, Nat.zero_le _⟩)) (fun r_94 hr_94 => ?_)
        have hr_94 : nI m1_61 = r_94 := Eq.symm hr_94
        subst hr_94
        have eC : zD F1_38 zn = zD (zGat w (kF w ky)) zn := zD_cong hF1_38
        rw [eC] at hm1_61 hF1_61
        have eL := zLoad_1 (k := k) (P := P) hf c_30 c_50 hvn
        have hP9 := hP.sub (ws' := [(q4, .inr (3, [.ref qd, .ref qc, .ref qt, .ref ql, .ref qn, .ref qe, .ref qr, .ref qz, .int fp])), (qd, .inr (1, [.ref qw, .int (bI true), .int lf, .int (nI dn)])), (qw, .inl (cyI, 512, .inl w)), (qc, .inr (0, [.ref qd, .ref qwh, .ref qlv, .int (nI dn)])), (qwh, .inl (cyZ, 64, .inl WH1_14)), (qlv, .inl (cyZ, 64, .inl LV1_14)), (ql, .inr (2, [.ref qla, .int (nI m1_61)])), (qla, .inl (cyI, 450, .inl f1_73)), (qn, .inr (2, [.ref qna, .int (nI zn)])), (qna, .inl (cyI, 450, .inl F1_38)), (qe, .inr (2, [.ref qea, .int (nI m1_61)])), (qea, .inl (cyI, 450, .inl F1_61))]) [3, 4, 5, 0, 1, 2, 8, 9, 6, 7, 10, 11] rfl
        have hD9 := hD.sub (ws' := [(q4, .inr (3, [.ref qd, .ref qc, .ref qt, .ref ql, .ref qn, .ref qe, .ref qr, .ref qz, .int fp])), (qd, .inr (1, [.ref qw, .int (bI true), .int lf, .int (nI dn)])), (qw, .inl (cyI, 512, .inl w)), (qc, .inr (0, [.ref qd, .ref qwh, .ref qlv, .int (nI dn)])), (qwh, .inl (cyZ, 64, .inl WH1_14)), (qlv, .inl (cyZ, 64, .inl LV1_14)), (ql, .inr (2, [.ref qla, .int (nI m1_61)])), (qla, .inl (cyI, 450, .inl f1_73)), (qn, .inr (2, [.ref qna, .int (nI zn)])), (qna, .inl (cyI, 450, .inl F1_38)), (qe, .inr (2, [.ref qea, .int (nI m1_61)])), (qea, .inl (cyI, 450, .inl F1_61))]) [3, 4, 5, 0, 1, 2, 8, 9, 6, 7, 10, 11] (by decide) rfl
        have hK9 := hK.sub (tys' := [(cyI, .int), (cyZ, .boolean)]) [0, 1] rfl
        exact W.iret hx hb hr (fun tS ht hW => ⟨⟨_, (WH1_14, LV1_14, m1_61, f1_73, zn, F1_38, m1_61, F1_61), rfl, ⟨HL_14, by rw [eL]; exact ⟨congrArg nI hm1_61, hm1_61, fun j hj => (hf_73 j hj).trans (hF1_61 j hj)⟩, Or.inl (by omega)⟩, by rw [ht]; exact hP9, va_K.moved hW.alike hK9, hD9⟩, hS.F ht⟩) hS.2.2 dX4_load_97
    ·
      refine lv_bipush (v := (-2)) hx hb dX4_load_33 (by decide) ?_
      have eL := zLoad_n (w := w) (ky := ky) (k := k) (P := P) (fun _ => c_30)
      have hP9 := hP.sub (ws' := [(q4, .inr (3, [.ref qd, .ref qc, .ref qt, .ref ql, .ref qn, .ref qe, .ref qr, .ref qz, .int fp])), (qd, .inr (1, [.ref qw, .int (bI true), .int lf, .int (nI dn)])), (qw, .inl (cyI, 512, .inl w)), (qc, .inr (0, [.ref qd, .ref qwh, .ref qlv, .int (nI dn)])), (qwh, .inl (cyZ, 64, .inl WH1_14)), (qlv, .inl (cyZ, 64, .inl LV1_14)), (ql, .inr (2, [.ref qla, .int (nI k)])), (qla, .inl (cyI, 450, .inl P)), (qn, .inr (2, [.ref qna, .int (nI m0)])), (qna, .inl (cyI, 450, .inl C0)), (qe, .inr (2, [.ref qea, .int (nI g)])), (qea, .inl (cyI, 450, .inl G))]) [6, 7, 8, 9, 10, 11, 0, 1, 2, 3, 4, 5] rfl
      have hD9 := hD.sub (ws' := [(q4, .inr (3, [.ref qd, .ref qc, .ref qt, .ref ql, .ref qn, .ref qe, .ref qr, .ref qz, .int fp])), (qd, .inr (1, [.ref qw, .int (bI true), .int lf, .int (nI dn)])), (qw, .inl (cyI, 512, .inl w)), (qc, .inr (0, [.ref qd, .ref qwh, .ref qlv, .int (nI dn)])), (qwh, .inl (cyZ, 64, .inl WH1_14)), (qlv, .inl (cyZ, 64, .inl LV1_14)), (ql, .inr (2, [.ref qla, .int (nI k)])), (qla, .inl (cyI, 450, .inl P)), (qn, .inr (2, [.ref qna, .int (nI m0)])), (qna, .inl (cyI, 450, .inl C0)), (qe, .inr (2, [.ref qea, .int (nI g)])), (qea, .inl (cyI, 450, .inl G))]) [6, 7, 8, 9, 10, 11, 0, 1, 2, 3, 4, 5] (by decide) rfl
      have hK9 := hK.sub (tys' := [(cyI, .int), (cyZ, .boolean)]) [0, 1] rfl
      exact W.iret hx hb hr (fun tS ht hW => ⟨⟨_, (WH1_14, LV1_14, k, P, m0, C0, g, G), rfl, ⟨HL_14, by rw [eL]; exact ⟨rfl, rfl, fun _ _ => rfl⟩, Or.inr rfl⟩, by rw [ht]; exact hP9, va_K.moved hW.alike hK9, hD9⟩, hS.F ht⟩) hS.2.2 dX4_load_35
  ·
    refine zz_top (zFI_f hf) ?_
    refine lv_istore_n (lv' := [(2, .int (-1)), (0, .ref q4), (1, .int ky)]) hx hb dX4_load_21 rfl hl (by decide) rfl (fun ls hl => ?_)
    refine lv_aload_n hx hb dX4_load_22 rfl (lv_at hl 1 rfl) ?_
    refine va_get (D := (dC, dI)) (ci := 3) (v := .ref qc) (C := RX4) (T := TX4) (N := 9) hx hb hts iwX4 hown hK hP 6 rfl rfl 1 (by decide) fk21 (fun _ h9 => h9) rfl dX4_load_23 ?_
    refine lv_iload_n hx hb dX4_load_26 rfl (lv_at hl 0 rfl) ?_
    have hPc := hP.sub (ws' := [(qc, .inr (0, [.ref qd, .ref qwh, .ref qlv, .int (nI dn)])), (qwh, .inl (cyZ, 64, .inl WH1_14)), (qlv, .inl (cyZ, 64, .inl LV1_14)), (qd, .inr (1, [.ref qw, .int (bI true), .int lf, .int (nI dn)])), (qw, .inl (cyI, 512, .inl w))]) [9, 10, 11, 7, 8] rfl
    have hKc := hK.sub (tys' := [(cyI, .int), (cyZ, .boolean)]) [0, 1] rfl
    refine vp_callSi (va_Run.run (va_runV (As := [.int (-1)]) (rest := []) ⟨hx, hb, hml, hown, hts⟩ (c_X0_isText_m l dC dI cyI cyZ qc qwh qlv qd qw WH1_14 LV1_14 (nI dn) w true lf dn) (cwV 1 hts gX4_load_X0_isText rfl rfl rfl (by decide +kernel) ⟨Nat.le_of_ble_eq_true rfl, Nat.le_of_ble_eq_true rfl⟩) ⟨zz_blR, va_recv hKc hPc (ci := 0) (q0 := 0) rfl rfl, fun U hU hW => ⟨rfl, by rw [hU]; exact hPc, va_K.moved hW.alike hKc⟩⟩ rfl rfl hl.1 rfl (lv_room (Nat.le_of_ble_eq_true rfl)) dX4_load_27 ⟨Nat.zero_le _, Nat.zero_le _⟩)) (fun r_27 hr_27 => ?_)
    have hr_27 : bI false = r_27 := Eq.symm hr_27
    subst hr_27
    refine lv_if_ne (tgt := 36) hx hb dX4_load_30 (by decide) (fun c_30 => absurd (by decide) c_30) (fun c_30 => ?_)
    refine lv_bipush (v := (-2)) hx hb dX4_load_33 (by decide) ?_
    have eL := zLoad_n (w := w) (ky := ky) (k := k) (P := P) (fun h => absurd h hf)
    have hP9 := hP.sub (ws' := [(q4, .inr (3, [.ref qd, .ref qc, .ref qt, .ref ql, .ref qn, .ref qe, .ref qr, .ref qz, .int fp])), (qd, .inr (1, [.ref qw, .int (bI true), .int lf, .int (nI dn)])), (qw, .inl (cyI, 512, .inl w)), (qc, .inr (0, [.ref qd, .ref qwh, .ref qlv, .int (nI dn)])), (qwh, .inl (cyZ, 64, .inl WH1_14)), (qlv, .inl (cyZ, 64, .inl LV1_14)), (ql, .inr (2, [.ref qla, .int (nI k)])), (qla, .inl (cyI, 450, .inl P)), (qn, .inr (2, [.ref qna, .int (nI m0)])), (qna, .inl (cyI, 450, .inl C0)), (qe, .inr (2, [.ref qea, .int (nI g)])), (qea, .inl (cyI, 450, .inl G))]) [6, 7, 8, 9, 10, 11, 0, 1, 2, 3, 4, 5] rfl
    have hD9 := hD.sub (ws' := [(q4, .inr (3, [.ref qd, .ref qc, .ref qt, .ref ql, .ref qn, .ref qe, .ref qr, .ref qz, .int fp])), (qd, .inr (1, [.ref qw, .int (bI true), .int lf, .int (nI dn)])), (qw, .inl (cyI, 512, .inl w)), (qc, .inr (0, [.ref qd, .ref qwh, .ref qlv, .int (nI dn)])), (qwh, .inl (cyZ, 64, .inl WH1_14)), (qlv, .inl (cyZ, 64, .inl LV1_14)), (ql, .inr (2, [.ref qla, .int (nI k)])), (qla, .inl (cyI, 450, .inl P)), (qn, .inr (2, [.ref qna, .int (nI m0)])), (qna, .inl (cyI, 450, .inl C0)), (qe, .inr (2, [.ref qea, .int (nI g)])), (qea, .inl (cyI, 450, .inl G))]) [6, 7, 8, 9, 10, 11, 0, 1, 2, 3, 4, 5] (by decide) rfl
    have hK9 := hK.sub (tys' := [(cyI, .int), (cyZ, .boolean)]) [0, 1] rfl
    exact W.iret hx hb hr (fun tS ht hW => ⟨⟨_, (WH1_14, LV1_14, k, P, m0, C0, g, G), rfl, ⟨HL_14, by rw [eL]; exact ⟨rfl, rfl, fun _ _ => rfl⟩, Or.inr rfl⟩, by rw [ht]; exact hP9, va_K.moved hW.alike hK9, hD9⟩, hS.F ht⟩) hS.2.2 dX4_load_35
