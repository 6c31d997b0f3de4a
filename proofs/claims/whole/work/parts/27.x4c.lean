set_option maxHeartbeats 4000000 in
set_option maxRecDepth 100000 in
theorem c_X4_feed_bad (l : Launch) (dC : Nat → ClassId) (dI : Nat → Nat → Nat) (cyI cyZ : ClassId) (q4 qt qta qd qc ql qn qe qr qz : Nat) (sz : Nat) (hT : l.stackTraces = false) (fp : Int32) (T : Nat → Int32) (n : Nat) (xx : Int32) (o9 : Int64) (hn : n ≤ 400) (HBAD : ¬ ∃ q : Nat, xx = nI q ∧ 1 ≤ q ∧ q ≤ 8 ∧ n + q ≤ 400) : vx_Met l yX4_feed wsX4_feed ({ frames := 6, cells := 1, slots := 6, locals := 90 }) (va_Pc [.ref q4, .int xx, .long o9] (fun U => U.heap.size = sz ∧ va_P (dC, dI) vwCl [(q4, .inr (3, [.ref qd, .ref qc, .ref qt, .ref ql, .ref qn, .ref qe, .ref qr, .ref qz, .int fp])), (qt, .inr (2, [.ref qta, .int (nI n)])), (qta, .inl (cyI, 450, .inl T))] U.heap ∧ va_K (dC, dI) vwCl [(cyI, .int), (cyZ, .boolean)] U ∧ va_D (fun _ => True) [(q4, .inr (3, [.ref qd, .ref qc, .ref qt, .ref ql, .ref qn, .ref qe, .ref qr, .ref qz, .int fp])), (qt, .inr (2, [.ref qta, .int (nI n)])), (qta, .inl (cyI, 450, .inl T))] ∧ xq (va_A [(q4, .inr (3, [.ref qd, .ref qc, .ref qt, .ref ql, .ref qn, .ref qe, .ref qr, .ref qz, .int fp])), (qt, .inr (2, [.ref qta, .int (nI n)])), (qta, .inl (cyI, 450, .inl T))] sz) U)) (va_Qi (S := Unit) (fun _ _ => False) (fun _ _ => False) (va_A [(q4, .inr (3, [.ref qd, .ref qc, .ref qt, .ref ql, .ref qn, .ref qe, .ref qr, .ref qz, .int fp])), (qt, .inr (2, [.ref qta, .int (nI n)])), (qta, .inl (cyI, 450, .inl T))] sz)) (vx_X (S := Unit) (fun _ => True) (fun E _ tS => E = "java/lang/IllegalArgumentException" ∧ va_P (dC, dI) vwCl [(q4, .inr (3, [.ref qd, .ref qc, .ref qt, .ref ql, .ref qn, .ref qe, .ref qr, .ref qz, .int fp])), (qt, .inr (2, [.ref qta, .int (nI n)])), (qta, .inl (cyI, 450, .inl T))] tS.heap ∧ va_K (dC, dI) vwCl [(cyI, .int), (cyZ, .boolean)] tS ∧ va_D (va_A [(q4, .inr (3, [.ref qd, .ref qc, .ref qt, .ref ql, .ref qn, .ref qe, .ref qr, .ref qz, .int fp])), (qt, .inr (2, [.ref qta, .int (nI n)])), (qta, .inl (cyI, 450, .inl T))] sz) [(q4, .inr (3, [.ref qd, .ref qc, .ref qt, .ref ql, .ref qn, .ref qe, .ref qr, .ref qz, .int fp])), (qt, .inr (2, [.ref qta, .int (nI n)])), (qta, .inl (cyI, 450, .inl T))]) (va_A [(q4, .inr (3, [.ref qd, .ref qc, .ref qt, .ref ql, .ref qn, .ref qe, .ref qr, .ref qz, .int fp])), (qt, .inr (2, [.ref qta, .int (nI n)])), (qta, .inl (cyI, 450, .inl T))] sz)) 1 6 (va_A [(q4, .inr (3, [.ref qd, .ref qc, .ref qt, .ref ql, .ref qn, .ref qe, .ref qr, .ref qz, .int fp])), (qt, .inr (2, [.ref qta, .int (nI n)])), (qta, .inl (cyI, 450, .inl T))] sz) := by
  refine vx_ofW (cc := cX4_feed) (maxL := 5) (ret := (some .int)) (by decide) rfl ?_
  intro pz ez sS mM args below meth cC s₁ B hml htab hv
  obtain ⟨rfl, hsz, hP, hK, hD0, hXQ⟩ := hv
  have hx := B.exec
  have hb := B.bytes
  have hr := B.returns
  have hts := atoms_spec (ws := wsX4_feed) B.pre
  have hown : sS.vm.findClass RX4 = some mM.cls := findClass_of_methodNamed B.named
  have hlocks := B.notSynchronized
  subst hsz
  have hD := hD0.self (sz := sS.heap.size)
  generalize hAe : va_A [(q4, .inr (3, [.ref qd, .ref qc, .ref qt, .ref ql, .ref qn, .ref qe, .ref qr, .ref qz, .int fp])), (qt, .inr (2, [.ref qta, .int (nI n)])), (qta, .inl (cyI, 450, .inl T))] sS.heap.size = A at hD hXQ ⊢
  have hA : ∀ q : Nat, sS.heap.size ≤ q → A q := fun q h => by rw [← hAe]; exact Or.inr h
  have hS : va_S A sS.heap sS.heap [] := va_S.rf
  have hP : va_P (dC, dI) vwCl [(q4, .inr (3, [.ref qd, .ref qc, .ref qt, .ref ql, .ref qn, .ref qe, .ref qr, .ref qz, .int fp])), (qt, .inr (2, [.ref qta, .int (nI n)])), (qta, .inl (cyI, 450, .inl T))] sS.heap := hP
  have iwX4 : ∀ w ∈ wsX40, w ∈ wsX4_feed := by decide +kernel
  have fk28 := hts (.fieldLink RX4 28 "CodedStore" "tape" "LCodedStore$Octets;") (by decide +kernel)
  have hl := lv_entry ([.ref q4, .int xx, .long o9]) (n := 5) (Nat.le_of_ble_eq_true rfl)
  rw [lg_entry_eq]
  generalize (lg_sl ([.ref q4, .int xx, .long o9]) ++ List.replicate (5 - (lg_sl ([.ref q4, .int xx, .long o9])).length) Slot.unset).toArray = ls at hl ⊢
  have hl : lv_has ls 5 [(0, .ref q4), (1, .int xx), (2, .long o9)] := hl
  refine lv_iload_n hx hb dX4_feed_0 rfl (lv_at hl 1 rfl) ?_
  refine lv_iconst (v := nI 1) hx hb dX4_feed_1 (by decide) ?_
  refine lv_icmp_lt (tgt := 26) hx hb dX4_feed_2 (by decide) (fun c_2 => ?_) (fun c_2 => ?_)
  ·
    refine vx_throw0 (A := A) (names := ["java/lang/RuntimeException", "java/lang/Exception"]) hx hb hT hown (by decide +kernel) (by decide +kernel) (hts (.classLink RX4 56 "java/lang/IllegalArgumentException") (by decide +kernel)) (hts (.initialized "java/lang/IllegalArgumentException") (by decide +kernel)) (vx_hat (B := xqW) (fun w h => hts w (List.mem_cons_of_mem _ (List.mem_append_right _ h))) (by decide +kernel) (fun w hw => (hXQ.1 w hw).use (xqW_on w hw))) (by decide +kernel) hXQ.2.1 hXQ.2.2.1 hS (hl.1.trans hml.symm) dX4_feed_26 dX4_feed_29 dX4_feed_30 dX4_feed_33 (fun x h => (htab x h).elim) (Nat.le_of_ble_eq_true rfl) (Nat.le_of_ble_eq_true rfl) (Nat.le_of_ble_eq_true rfl) (Nat.le_of_ble_eq_true rfl) hlocks ?_ hS.2.2 (Nat.le_refl _) (Nat.le_refl _)
    exact fun tS h1 h2 h3 => ⟨(), trivial, ⟨rfl, hP.kept (fun k q hk => h3 q.1 (vx_lt hP hk)), va_K.moved h1 hK, hD⟩, Nat.le_trans hS.1 h2, fun q hq hA9 => (h3 q (Nat.lt_of_lt_of_le hq hS.1)).trans (hS.2.1 q hq hA9)⟩
  ·
    refine lv_iload_n hx hb dX4_feed_5 rfl (lv_at hl 1 rfl) ?_
    refine lv_bipush (v := nI 8) hx hb dX4_feed_6 (by decide) ?_
    refine lv_icmp_gt (tgt := 26) hx hb dX4_feed_8 (by decide) (fun c_8 => ?_) (fun c_8 => ?_)
    ·
      refine vx_throw0 (A := A) (names := ["java/lang/RuntimeException", "java/lang/Exception"]) hx hb hT hown (by decide +kernel) (by decide +kernel) (hts (.classLink RX4 56 "java/lang/IllegalArgumentException") (by decide +kernel)) (hts (.initialized "java/lang/IllegalArgumentException") (by decide +kernel)) (vx_hat (B := xqW) (fun w h => hts w (List.mem_cons_of_mem _ (List.mem_append_right _ h))) (by decide +kernel) (fun w hw => (hXQ.1 w hw).use (xqW_on w hw))) (by decide +kernel) hXQ.2.1 hXQ.2.2.1 hS (hl.1.trans hml.symm) dX4_feed_26 dX4_feed_29 dX4_feed_30 dX4_feed_33 (fun x h => (htab x h).elim) (Nat.le_of_ble_eq_true rfl) (Nat.le_of_ble_eq_true rfl) (Nat.le_of_ble_eq_true rfl) (Nat.le_of_ble_eq_true rfl) hlocks ?_ hS.2.2 (Nat.le_refl _) (Nat.le_refl _)
      exact fun tS h1 h2 h3 => ⟨(), trivial, ⟨rfl, hP.kept (fun k q hk => h3 q.1 (vx_lt hP hk)), va_K.moved h1 hK, hD⟩, Nat.le_trans hS.1 h2, fun q hq hA9 => (h3 q (Nat.lt_of_lt_of_le hq hS.1)).trans (hS.2.1 q hq hA9)⟩
    ·
      obtain ⟨q, h1, h8, eq9⟩ := i_1to8 c_2 c_8
      subst eq9
      refine lv_aload_n hx hb dX4_feed_11 rfl (lv_at hl 0 rfl) ?_
      refine va_get (D := (dC, dI)) (ci := 3) (v := .ref qt) (C := RX4) (T := TX4) (N := 9) hx hb hts iwX4 hown hK hP 0 rfl rfl 2 (by decide) fk28 (fun _ h9 => h9) rfl dX4_feed_12 ?_
      have hPc := hP.sub (ws' := [(qt, .inr (2, [.ref qta, .int (nI n)])), (qta, .inl (cyI, 450, .inl T))]) [1, 2] rfl
      have hKc := hK.sub (tys' := [(cyI, .int), (cyZ, .boolean)]) [0, 1] rfl
      refine vp_callSi (va_Run.run (va_runV (As := []) (rest := []) ⟨hx, hb, hml, hown, hts⟩ (c_X3_size l dC dI cyI cyZ qt qta T n) (cwV 0 hts gX4_feed_X3_size rfl rfl rfl (by decide +kernel) ⟨Nat.le_of_ble_eq_true rfl, Nat.le_of_ble_eq_true rfl⟩) ⟨zz_blR, va_recv hKc hPc (ci := 2) (q0 := 0) rfl rfl, fun U hU hW => ⟨rfl, by rw [hU]; exact hPc, va_K.moved hW.alike hKc⟩⟩ rfl rfl hl.1 rfl (lv_room (Nat.le_of_ble_eq_true rfl)) dX4_feed_15 ⟨Nat.le_of_ble_eq_true rfl, Nat.le_of_ble_eq_true rfl⟩)) (fun r_15 hr_15 => ?_)
      have hr_15 : nI n = r_15 := Eq.symm hr_15
      subst hr_15
      refine lv_iload_n hx hb dX4_feed_18 rfl (lv_at hl 1 rfl) ?_
      refine lv_iadd hx hb dX4_feed_19 ?_
      refine zz_top (nI_add n q) ?_
      refine lv_sipush (v := nI 400) hx hb dX4_feed_20 (by decide) ?_
      refine zn_icmp_le (tgt := 34) hx hb dX4_feed_23 (by decide) (by omega) (by omega) (fun c_23 => ?_) (fun c_23 => ?_)
      ·
        exfalso
        exact HBAD ⟨q, rfl, h1, h8, c_23⟩
      ·
        refine vx_throw0 (A := A) (names := ["java/lang/RuntimeException", "java/lang/Exception"]) hx hb hT hown (by decide +kernel) (by decide +kernel) (hts (.classLink RX4 56 "java/lang/IllegalArgumentException") (by decide +kernel)) (hts (.initialized "java/lang/IllegalArgumentException") (by decide +kernel)) (vx_hat (B := xqW) (fun w h => hts w (List.mem_cons_of_mem _ (List.mem_append_right _ h))) (by decide +kernel) (fun w hw => (hXQ.1 w hw).use (xqW_on w hw))) (by decide +kernel) hXQ.2.1 hXQ.2.2.1 hS (hl.1.trans hml.symm) dX4_feed_26 dX4_feed_29 dX4_feed_30 dX4_feed_33 (fun x h => (htab x h).elim) (Nat.le_of_ble_eq_true rfl) (Nat.le_of_ble_eq_true rfl) (Nat.le_of_ble_eq_true rfl) (Nat.le_of_ble_eq_true rfl) hlocks ?_ hS.2.2 (Nat.le_refl _) (Nat.le_refl _)
        exact fun tS h1 h2 h3 => ⟨(), trivial, ⟨rfl, hP.kept (fun k q hk => h3 q.1 (vx_lt hP hk)), va_K.moved h1 hK, hD⟩, Nat.le_trans hS.1 h2, fun q hq hA9 => (h3 q (Nat.lt_of_lt_of_le hq hS.1)).trans (hS.2.1 q hq hA9)⟩
set_option maxHeartbeats 4000000 in
set_option maxRecDepth 100000 in
theorem c_X4_feed_ok (l : Launch) (dC : Nat → ClassId) (dI : Nat → Nat → Nat) (cyI cyZ : ClassId) (q4 qt qta qd qc ql qn qe qr qz : Nat) (sz : Nat) (fp : Int32) (T : Nat → Int32) (n : Nat) (q : Nat) (o9 : Int64) (hq1 : 1 ≤ q) (hq8 : q ≤ 8) (hn : n + q ≤ 400) : Met l yX4_feed wsX4_feed ({ frames := 6, cells := 0, slots := 0, locals := 90 }) (va_Pc [.ref q4, .int (nI q), .long o9] (fun U => U.heap.size = sz ∧ va_P (dC, dI) vwCl [(q4, .inr (3, [.ref qd, .ref qc, .ref qt, .ref ql, .ref qn, .ref qe, .ref qr, .ref qz, .int fp])), (qt, .inr (2, [.ref qta, .int (nI n)])), (qta, .inl (cyI, 450, .inl T))] U.heap ∧ va_K (dC, dI) vwCl [(cyI, .int), (cyZ, .boolean)] U ∧ va_D (fun _ => True) [(q4, .inr (3, [.ref qd, .ref qc, .ref qt, .ref ql, .ref qn, .ref qe, .ref qr, .ref qz, .int fp])), (qt, .inr (2, [.ref qta, .int (nI n)])), (qta, .inl (cyI, 450, .inl T))])) (va_Qi (S := Unit) (fun (r : Int32) (_ : Unit) => r = nI (n + q)) (fun (_ : Unit) tS => va_P (dC, dI) vwCl [(q4, .inr (3, [.ref qd, .ref qc, .ref qt, .ref ql, .ref qn, .ref qe, .ref qr, .ref qz, .int fp])), (qt, .inr (2, [.ref qta, .int (nI (n + q))])), (qta, .inl (cyI, 450, .inl (zFeed T n o9 q)))] tS.heap ∧ va_K (dC, dI) vwCl [(cyI, .int), (cyZ, .boolean)] tS ∧ va_D (va_A [(q4, .inr (3, [.ref qd, .ref qc, .ref qt, .ref ql, .ref qn, .ref qe, .ref qr, .ref qz, .int fp])), (qt, .inr (2, [.ref qta, .int (nI n)])), (qta, .inl (cyI, 450, .inl T))] sz) [(q4, .inr (3, [.ref qd, .ref qc, .ref qt, .ref ql, .ref qn, .ref qe, .ref qr, .ref qz, .int fp])), (qt, .inr (2, [.ref qta, .int (nI (n + q))])), (qta, .inl (cyI, 450, .inl (zFeed T n o9 q)))]) (va_A [(q4, .inr (3, [.ref qd, .ref qc, .ref qt, .ref ql, .ref qn, .ref qe, .ref qr, .ref qz, .int fp])), (qt, .inr (2, [.ref qta, .int (nI n)])), (qta, .inl (cyI, 450, .inl T))] sz)) 0 0 (va_A [(q4, .inr (3, [.ref qd, .ref qc, .ref qt, .ref ql, .ref qn, .ref qe, .ref qr, .ref qz, .int fp])), (qt, .inr (2, [.ref qta, .int (nI n)])), (qta, .inl (cyI, 450, .inl T))] sz) := by
  refine Met.ofW (cc := cX4_feed) (maxL := 5) (ret := (some .int)) (by decide) rfl ?_
  intro pz ez sS mM args below meth cC s₁ B hml hv
  obtain ⟨rfl, hsz, hP, hK, hD0⟩ := hv
  have hx := B.exec
  have hb := B.bytes
  have hr := B.returns
  have hts := atoms_spec (ws := wsX4_feed) B.pre
  have hown : sS.vm.findClass RX4 = some mM.cls := findClass_of_methodNamed B.named
  have hlocks := B.notSynchronized
  subst hsz
  have hD := hD0.self (sz := sS.heap.size)
  generalize hAe : va_A [(q4, .inr (3, [.ref qd, .ref qc, .ref qt, .ref ql, .ref qn, .ref qe, .ref qr, .ref qz, .int fp])), (qt, .inr (2, [.ref qta, .int (nI n)])), (qta, .inl (cyI, 450, .inl T))] sS.heap.size = A at hD ⊢
  have hA : ∀ q : Nat, sS.heap.size ≤ q → A q := fun q h => by rw [← hAe]; exact Or.inr h
  have hS : va_S A sS.heap sS.heap [] := va_S.rf
  have hP : va_P (dC, dI) vwCl [(q4, .inr (3, [.ref qd, .ref qc, .ref qt, .ref ql, .ref qn, .ref qe, .ref qr, .ref qz, .int fp])), (qt, .inr (2, [.ref qta, .int (nI n)])), (qta, .inl (cyI, 450, .inl T))] sS.heap := hP
  have iwX4 : ∀ w ∈ wsX40, w ∈ wsX4_feed := by decide +kernel
  have fk28 := hts (.fieldLink RX4 28 "CodedStore" "tape" "LCodedStore$Octets;") (by decide +kernel)
  have hl := lv_entry ([.ref q4, .int (nI q), .long o9]) (n := 5) (Nat.le_of_ble_eq_true rfl)
  rw [lg_entry_eq]
  generalize (lg_sl ([.ref q4, .int (nI q), .long o9]) ++ List.replicate (5 - (lg_sl ([.ref q4, .int (nI q), .long o9])).length) Slot.unset).toArray = ls at hl ⊢
  have hl : lv_has ls 5 [(0, .ref q4), (1, .int (nI q)), (2, .long o9)] := hl
  refine lv_iload_n hx hb dX4_feed_0 rfl (lv_at hl 1 rfl) ?_
  refine lv_iconst (v := nI 1) hx hb dX4_feed_1 (by decide) ?_
  refine zn_icmp_lt (tgt := 26) hx hb dX4_feed_2 (by decide) (by omega) (by omega) (fun c_2 => ?_) (fun c_2 => ?_)
  ·
    exfalso
    omega
  ·
    refine lv_iload_n hx hb dX4_feed_5 rfl (lv_at hl 1 rfl) ?_
    refine lv_bipush (v := nI 8) hx hb dX4_feed_6 (by decide) ?_
    refine zn_icmp_gt (tgt := 26) hx hb dX4_feed_8 (by decide) (by omega) (by omega) (fun c_8 => ?_) (fun c_8 => ?_)
    ·
      exfalso
      omega
    ·
      refine lv_aload_n hx hb dX4_feed_11 rfl (lv_at hl 0 rfl) ?_
      refine va_get (D := (dC, dI)) (ci := 3) (v := .ref qt) (C := RX4) (T := TX4) (N := 9) hx hb hts iwX4 hown hK hP 0 rfl rfl 2 (by decide) fk28 (fun _ h9 => h9) rfl dX4_feed_12 ?_
      have hPc := hP.sub (ws' := [(qt, .inr (2, [.ref qta, .int (nI n)])), (qta, .inl (cyI, 450, .inl T))]) [1, 2] rfl
      have hKc := hK.sub (tys' := [(cyI, .int), (cyZ, .boolean)]) [0, 1] rfl
      refine vp_callSi (va_Run.run (va_runV (As := []) (rest := []) ⟨hx, hb, hml, hown, hts⟩ (c_X3_size l dC dI cyI cyZ qt qta T n) (cwV 0 hts gX4_feed_X3_size rfl rfl rfl (by decide +kernel) ⟨Nat.le_of_ble_eq_true rfl, Nat.le_of_ble_eq_true rfl⟩) ⟨zz_blR, va_recv hKc hPc (ci := 2) (q0 := 0) rfl rfl, fun U hU hW => ⟨rfl, by rw [hU]; exact hPc, va_K.moved hW.alike hKc⟩⟩ rfl rfl hl.1 rfl (lv_room (Nat.le_of_ble_eq_true rfl)) dX4_feed_15 ⟨Nat.zero_le _, Nat.zero_le _⟩)) (fun r_15 hr_15 => ?_)
      have hr_15 : nI n = r_15 := Eq.symm hr_15
      subst hr_15
      refine lv_iload_n hx hb dX4_feed_18 rfl (lv_at hl 1 rfl) ?_
      refine lv_iadd hx hb dX4_feed_19 ?_
      refine zz_top (nI_add n q) ?_
      refine lv_sipush (v := nI 400) hx hb dX4_feed_20 (by decide) ?_
      refine zn_icmp_le (tgt := 34) hx hb dX4_feed_23 (by decide) (by omega) (by omega) (fun c_23 => ?_) (fun c_23 => ?_)
      ·
        refine lv_iconst (v := nI 0) hx hb dX4_feed_34 (by decide) ?_
        refine lv_istore (lv' := [(4, .int (nI 0)), (0, .ref q4), (1, .int (nI q)), (2, .long o9)]) hx hb dX4_feed_35 hl (by decide) rfl (fun ls hl => ?_)
        refine zz_loopW (pc := 37) (μ := fun (i : Nat) => q - i) (Inv := fun (i : Nat) (H : Heap) (locs : List Loc) (ls : Array Slot) => (i ≤ q) ∧ va_P (dC, dI) vwCl [(q4, .inr (3, [.ref qd, .ref qc, .ref qt, .ref ql, .ref qn, .ref qe, .ref qr, .ref qz, .int fp])), (qt, .inr (2, [.ref qta, .int (nI (n + i))])), (qta, .inl (cyI, 450, .inl (zFeed T n o9 i)))] H ∧ va_D A [(q4, .inr (3, [.ref qd, .ref qc, .ref qt, .ref ql, .ref qn, .ref qe, .ref qr, .ref qz, .int fp])), (qt, .inr (2, [.ref qta, .int (nI (n + i))])), (qta, .inl (cyI, 450, .inl (zFeed T n o9 i)))] ∧ va_S A sS.heap H locs ∧ lv_has ls 5 [(0, .ref q4), (1, .int (nI q)), (2, .long o9), (4, .int (nI i))]) (x0 := (0)) ⟨by omega, hP, hD, hS, lv_sub hl [1, 2, 3, 0] rfl⟩ ?_
        intro i H locs ls hI ih37
        obtain ⟨hi, hP, hD, hS, hl⟩ := hI
        have hl : lv_has ls 5 [(0, .ref q4), (1, .int (nI q)), (2, .long o9), (4, .int (nI i))] := hl
        have hP : va_P (dC, dI) vwCl [(q4, .inr (3, [.ref qd, .ref qc, .ref qt, .ref ql, .ref qn, .ref qe, .ref qr, .ref qz, .int fp])), (qt, .inr (2, [.ref qta, .int (nI (n + i))])), (qta, .inl (cyI, 450, .inl (zFeed T n o9 i)))] H := hP
        have hD : va_D A [(q4, .inr (3, [.ref qd, .ref qc, .ref qt, .ref ql, .ref qn, .ref qe, .ref qr, .ref qz, .int fp])), (qt, .inr (2, [.ref qta, .int (nI (n + i))])), (qta, .inl (cyI, 450, .inl (zFeed T n o9 i)))] := hD
        have hi : i ≤ q := hi
        refine lv_iload hx hb dX4_feed_37 (lv_at hl 3 rfl) ?_
        refine lv_iload_n hx hb dX4_feed_39 rfl (lv_at hl 1 rfl) ?_
        refine zn_icmp_ge (tgt := 64) hx hb dX4_feed_40 (by decide) (by omega) (by omega) (fun c_40 => ?_) (fun c_40 => ?_)
        ·
          refine lv_aload_n hx hb dX4_feed_64 rfl (lv_at hl 0 rfl) ?_
          refine va_get (D := (dC, dI)) (ci := 3) (v := .ref qt) (C := RX4) (T := TX4) (N := 9) hx hb hts iwX4 hown hK hP 0 rfl rfl 2 (by decide) fk28 (fun _ h9 => h9) rfl dX4_feed_65 ?_
          have hPc := hP.sub (ws' := [(qt, .inr (2, [.ref qta, .int (nI (n + i))])), (qta, .inl (cyI, 450, .inl (zFeed T n o9 i)))]) [1, 2] rfl
          have hKc := hK.sub (tys' := [(cyI, .int), (cyZ, .boolean)]) [0, 1] rfl
          refine vp_callSi (va_Run.run (va_runV (As := []) (rest := []) ⟨hx, hb, hml, hown, hts⟩ (c_X3_size l dC dI cyI cyZ qt qta (zFeed T n o9 i) (n + i)) (cwV 0 hts gX4_feed_X3_size rfl rfl rfl (by decide +kernel) ⟨Nat.le_of_ble_eq_true rfl, Nat.le_of_ble_eq_true rfl⟩) ⟨zz_blR, va_recv hKc hPc (ci := 2) (q0 := 0) rfl rfl, fun U hU hW => ⟨rfl, by rw [hU]; exact hPc, va_K.moved hW.alike hKc⟩⟩ rfl rfl hl.1 rfl (lv_room (Nat.le_of_ble_eq_true rfl)) dX4_feed_68 ⟨Nat.zero_le _, Nat.zero_le _⟩)) (fun r_68 hr_68 => ?_)
          have hr_68 : nI (n + i) = r_68 := Eq.symm hr_68
          subst hr_68
          have eq9 : q = i := by omega
          subst eq9
          have hP9 := hP.sub (ws' := [(q4, .inr (3, [.ref qd, .ref qc, .ref qt, .ref ql, .ref qn, .ref qe, .ref qr, .ref qz, .int fp])), (qt, .inr (2, [.ref qta, .int (nI (n + q))])), (qta, .inl (cyI, 450, .inl (zFeed T n o9 q)))]) [0, 1, 2] rfl
          have hD9 := hD.sub (ws' := [(q4, .inr (3, [.ref qd, .ref qc, .ref qt, .ref ql, .ref qn, .ref qe, .ref qr, .ref qz, .int fp])), (qt, .inr (2, [.ref qta, .int (nI (n + q))])), (qta, .inl (cyI, 450, .inl (zFeed T n o9 q)))]) [0, 1, 2] (by decide) rfl
          have hK9 := hK.sub (tys' := [(cyI, .int), (cyZ, .boolean)]) [0, 1] rfl
          exact W.iret hx hb hr (fun tS ht hW => ⟨⟨_, (), rfl, rfl, by rw [ht]; exact hP9, va_K.moved hW.alike hK9, hD9⟩, hS.F ht⟩) hS.2.2 dX4_feed_71
        ·
          refine lv_aload_n hx hb dX4_feed_43 rfl (lv_at hl 0 rfl) ?_
          refine va_get (D := (dC, dI)) (ci := 3) (v := .ref qt) (C := RX4) (T := TX4) (N := 9) hx hb hts iwX4 hown hK hP 0 rfl rfl 2 (by decide) fk28 (fun _ h9 => h9) rfl dX4_feed_44 ?_
          refine lv_lload_n hx hb dX4_feed_47 rfl (lv_at hl 2 rfl) ?_
          refine lv_bipush (v := nI 8) hx hb dX4_feed_48 (by decide) ?_
          refine lv_iload hx hb dX4_feed_50 (lv_at hl 3 rfl) ?_
          refine lv_imul hx hb dX4_feed_52 ?_
          refine zz_top (pk_mul 8 i) ?_
          refine lv_lushr (v := ((o9).toUInt64 >>> ((nI (8 * i)).toInt64.toUInt64 &&& Int64.toUInt64 63)).toInt64) hx hb dX4_feed_53 rfl ?_
          refine lv_l2i (v := (((o9).toUInt64 >>> ((nI (8 * i)).toInt64.toUInt64 &&& Int64.toUInt64 63)).toInt64).toInt32) hx hb dX4_feed_54 rfl ?_
          have hPc := hP.sub (ws' := [(qt, .inr (2, [.ref qta, .int (nI (n + i))])), (qta, .inl (cyI, 450, .inl (zFeed T n o9 i)))]) [1, 2] rfl
          have hKc := hK.sub (tys' := [(cyI, .int), (cyZ, .boolean)]) [0, 1] rfl
          have hDc := hD.sub (ws' := [(qt, .inr (2, [.ref qta, .int (nI (n + i))])), (qta, .inl (cyI, 450, .inl (zFeed T n o9 i)))]) [1, 2] (by decide) rfl
          have hFc := va_free (wc := [(qt, .inr (2, [.ref qta, .int (nI (n + i))])), (qta, .inl (cyI, 450, .inl (zFeed T n o9 i)))]) hD hS hA [1, 2] rfl
          refine va_callv (va_runV (As := [.int ((((o9).toUInt64 >>> ((nI (8 * i)).toInt64.toUInt64 &&& Int64.toUInt64 63)).toInt64).toInt32)]) (rest := []) ⟨hx, hb, hml, hown, hts⟩ (c_X3_append l dC dI cyI cyZ qt qta H.size (zFeed T n o9 i) (n + i) ((((o9).toUInt64 >>> ((nI (8 * i)).toInt64.toUInt64 &&& Int64.toUInt64 63)).toInt64).toInt32) (by omega)) (cwV 1 hts gX4_feed_X3_append rfl rfl rfl (by decide +kernel) ⟨Nat.le_of_ble_eq_true rfl, Nat.le_of_ble_eq_true rfl⟩) ⟨zz_blW, va_recv hKc hPc (ci := 2) (q0 := 0) rfl rfl, fun U hU hW => ⟨rfl, by rw [hU], by rw [hU]; exact hPc, va_K.moved hW.alike hKc, hDc.weaken (fun _ _ _ _ => trivial)⟩⟩ rfl rfl hl.1 rfl (lv_room (Nat.le_of_ble_eq_true rfl)) dX4_feed_55 ⟨Nat.zero_le _, Nat.zero_le _⟩) hS (fun q _ h => hFc q h) hFc (fun uU tS H1 locs ht9 hvm9 hw9 hB9 hz1 hk1 hS => ?_)
          obtain ⟨hP1, hK1, hD1⟩ := hB9
          rw [ht9] at hP1
          have hK1 := va_K.moved hvm9.symm hK1
          obtain ⟨hP, hD⟩ := va_join (wr := [(q4, .inr (3, [.ref qd, .ref qc, .ref qt, .ref ql, .ref qn, .ref qe, .ref qr, .ref qz, .int fp]))]) (w1 := [(qt, .inr (2, [.ref qta, .int (nI ((n + i) + 1))])), (qta, .inl (cyI, 450, .inl (upd (zFeed T n o9 i) (n + i) (((((o9).toUInt64 >>> ((nI (8 * i)).toInt64.toUInt64 &&& Int64.toUInt64 63)).toInt64).toInt32) &&& nI 255))))]) hP hD [1, 2] [0] rfl rfl (by decide) (by decide) hk1 hFc hP1 hD1
          generalize H1 = H at hP hS ⊢
          have hP : va_P (dC, dI) vwCl [(q4, .inr (3, [.ref qd, .ref qc, .ref qt, .ref ql, .ref qn, .ref qe, .ref qr, .ref qz, .int fp])), (qt, .inr (2, [.ref qta, .int (nI ((n + i) + 1))])), (qta, .inl (cyI, 450, .inl (upd (zFeed T n o9 i) (n + i) (((((o9).toUInt64 >>> ((nI (8 * i)).toInt64.toUInt64 &&& Int64.toUInt64 63)).toInt64).toInt32) &&& nI 255))))] H := hP
          have hD : va_D A [(q4, .inr (3, [.ref qd, .ref qc, .ref qt, .ref ql, .ref qn, .ref qe, .ref qr, .ref qz, .int fp])), (qt, .inr (2, [.ref qta, .int (nI ((n + i) + 1))])), (qta, .inl (cyI, 450, .inl (upd (zFeed T n o9 i) (n + i) (((((o9).toUInt64 >>> ((nI (8 * i)).toInt64.toUInt64 &&& Int64.toUInt64 63)).toInt64).toInt32) &&& nI 255))))] := hD
          have eqc : upd (zFeed T n o9 i) (n + i) (((((o9).toUInt64 >>> ((nI (8 * i)).toInt64.toUInt64 &&& Int64.toUInt64 63)).toInt64).toInt32) &&& nI 255) = zFeed T n o9 (i + 1) := rfl
          rw [eqc] at hP hD
          have hP : va_P (dC, dI) vwCl [(q4, .inr (3, [.ref qd, .ref qc, .ref qt, .ref ql, .ref qn, .ref qe, .ref qr, .ref qz, .int fp])), (qt, .inr (2, [.ref qta, .int (nI ((n + i) + 1))])), (qta, .inl (cyI, 450, .inl (zFeed T n o9 (i + 1))))] H := hP
          have hD : va_D A [(q4, .inr (3, [.ref qd, .ref qc, .ref qt, .ref ql, .ref qn, .ref qe, .ref qr, .ref qz, .int fp])), (qt, .inr (2, [.ref qta, .int (nI ((n + i) + 1))])), (qta, .inl (cyI, 450, .inl (zFeed T n o9 (i + 1))))] := hD
          refine lv_iinc (v := nI (i + 1)) (lv' := [(4, .int (nI (i + 1))), (0, .ref q4), (1, .int (nI q)), (2, .long o9)]) hx hb dX4_feed_58 hl (k := 3) rfl (nI_add i 1) (by decide) rfl (fun ls hl => ?_)
          refine lv_goto (tgt := 37) hx hb dX4_feed_61 (by decide) ?_
          -- cell qt: .inr (2, [.ref qta, .int (nI ((n + i) + 1))]) ~ .inr (2, [.ref qta, .int (nI (n + (i + 1)))])
          exact ih37 (i + 1) _ _ _ ⟨by omega, hP, hD, hS, lv_sub hl [1, 2, 3, 0] rfl⟩ (by first | omega | (dsimp only; omega))
      ·
        exfalso
        omega
set_option maxHeartbeats 4000000 in
set_option maxRecDepth 100000 in
theorem c_X4_power_bad (l : Launch) (dC : Nat → ClassId) (dI : Nat → Nat → Nat) (cyI cyZ : ClassId) (q4 qd qw qc qt ql qn qe qr qz : Nat) (sz : Nat) (hT : l.stackTraces = false) (fp : Int32) (w : Nat → Int32) (on : Bool) (lf : Int32) (dn : Nat) (xx : Int32) (HBAD : xx < (-1) ∨ nI 1000 < xx) : vx_Met l yX4_power wsX4_power ({ frames := 6, cells := 1, slots := 6, locals := 90 }) (va_Pc [.ref q4, .int xx] (fun U => U.heap.size = sz ∧ va_P (dC, dI) vwCl [(q4, .inr (3, [.ref qd, .ref qc, .ref qt, .ref ql, .ref qn, .ref qe, .ref qr, .ref qz, .int fp])), (qd, .inr (1, [.ref qw, .int (bI on), .int lf, .int (nI dn)])), (qw, .inl (cyI, 512, .inl w))] U.heap ∧ va_K (dC, dI) vwCl [(cyI, .int), (cyZ, .boolean)] U ∧ va_D (fun _ => True) [(q4, .inr (3, [.ref qd, .ref qc, .ref qt, .ref ql, .ref qn, .ref qe, .ref qr, .ref qz, .int fp])), (qd, .inr (1, [.ref qw, .int (bI on), .int lf, .int (nI dn)])), (qw, .inl (cyI, 512, .inl w))] ∧ xq (va_A [(q4, .inr (3, [.ref qd, .ref qc, .ref qt, .ref ql, .ref qn, .ref qe, .ref qr, .ref qz, .int fp])), (qd, .inr (1, [.ref qw, .int (bI on), .int lf, .int (nI dn)])), (qw, .inl (cyI, 512, .inl w))] sz) U)) (va_Qi (S := Unit) (fun _ _ => False) (fun _ _ => False) (va_A [(q4, .inr (3, [.ref qd, .ref qc, .ref qt, .ref ql, .ref qn, .ref qe, .ref qr, .ref qz, .int fp])), (qd, .inr (1, [.ref qw, .int (bI on), .int lf, .int (nI dn)])), (qw, .inl (cyI, 512, .inl w))] sz)) (vx_X (S := Unit) (fun _ => True) (fun E _ tS => E = "java/lang/IllegalArgumentException" ∧ va_P (dC, dI) vwCl [(q4, .inr (3, [.ref qd, .ref qc, .ref qt, .ref ql, .ref qn, .ref qe, .ref qr, .ref qz, .int fp])), (qd, .inr (1, [.ref qw, .int (bI on), .int lf, .int (nI dn)])), (qw, .inl (cyI, 512, .inl w))] tS.heap ∧ va_K (dC, dI) vwCl [(cyI, .int), (cyZ, .boolean)] tS ∧ va_D (va_A [(q4, .inr (3, [.ref qd, .ref qc, .ref qt, .ref ql, .ref qn, .ref qe, .ref qr, .ref qz, .int fp])), (qd, .inr (1, [.ref qw, .int (bI on), .int lf, .int (nI dn)])), (qw, .inl (cyI, 512, .inl w))] sz) [(q4, .inr (3, [.ref qd, .ref qc, .ref qt, .ref ql, .ref qn, .ref qe, .ref qr, .ref qz, .int fp])), (qd, .inr (1, [.ref qw, .int (bI on), .int lf, .int (nI dn)])), (qw, .inl (cyI, 512, .inl w))]) (va_A [(q4, .inr (3, [.ref qd, .ref qc, .ref qt, .ref ql, .ref qn, .ref qe, .ref qr, .ref qz, .int fp])), (qd, .inr (1, [.ref qw, .int (bI on), .int lf, .int (nI dn)])), (qw, .inl (cyI, 512, .inl w))] sz)) 1 6 (va_A [(q4, .inr (3, [.ref qd, .ref qc, .ref qt, .ref ql, .ref qn, .ref qe, .ref qr, .ref qz, .int fp])), (qd, .inr (1, [.ref qw, .int (bI on), .int lf, .int (nI dn)])), (qw, .inl (cyI, 512, .inl w))] sz) := by
  refine vx_ofW (cc := cX4_power) (maxL := 3) (ret := (some .int)) (by decide) rfl ?_
  intro pz ez sS mM args below meth cC s₁ B hml htab hv
  obtain ⟨rfl, hsz, hP, hK, hD0, hXQ⟩ := hv
  have hx := B.exec
  have hb := B.bytes
  have hr := B.returns
  have hts := atoms_spec (ws := wsX4_power) B.pre
  have hown : sS.vm.findClass RX4 = some mM.cls := findClass_of_methodNamed B.named
  have hlocks := B.notSynchronized
  subst hsz
  have hD := hD0.self (sz := sS.heap.size)
  generalize hAe : va_A [(q4, .inr (3, [.ref qd, .ref qc, .ref qt, .ref ql, .ref qn, .ref qe, .ref qr, .ref qz, .int fp])), (qd, .inr (1, [.ref qw, .int (bI on), .int lf, .int (nI dn)])), (qw, .inl (cyI, 512, .inl w))] sS.heap.size = A at hD hXQ ⊢
  have hA : ∀ q : Nat, sS.heap.size ≤ q → A q := fun q h => by rw [← hAe]; exact Or.inr h
  have hS : va_S A sS.heap sS.heap [] := va_S.rf
  have hP : va_P (dC, dI) vwCl [(q4, .inr (3, [.ref qd, .ref qc, .ref qt, .ref ql, .ref qn, .ref qe, .ref qr, .ref qz, .int fp])), (qd, .inr (1, [.ref qw, .int (bI on), .int lf, .int (nI dn)])), (qw, .inl (cyI, 512, .inl w))] sS.heap := hP
  have hl := lv_entry ([.ref q4, .int xx]) (n := 3) (Nat.le_of_ble_eq_true rfl)
  rw [lg_entry_eq]
  generalize (lg_sl ([.ref q4, .int xx]) ++ List.replicate (3 - (lg_sl ([.ref q4, .int xx])).length) Slot.unset).toArray = ls at hl ⊢
  have hl : lv_has ls 3 [(0, .ref q4), (1, .int xx)] := hl
  refine lv_iload_n hx hb dX4_power_0 rfl (lv_at hl 1 rfl) ?_
  refine lv_iconst (v := (-1)) hx hb dX4_power_1 (by decide) ?_
  refine lv_icmp_lt (tgt := 12) hx hb dX4_power_2 (by decide) (fun c_2 => ?_) (fun c_2 => ?_)
  ·
    refine vx_throw0 (A := A) (names := ["java/lang/RuntimeException", "java/lang/Exception"]) hx hb hT hown (by decide +kernel) (by decide +kernel) (hts (.classLink RX4 56 "java/lang/IllegalArgumentException") (by decide +kernel)) (hts (.initialized "java/lang/IllegalArgumentException") (by decide +kernel)) (vx_hat (B := xqW) (fun w h => hts w (List.mem_cons_of_mem _ (List.mem_append_left _ (List.mem_append_right _ h)))) (by decide +kernel) (fun w hw => (hXQ.1 w hw).use (xqW_on w hw))) (by decide +kernel) hXQ.2.1 hXQ.2.2.1 hS (hl.1.trans hml.symm) dX4_power_12 dX4_power_15 dX4_power_16 dX4_power_19 (fun x h => (htab x h).elim) (Nat.le_of_ble_eq_true rfl) (Nat.le_of_ble_eq_true rfl) (Nat.le_of_ble_eq_true rfl) (Nat.le_of_ble_eq_true rfl) hlocks ?_ hS.2.2 (Nat.le_refl _) (Nat.le_refl _)
    exact fun tS h1 h2 h3 => ⟨(), trivial, ⟨rfl, hP.kept (fun k q hk => h3 q.1 (vx_lt hP hk)), va_K.moved h1 hK, hD⟩, Nat.le_trans hS.1 h2, fun q hq hA9 => (h3 q (Nat.lt_of_lt_of_le hq hS.1)).trans (hS.2.1 q hq hA9)⟩
  ·
    refine lv_iload_n hx hb dX4_power_5 rfl (lv_at hl 1 rfl) ?_
    refine lv_sipush (v := nI 1000) hx hb dX4_power_6 (by decide) ?_
    refine lv_icmp_le (tgt := 20) hx hb dX4_power_9 (by decide) (fun c_9 => ?_) (fun c_9 => ?_)
    ·
      exfalso
      exact HBAD.elim (fun h => c_2 h) (fun h => (Int32.not_lt.mpr c_9) h)
    ·
      refine vx_throw0 (A := A) (names := ["java/lang/RuntimeException", "java/lang/Exception"]) hx hb hT hown (by decide +kernel) (by decide +kernel) (hts (.classLink RX4 56 "java/lang/IllegalArgumentException") (by decide +kernel)) (hts (.initialized "java/lang/IllegalArgumentException") (by decide +kernel)) (vx_hat (B := xqW) (fun w h => hts w (List.mem_cons_of_mem _ (List.mem_append_left _ (List.mem_append_right _ h)))) (by decide +kernel) (fun w hw => (hXQ.1 w hw).use (xqW_on w hw))) (by decide +kernel) hXQ.2.1 hXQ.2.2.1 hS (hl.1.trans hml.symm) dX4_power_12 dX4_power_15 dX4_power_16 dX4_power_19 (fun x h => (htab x h).elim) (Nat.le_of_ble_eq_true rfl) (Nat.le_of_ble_eq_true rfl) (Nat.le_of_ble_eq_true rfl) (Nat.le_of_ble_eq_true rfl) hlocks ?_ hS.2.2 (Nat.le_refl _) (Nat.le_refl _)
      exact fun tS h1 h2 h3 => ⟨(), trivial, ⟨rfl, hP.kept (fun k q hk => h3 q.1 (vx_lt hP hk)), va_K.moved h1 hK, hD⟩, Nat.le_trans hS.1 h2, fun q hq hA9 => (h3 q (Nat.lt_of_lt_of_le hq hS.1)).trans (hS.2.1 q hq hA9)⟩
set_option maxHeartbeats 4000000 in
set_option maxRecDepth 100000 in
theorem c_X4_power_off (l : Launch) (dC : Nat → ClassId) (dI : Nat → Nat → Nat) (cyI cyZ : ClassId) (q4 qd qw qc qt ql qn qe qr qz : Nat) (sz : Nat) (hT : l.stackTraces = false) (fp : Int32) (w : Nat → Int32) (lf : Int32) (dn : Nat) (xx : Int32) (HOK : ¬ (xx < (-1) ∨ nI 1000 < xx)) : vx_Met l yX4_power wsX4_power ({ frames := 6, cells := 1, slots := 6, locals := 90 }) (va_Pc [.ref q4, .int xx] (fun U => U.heap.size = sz ∧ va_P (dC, dI) vwCl [(q4, .inr (3, [.ref qd, .ref qc, .ref qt, .ref ql, .ref qn, .ref qe, .ref qr, .ref qz, .int fp])), (qd, .inr (1, [.ref qw, .int (bI false), .int lf, .int (nI dn)])), (qw, .inl (cyI, 512, .inl w))] U.heap ∧ va_K (dC, dI) vwCl [(cyI, .int), (cyZ, .boolean)] U ∧ va_D (fun _ => True) [(q4, .inr (3, [.ref qd, .ref qc, .ref qt, .ref ql, .ref qn, .ref qe, .ref qr, .ref qz, .int fp])), (qd, .inr (1, [.ref qw, .int (bI false), .int lf, .int (nI dn)])), (qw, .inl (cyI, 512, .inl w))] ∧ xq (va_A [(q4, .inr (3, [.ref qd, .ref qc, .ref qt, .ref ql, .ref qn, .ref qe, .ref qr, .ref qz, .int fp])), (qd, .inr (1, [.ref qw, .int (bI false), .int lf, .int (nI dn)])), (qw, .inl (cyI, 512, .inl w))] sz) U)) (va_Qi (S := Unit) (fun _ _ => False) (fun _ _ => False) (va_A [(q4, .inr (3, [.ref qd, .ref qc, .ref qt, .ref ql, .ref qn, .ref qe, .ref qr, .ref qz, .int fp])), (qd, .inr (1, [.ref qw, .int (bI false), .int lf, .int (nI dn)])), (qw, .inl (cyI, 512, .inl w))] sz)) (vx_X (S := Unit) (fun _ => True) (fun E _ tS => E = "java/lang/IllegalStateException" ∧ va_P (dC, dI) vwCl [(q4, .inr (3, [.ref qd, .ref qc, .ref qt, .ref ql, .ref qn, .ref qe, .ref qr, .ref qz, .int fp])), (qd, .inr (1, [.ref qw, .int (bI false), .int lf, .int (nI dn)])), (qw, .inl (cyI, 512, .inl w))] tS.heap ∧ va_K (dC, dI) vwCl [(cyI, .int), (cyZ, .boolean)] tS ∧ va_D (va_A [(q4, .inr (3, [.ref qd, .ref qc, .ref qt, .ref ql, .ref qn, .ref qe, .ref qr, .ref qz, .int fp])), (qd, .inr (1, [.ref qw, .int (bI false), .int lf, .int (nI dn)])), (qw, .inl (cyI, 512, .inl w))] sz) [(q4, .inr (3, [.ref qd, .ref qc, .ref qt, .ref ql, .ref qn, .ref qe, .ref qr, .ref qz, .int fp])), (qd, .inr (1, [.ref qw, .int (bI false), .int lf, .int (nI dn)])), (qw, .inl (cyI, 512, .inl w))]) (va_A [(q4, .inr (3, [.ref qd, .ref qc, .ref qt, .ref ql, .ref qn, .ref qe, .ref qr, .ref qz, .int fp])), (qd, .inr (1, [.ref qw, .int (bI false), .int lf, .int (nI dn)])), (qw, .inl (cyI, 512, .inl w))] sz)) 1 6 (va_A [(q4, .inr (3, [.ref qd, .ref qc, .ref qt, .ref ql, .ref qn, .ref qe, .ref qr, .ref qz, .int fp])), (qd, .inr (1, [.ref qw, .int (bI false), .int lf, .int (nI dn)])), (qw, .inl (cyI, 512, .inl w))] sz) := by
  refine vx_ofW (cc := cX4_power) (maxL := 3) (ret := (some .int)) (by decide) rfl ?_
  intro pz ez sS mM args below meth cC s₁ B hml htab hv
  obtain ⟨rfl, hsz, hP, hK, hD0, hXQ⟩ := hv
  have hx := B.exec
  have hb := B.bytes
  have hr := B.returns
  have hts := atoms_spec (ws := wsX4_power) B.pre
  have hown : sS.vm.findClass RX4 = some mM.cls := findClass_of_methodNamed B.named
  have hlocks := B.notSynchronized
  subst hsz
  have hD := hD0.self (sz := sS.heap.size)
  generalize hAe : va_A [(q4, .inr (3, [.ref qd, .ref qc, .ref qt, .ref ql, .ref qn, .ref qe, .ref qr, .ref qz, .int fp])), (qd, .inr (1, [.ref qw, .int (bI false), .int lf, .int (nI dn)])), (qw, .inl (cyI, 512, .inl w))] sS.heap.size = A at hD hXQ ⊢
  have hA : ∀ q : Nat, sS.heap.size ≤ q → A q := fun q h => by rw [← hAe]; exact Or.inr h
  have hS : va_S A sS.heap sS.heap [] := va_S.rf
  have hP : va_P (dC, dI) vwCl [(q4, .inr (3, [.ref qd, .ref qc, .ref qt, .ref ql, .ref qn, .ref qe, .ref qr, .ref qz, .int fp])), (qd, .inr (1, [.ref qw, .int (bI false), .int lf, .int (nI dn)])), (qw, .inl (cyI, 512, .inl w))] sS.heap := hP
  have iwX4 : ∀ w ∈ wsX40, w ∈ wsX4_power := by decide +kernel
  have fk10 := hts (.fieldLink RX4 10 "CodedStore" "disk" "LCodedStore$Disk;") (by decide +kernel)
  have hl := lv_entry ([.ref q4, .int xx]) (n := 3) (Nat.le_of_ble_eq_true rfl)
  rw [lg_entry_eq]
  generalize (lg_sl ([.ref q4, .int xx]) ++ List.replicate (3 - (lg_sl ([.ref q4, .int xx])).length) Slot.unset).toArray = ls at hl ⊢
  have hl : lv_has ls 3 [(0, .ref q4), (1, .int xx)] := hl
  refine lv_iload_n hx hb dX4_power_0 rfl (lv_at hl 1 rfl) ?_
  refine lv_iconst (v := (-1)) hx hb dX4_power_1 (by decide) ?_
  refine lv_icmp_lt (tgt := 12) hx hb dX4_power_2 (by decide) (fun c_2 => ?_) (fun c_2 => ?_)
  ·
    exfalso
    exact HOK (Or.inl c_2)
  ·
    refine lv_iload_n hx hb dX4_power_5 rfl (lv_at hl 1 rfl) ?_
    refine lv_sipush (v := nI 1000) hx hb dX4_power_6 (by decide) ?_
    refine lv_icmp_le (tgt := 20) hx hb dX4_power_9 (by decide) (fun c_9 => ?_) (fun c_9 => ?_)
    ·
      refine lv_aload_n hx hb dX4_power_20 rfl (lv_at hl 0 rfl) ?_
      refine va_get (D := (dC, dI)) (ci := 3) (v := .ref qd) (C := RX4) (T := TX4) (N := 9) hx hb hts iwX4 hown hK hP 0 rfl rfl 0 (by decide) fk10 (fun _ h9 => h9) rfl dX4_power_21 ?_
      have hPc := hP.sub (ws' := [(qd, .inr (1, [.ref qw, .int (bI false), .int lf, .int (nI dn)])), (qw, .inl (cyI, 512, .inl w))]) [1, 2] rfl
      have hKc := hK.sub (tys' := [(cyI, .int), (cyZ, .boolean)]) [0, 1] rfl
      refine vp_callSi (va_Run.run (va_runV (As := []) (rest := []) ⟨hx, hb, hml, hown, hts⟩ (c_X2_isOn l dC dI cyI cyZ qd qw w false lf dn) (cwV 0 hts gX4_power_X2_isOn rfl rfl rfl (by decide +kernel) ⟨Nat.le_of_ble_eq_true rfl, Nat.le_of_ble_eq_true rfl⟩) ⟨zz_blR, va_recv hKc hPc (ci := 1) (q0 := 0) rfl rfl, fun U hU hW => ⟨rfl, by rw [hU]; exact hPc, va_K.moved hW.alike hKc⟩⟩ rfl rfl hl.1 rfl (lv_room (Nat.le_of_ble_eq_true rfl)) dX4_power_24 ⟨Nat.le_of_ble_eq_true rfl, Nat.le_of_ble_eq_true rfl⟩)) (fun r_24 hr_24 => ?_)
      have hr_24 : bI false = r_24 := Eq.symm hr_24
      subst hr_24
      refine lv_if_ne (tgt := 38) hx hb dX4_power_27 (by decide) (fun c_27 => absurd (by decide) c_27) (fun c_27 => ?_)
      refine vx_throw0 (A := A) (names := ["java/lang/RuntimeException", "java/lang/Exception"]) hx hb hT hown (by decide +kernel) (by decide +kernel) (hts (.classLink RX4 119 "java/lang/IllegalStateException") (by decide +kernel)) (hts (.initialized "java/lang/IllegalStateException") (by decide +kernel)) (vx_hat (B := xqW) (fun w h => hts w (List.mem_cons_of_mem _ (List.mem_append_right _ h))) (by decide +kernel) (fun w hw => (hXQ.1 w hw).use (xqW_on w hw))) (by decide +kernel) hXQ.2.1 hXQ.2.2.1 hS (hl.1.trans hml.symm) dX4_power_30 dX4_power_33 dX4_power_34 dX4_power_37 (fun x h => (htab x h).elim) (Nat.le_of_ble_eq_true rfl) (Nat.le_of_ble_eq_true rfl) (Nat.le_of_ble_eq_true rfl) (Nat.le_of_ble_eq_true rfl) hlocks ?_ hS.2.2 (Nat.le_refl _) (Nat.le_refl _)
      exact fun tS h1 h2 h3 => ⟨(), trivial, ⟨rfl, hP.kept (fun k q hk => h3 q.1 (vx_lt hP hk)), va_K.moved h1 hK, hD⟩, Nat.le_trans hS.1 h2, fun q hq hA9 => (h3 q (Nat.lt_of_lt_of_le hq hS.1)).trans (hS.2.1 q hq hA9)⟩
    ·
      exfalso
      exact HOK (Or.inr (Int32.not_le.mp c_9))
set_option maxHeartbeats 4000000 in
set_option maxRecDepth 100000 in
theorem c_X4_power_ok (l : Launch) (dC : Nat → ClassId) (dI : Nat → Nat → Nat) (cyI cyZ : ClassId) (q4 qd qw qc qt ql qn qe qr qz : Nat) (sz : Nat) (fp : Int32) (w : Nat → Int32) (lf : Int32) (dn : Nat) (xx : Int32) (HOK : ¬ (xx < (-1) ∨ nI 1000 < xx)) : Met l yX4_power wsX4_power ({ frames := 6, cells := 0, slots := 0, locals := 90 }) (va_Pc [.ref q4, .int xx] (fun U => U.heap.size = sz ∧ va_P (dC, dI) vwCl [(q4, .inr (3, [.ref qd, .ref qc, .ref qt, .ref ql, .ref qn, .ref qe, .ref qr, .ref qz, .int fp])), (qd, .inr (1, [.ref qw, .int (bI true), .int lf, .int (nI dn)])), (qw, .inl (cyI, 512, .inl w))] U.heap ∧ va_K (dC, dI) vwCl [(cyI, .int), (cyZ, .boolean)] U ∧ va_D (fun _ => True) [(q4, .inr (3, [.ref qd, .ref qc, .ref qt, .ref ql, .ref qn, .ref qe, .ref qr, .ref qz, .int fp])), (qd, .inr (1, [.ref qw, .int (bI true), .int lf, .int (nI dn)])), (qw, .inl (cyI, 512, .inl w))])) (va_Qi (S := Unit) (fun (r : Int32) (_ : Unit) => r = lf) (fun (_ : Unit) tS => va_P (dC, dI) vwCl [(q4, .inr (3, [.ref qd, .ref qc, .ref qt, .ref ql, .ref qn, .ref qe, .ref qr, .ref qz, .int fp])), (qd, .inr (1, [.ref qw, .int (bI true), .int xx, .int (nI dn)])), (qw, .inl (cyI, 512, .inl w))] tS.heap ∧ va_K (dC, dI) vwCl [(cyI, .int), (cyZ, .boolean)] tS ∧ va_D (va_A [(q4, .inr (3, [.ref qd, .ref qc, .ref qt, .ref ql, .ref qn, .ref qe, .ref qr, .ref qz, .int fp])), (qd, .inr (1, [.ref qw, .int (bI true), .int lf, .int (nI dn)])), (qw, .inl (cyI, 512, .inl w))] sz) [(q4, .inr (3, [.ref qd, .ref qc, .ref qt, .ref ql, .ref qn, .ref qe, .ref qr, .ref qz, .int fp])), (qd, .inr (1, [.ref qw, .int (bI true), .int xx, .int (nI dn)])), (qw, .inl (cyI, 512, .inl w))]) (va_A [(q4, .inr (3, [.ref qd, .ref qc, .ref qt, .ref ql, .ref qn, .ref qe, .ref qr, .ref qz, .int fp])), (qd, .inr (1, [.ref qw, .int (bI true), .int lf, .int (nI dn)])), (qw, .inl (cyI, 512, .inl w))] sz)) 0 0 (va_A [(q4, .inr (3, [.ref qd, .ref qc, .ref qt, .ref ql, .ref qn, .ref qe, .ref qr, .ref qz, .int fp])), (qd, .inr (1, [.ref qw, .int (bI true), .int lf, .int (nI dn)])), (qw, .inl (cyI, 512, .inl w))] sz) := by
  refine Met.ofW (cc := cX4_power) (maxL := 3) (ret := (some .int)) (by decide) rfl ?_
  intro pz ez sS mM args below meth cC s₁ B hml hv
  obtain ⟨rfl, hsz, hP, hK, hD0⟩ := hv
  have hx := B.exec
  have hb := B.bytes
  have hr := B.returns
  have hts := atoms_spec (ws := wsX4_power) B.pre
  have hown : sS.vm.findClass RX4 = some mM.cls := findClass_of_methodNamed B.named
  have hlocks := B.notSynchronized
  subst hsz
  have hD := hD0.self (sz := sS.heap.size)
  generalize hAe : va_A [(q4, .inr (3, [.ref qd, .ref qc, .ref qt, .ref ql, .ref qn, .ref qe, .ref qr, .ref qz, .int fp])), (qd, .inr (1, [.ref qw, .int (bI true), .int lf, .int (nI dn)])), (qw, .inl (cyI, 512, .inl w))] sS.heap.size = A at hD ⊢
  have hA : ∀ q : Nat, sS.heap.size ≤ q → A q := fun q h => by rw [← hAe]; exact Or.inr h
  have hS : va_S A sS.heap sS.heap [] := va_S.rf
  have hP : va_P (dC, dI) vwCl [(q4, .inr (3, [.ref qd, .ref qc, .ref qt, .ref ql, .ref qn, .ref qe, .ref qr, .ref qz, .int fp])), (qd, .inr (1, [.ref qw, .int (bI true), .int lf, .int (nI dn)])), (qw, .inl (cyI, 512, .inl w))] sS.heap := hP
  have iwX4 : ∀ w ∈ wsX40, w ∈ wsX4_power := by decide +kernel
  have fk10 := hts (.fieldLink RX4 10 "CodedStore" "disk" "LCodedStore$Disk;") (by decide +kernel)
  have hl := lv_entry ([.ref q4, .int xx]) (n := 3) (Nat.le_of_ble_eq_true rfl)
  rw [lg_entry_eq]
  generalize (lg_sl ([.ref q4, .int xx]) ++ List.replicate (3 - (lg_sl ([.ref q4, .int xx])).length) Slot.unset).toArray = ls at hl ⊢
  have hl : lv_has ls 3 [(0, .ref q4), (1, .int xx)] := hl
  refine lv_iload_n hx hb dX4_power_0 rfl (lv_at hl 1 rfl) ?_
  refine lv_iconst (v := (-1)) hx hb dX4_power_1 (by decide) ?_
  refine lv_icmp_lt (tgt := 12) hx hb dX4_power_2 (by decide) (fun c_2 => ?_) (fun c_2 => ?_)
  ·
    exfalso
    exact HOK (Or.inl c_2)
  ·
    refine lv_iload_n hx hb dX4_power_5 rfl (lv_at hl 1 rfl) ?_
    refine lv_sipush (v := nI 1000) hx hb dX4_power_6 (by decide) ?_
    refine lv_icmp_le (tgt := 20) hx hb dX4_power_9 (by decide) (fun c_9 => ?_) (fun c_9 => ?_)
    ·
      refine lv_aload_n hx hb dX4_power_20 rfl (lv_at hl 0 rfl) ?_
      refine va_get (D := (dC, dI)) (ci := 3) (v := .ref qd) (C := RX4) (T := TX4) (N := 9) hx hb hts iwX4 hown hK hP 0 rfl rfl 0 (by decide) fk10 (fun _ h9 => h9) rfl dX4_power_21 ?_
      have hPc := hP.sub (ws' := [(qd, .inr (1, [.ref qw, .int (bI true), .int lf, .int (nI dn)])), (qw, .inl (cyI, 512, .inl w))]) [1, 2] rfl
      have hKc := hK.sub (tys' := [(cyI, .int), (cyZ, .boolean)]) [0, 1] rfl
      refine vp_callSi (va_Run.run (va_runV (As := []) (rest := []) ⟨hx, hb, hml, hown, hts⟩ (c_X2_isOn l dC dI cyI cyZ qd qw w true lf dn) (cwV 0 hts gX4_power_X2_isOn rfl rfl rfl (by decide +kernel) ⟨Nat.le_of_ble_eq_true rfl, Nat.le_of_ble_eq_true rfl⟩) ⟨zz_blR, va_recv hKc hPc (ci := 1) (q0 := 0) rfl rfl, fun U hU hW => ⟨rfl, by rw [hU]; exact hPc, va_K.moved hW.alike hKc⟩⟩ rfl rfl hl.1 rfl (lv_room (Nat.le_of_ble_eq_true rfl)) dX4_power_24 ⟨Nat.zero_le _, Nat.zero_le _⟩)) (fun r_24 hr_24 => ?_)
      have hr_24 : bI true = r_24 := Eq.symm hr_24
      subst hr_24
      refine lv_if_ne (tgt := 38) hx hb dX4_power_27 (by decide) (fun c_27 => ?_) (fun c_27 => absurd c_27 (by decide))
      refine lv_aload_n hx hb dX4_power_38 rfl (lv_at hl 0 rfl) ?_
      refine va_get (D := (dC, dI)) (ci := 3) (v := .ref qd) (C := RX4) (T := TX4) (N := 9) hx hb hts iwX4 hown hK hP 0 rfl rfl 0 (by decide) fk10 (fun _ h9 => h9) rfl dX4_power_39 ?_
      have hPc := hP.sub (ws' := [(qd, .inr (1, [.ref qw, .int (bI true), .int lf, .int (nI dn)])), (qw, .inl (cyI, 512, .inl w))]) [1, 2] rfl
      have hKc := hK.sub (tys' := [(cyI, .int), (cyZ, .boolean)]) [0, 1] rfl
      refine vp_callSi (va_Run.run (va_runV (As := []) (rest := []) ⟨hx, hb, hml, hown, hts⟩ (c_X2_writesLeft l dC dI cyI cyZ qd qw w true lf dn) (cwV 0 hts gX4_power_X2_writesLeft rfl rfl rfl (by decide +kernel) ⟨Nat.le_of_ble_eq_true rfl, Nat.le_of_ble_eq_true rfl⟩) ⟨zz_blR, va_recv hKc hPc (ci := 1) (q0 := 0) rfl rfl, fun U hU hW => ⟨rfl, by rw [hU]; exact hPc, va_K.moved hW.alike hKc⟩⟩ rfl rfl hl.1 rfl (lv_room (Nat.le_of_ble_eq_true rfl)) dX4_power_42 ⟨Nat.zero_le _, Nat.zero_le _⟩)) (fun r_42 hr_42 => ?_)
      have hr_42 : lf = r_42 := Eq.symm hr_42
      subst hr_42
      refine lv_istore_n (lv' := [(2, .int lf), (0, .ref q4), (1, .int xx)]) hx hb dX4_power_45 rfl hl (by decide) rfl (fun ls hl => ?_)
      refine lv_aload_n hx hb dX4_power_46 rfl (lv_at hl 1 rfl) ?_
      refine va_get (D := (dC, dI)) (ci := 3) (v := .ref qd) (C := RX4) (T := TX4) (N := 9) hx hb hts iwX4 hown hK hP 0 rfl rfl 0 (by decide) fk10 (fun _ h9 => h9) rfl dX4_power_47 ?_
      refine lv_iload_n hx hb dX4_power_50 rfl (lv_at hl 2 rfl) ?_
      have hPc := hP.sub (ws' := [(qd, .inr (1, [.ref qw, .int (bI true), .int lf, .int (nI dn)])), (qw, .inl (cyI, 512, .inl w))]) [1, 2] rfl
      have hKc := hK.sub (tys' := [(cyI, .int), (cyZ, .boolean)]) [0, 1] rfl
      have hDc := hD.sub (ws' := [(qd, .inr (1, [.ref qw, .int (bI true), .int lf, .int (nI dn)])), (qw, .inl (cyI, 512, .inl w))]) [1, 2] (by decide) rfl
      have hFc := va_free (wc := [(qd, .inr (1, [.ref qw, .int (bI true), .int lf, .int (nI dn)])), (qw, .inl (cyI, 512, .inl w))]) hD hS hA [1, 2] rfl
      refine va_callv (va_runV (As := [.int xx]) (rest := []) ⟨hx, hb, hml, hown, hts⟩ (c_X2_allowWrites l dC dI cyI cyZ qd qw sS.heap.size w true lf dn xx) (cwV 1 hts gX4_power_X2_allowWrites rfl rfl rfl (by decide +kernel) ⟨Nat.le_of_ble_eq_true rfl, Nat.le_of_ble_eq_true rfl⟩) ⟨zz_blW, va_recv hKc hPc (ci := 1) (q0 := 0) rfl rfl, fun U hU hW => ⟨rfl, by rw [hU], by rw [hU]; exact hPc, va_K.moved hW.alike hKc, hDc.weaken (fun _ _ _ _ => trivial)⟩⟩ rfl rfl hl.1 rfl (lv_room (Nat.le_of_ble_eq_true rfl)) dX4_power_51 ⟨Nat.zero_le _, Nat.zero_le _⟩) hS (fun q _ h => hFc q h) hFc (fun uU tS H1 locs ht9 hvm9 hw9 hB9 hz1 hk1 hS => ?_)
      obtain ⟨hP1, hK1, hD1⟩ := hB9
      rw [ht9] at hP1
      have hK1 := va_K.moved hvm9.symm hK1
      obtain ⟨hP, hD⟩ := va_join (wr := [(q4, .inr (3, [.ref qd, .ref qc, .ref qt, .ref ql, .ref qn, .ref qe, .ref qr, .ref qz, .int fp]))]) (w1 := [(qd, .inr (1, [.ref qw, .int (bI true), .int xx, .int (nI dn)])), (qw, .inl (cyI, 512, .inl w))]) hP hD [1, 2] [0] rfl rfl (by decide) (by decide) hk1 hFc hP1 hD1
      generalize H1 = H at hP hS ⊢
      have hP : va_P (dC, dI) vwCl [(q4, .inr (3, [.ref qd, .ref qc, .ref qt, .ref ql, .ref qn, .ref qe, .ref qr, .ref qz, .int fp])), (qd, .inr (1, [.ref qw, .int (bI true), .int xx, .int (nI dn)])), (qw, .inl (cyI, 512, .inl w))] H := hP
      have hD : va_D A [(q4, .inr (3, [.ref qd, .ref qc, .ref qt, .ref ql, .ref qn, .ref qe, .ref qr, .ref qz, .int fp])), (qd, .inr (1, [.ref qw, .int (bI true), .int xx, .int (nI dn)])), (qw, .inl (cyI, 512, .inl w))] := hD
      refine lv_iload_n hx hb dX4_power_54 rfl (lv_at hl 0 rfl) ?_
      have hP9 := hP.sub (ws' := [(q4, .inr (3, [.ref qd, .ref qc, .ref qt, .ref ql, .ref qn, .ref qe, .ref qr, .ref qz, .int fp])), (qd, .inr (1, [.ref qw, .int (bI true), .int xx, .int (nI dn)])), (qw, .inl (cyI, 512, .inl w))]) [0, 1, 2] rfl
      have hD9 := hD.sub (ws' := [(q4, .inr (3, [.ref qd, .ref qc, .ref qt, .ref ql, .ref qn, .ref qe, .ref qr, .ref qz, .int fp])), (qd, .inr (1, [.ref qw, .int (bI true), .int xx, .int (nI dn)])), (qw, .inl (cyI, 512, .inl w))]) [0, 1, 2] (by decide) rfl
      have hK9 := hK.sub (tys' := [(cyI, .int), (cyZ, .boolean)]) [0, 1] rfl
      exact W.iret hx hb hr (fun tS ht hW => ⟨⟨_, (), rfl, rfl, by rw [ht]; exact hP9, va_K.moved hW.alike hK9, hD9⟩, hS.F ht⟩) hS.2.2 dX4_power_55
    ·
      exfalso
      exact HOK (Or.inr (Int32.not_le.mp c_9))
set_option maxHeartbeats 4000000 in
set_option maxRecDepth 100000 in
theorem c_X4_word_bad (l : Launch) (dC : Nat → ClassId) (dI : Nat → Nat → Nat) (cyI cyZ : ClassId) (q4 qd qw qc qt ql qn qe qr qz : Nat) (sz : Nat) (hT : l.stackTraces = false) (fp : Int32) (w : Nat → Int32) (on : Bool) (lf : Int32) (dn : Nat) (xx yy : Int32) (HBAD : ¬ ∃ b i : Nat, xx = nI b ∧ b < 64 ∧ yy = nI i ∧ i < 8) : vx_Met l yX4_word wsX4_word ({ frames := 6, cells := 1, slots := 6, locals := 90 }) (va_Pc [.ref q4, .int xx, .int yy] (fun U => U.heap.size = sz ∧ va_P (dC, dI) vwCl [(q4, .inr (3, [.ref qd, .ref qc, .ref qt, .ref ql, .ref qn, .ref qe, .ref qr, .ref qz, .int fp])), (qd, .inr (1, [.ref qw, .int (bI on), .int lf, .int (nI dn)])), (qw, .inl (cyI, 512, .inl w))] U.heap ∧ va_K (dC, dI) vwCl [(cyI, .int), (cyZ, .boolean)] U ∧ va_D (fun _ => True) [(q4, .inr (3, [.ref qd, .ref qc, .ref qt, .ref ql, .ref qn, .ref qe, .ref qr, .ref qz, .int fp])), (qd, .inr (1, [.ref qw, .int (bI on), .int lf, .int (nI dn)])), (qw, .inl (cyI, 512, .inl w))] ∧ xq (va_A [(q4, .inr (3, [.ref qd, .ref qc, .ref qt, .ref ql, .ref qn, .ref qe, .ref qr, .ref qz, .int fp])), (qd, .inr (1, [.ref qw, .int (bI on), .int lf, .int (nI dn)])), (qw, .inl (cyI, 512, .inl w))] sz) U)) (va_Qi (S := Unit) (fun _ _ => False) (fun _ _ => False) (va_A [(q4, .inr (3, [.ref qd, .ref qc, .ref qt, .ref ql, .ref qn, .ref qe, .ref qr, .ref qz, .int fp])), (qd, .inr (1, [.ref qw, .int (bI on), .int lf, .int (nI dn)])), (qw, .inl (cyI, 512, .inl w))] sz)) (vx_X (S := Unit) (fun _ => True) (fun E _ tS => E = "java/lang/IndexOutOfBoundsException" ∧ va_P (dC, dI) vwCl [(q4, .inr (3, [.ref qd, .ref qc, .ref qt, .ref ql, .ref qn, .ref qe, .ref qr, .ref qz, .int fp])), (qd, .inr (1, [.ref qw, .int (bI on), .int lf, .int (nI dn)])), (qw, .inl (cyI, 512, .inl w))] tS.heap ∧ va_K (dC, dI) vwCl [(cyI, .int), (cyZ, .boolean)] tS ∧ va_D (va_A [(q4, .inr (3, [.ref qd, .ref qc, .ref qt, .ref ql, .ref qn, .ref qe, .ref qr, .ref qz, .int fp])), (qd, .inr (1, [.ref qw, .int (bI on), .int lf, .int (nI dn)])), (qw, .inl (cyI, 512, .inl w))] sz) [(q4, .inr (3, [.ref qd, .ref qc, .ref qt, .ref ql, .ref qn, .ref qe, .ref qr, .ref qz, .int fp])), (qd, .inr (1, [.ref qw, .int (bI on), .int lf, .int (nI dn)])), (qw, .inl (cyI, 512, .inl w))]) (va_A [(q4, .inr (3, [.ref qd, .ref qc, .ref qt, .ref ql, .ref qn, .ref qe, .ref qr, .ref qz, .int fp])), (qd, .inr (1, [.ref qw, .int (bI on), .int lf, .int (nI dn)])), (qw, .inl (cyI, 512, .inl w))] sz)) 1 6 (va_A [(q4, .inr (3, [.ref qd, .ref qc, .ref qt, .ref ql, .ref qn, .ref qe, .ref qr, .ref qz, .int fp])), (qd, .inr (1, [.ref qw, .int (bI on), .int lf, .int (nI dn)])), (qw, .inl (cyI, 512, .inl w))] sz) := by
  refine vx_ofW (cc := cX4_word) (maxL := 3) (ret := (some .int)) (by decide) rfl ?_
  intro pz ez sS mM args below meth cC s₁ B hml htab hv
  obtain ⟨rfl, hsz, hP, hK, hD0, hXQ⟩ := hv
  have hx := B.exec
  have hb := B.bytes
  have hr := B.returns
  have hts := atoms_spec (ws := wsX4_word) B.pre
  have hown : sS.vm.findClass RX4 = some mM.cls := findClass_of_methodNamed B.named
  have hlocks := B.notSynchronized
  subst hsz
  have hD := hD0.self (sz := sS.heap.size)
  generalize hAe : va_A [(q4, .inr (3, [.ref qd, .ref qc, .ref qt, .ref ql, .ref qn, .ref qe, .ref qr, .ref qz, .int fp])), (qd, .inr (1, [.ref qw, .int (bI on), .int lf, .int (nI dn)])), (qw, .inl (cyI, 512, .inl w))] sS.heap.size = A at hD hXQ ⊢
  have hA : ∀ q : Nat, sS.heap.size ≤ q → A q := fun q h => by rw [← hAe]; exact Or.inr h
  have hS : va_S A sS.heap sS.heap [] := va_S.rf
  have hP : va_P (dC, dI) vwCl [(q4, .inr (3, [.ref qd, .ref qc, .ref qt, .ref ql, .ref qn, .ref qe, .ref qr, .ref qz, .int fp])), (qd, .inr (1, [.ref qw, .int (bI on), .int lf, .int (nI dn)])), (qw, .inl (cyI, 512, .inl w))] sS.heap := hP
  have hl := lv_entry ([.ref q4, .int xx, .int yy]) (n := 3) (Nat.le_of_ble_eq_true rfl)
  rw [lg_entry_eq]
  generalize (lg_sl ([.ref q4, .int xx, .int yy]) ++ List.replicate (3 - (lg_sl ([.ref q4, .int xx, .int yy])).length) Slot.unset).toArray = ls at hl ⊢
  have hl : lv_has ls 3 [(0, .ref q4), (1, .int xx), (2, .int yy)] := hl
  refine lv_iload_n hx hb dX4_word_0 rfl (lv_at hl 1 rfl) ?_
  refine lv_if_lt (tgt := 20) hx hb dX4_word_1 (by decide) (fun c_1 => ?_) (fun c_1 => ?_)
  ·
    refine vx_throw0 (A := A) (names := ["java/lang/RuntimeException", "java/lang/Exception"]) hx hb hT hown (by decide +kernel) (by decide +kernel) (hts (.classLink RX4 134 "java/lang/IndexOutOfBoundsException") (by decide +kernel)) (hts (.initialized "java/lang/IndexOutOfBoundsException") (by decide +kernel)) (vx_hat (B := xqW) (fun w h => hts w (List.mem_cons_of_mem _ (List.mem_append_right _ h))) (by decide +kernel) (fun w hw => (hXQ.1 w hw).use (xqW_on w hw))) (by decide +kernel) hXQ.2.1 hXQ.2.2.1 hS (hl.1.trans hml.symm) dX4_word_20 dX4_word_23 dX4_word_24 dX4_word_27 (fun x h => (htab x h).elim) (Nat.le_of_ble_eq_true rfl) (Nat.le_of_ble_eq_true rfl) (Nat.le_of_ble_eq_true rfl) (Nat.le_of_ble_eq_true rfl) hlocks ?_ hS.2.2 (Nat.le_refl _) (Nat.le_refl _)
    exact fun tS h1 h2 h3 => ⟨(), trivial, ⟨rfl, hP.kept (fun k q hk => h3 q.1 (vx_lt hP hk)), va_K.moved h1 hK, hD⟩, Nat.le_trans hS.1 h2, fun q hq hA9 => (h3 q (Nat.lt_of_lt_of_le hq hS.1)).trans (hS.2.1 q hq hA9)⟩
  ·
    refine lv_iload_n hx hb dX4_word_4 rfl (lv_at hl 1 rfl) ?_
    refine lv_bipush (v := nI 64) hx hb dX4_word_5 (by decide) ?_
    refine lv_icmp_ge (tgt := 20) hx hb dX4_word_7 (by decide) (fun c_7 => ?_) (fun c_7 => ?_)
    ·
      refine vx_throw0 (A := A) (names := ["java/lang/RuntimeException", "java/lang/Exception"]) hx hb hT hown (by decide +kernel) (by decide +kernel) (hts (.classLink RX4 134 "java/lang/IndexOutOfBoundsException") (by decide +kernel)) (hts (.initialized "java/lang/IndexOutOfBoundsException") (by decide +kernel)) (vx_hat (B := xqW) (fun w h => hts w (List.mem_cons_of_mem _ (List.mem_append_right _ h))) (by decide +kernel) (fun w hw => (hXQ.1 w hw).use (xqW_on w hw))) (by decide +kernel) hXQ.2.1 hXQ.2.2.1 hS (hl.1.trans hml.symm) dX4_word_20 dX4_word_23 dX4_word_24 dX4_word_27 (fun x h => (htab x h).elim) (Nat.le_of_ble_eq_true rfl) (Nat.le_of_ble_eq_true rfl) (Nat.le_of_ble_eq_true rfl) (Nat.le_of_ble_eq_true rfl) hlocks ?_ hS.2.2 (Nat.le_refl _) (Nat.le_refl _)
      exact fun tS h1 h2 h3 => ⟨(), trivial, ⟨rfl, hP.kept (fun k q hk => h3 q.1 (vx_lt hP hk)), va_K.moved h1 hK, hD⟩, Nat.le_trans hS.1 h2, fun q hq hA9 => (h3 q (Nat.lt_of_lt_of_le hq hS.1)).trans (hS.2.1 q hq hA9)⟩
    ·
      refine lv_iload_n hx hb dX4_word_10 rfl (lv_at hl 2 rfl) ?_
      refine lv_if_lt (tgt := 20) hx hb dX4_word_11 (by decide) (fun c_11 => ?_) (fun c_11 => ?_)
      ·
        refine vx_throw0 (A := A) (names := ["java/lang/RuntimeException", "java/lang/Exception"]) hx hb hT hown (by decide +kernel) (by decide +kernel) (hts (.classLink RX4 134 "java/lang/IndexOutOfBoundsException") (by decide +kernel)) (hts (.initialized "java/lang/IndexOutOfBoundsException") (by decide +kernel)) (vx_hat (B := xqW) (fun w h => hts w (List.mem_cons_of_mem _ (List.mem_append_right _ h))) (by decide +kernel) (fun w hw => (hXQ.1 w hw).use (xqW_on w hw))) (by decide +kernel) hXQ.2.1 hXQ.2.2.1 hS (hl.1.trans hml.symm) dX4_word_20 dX4_word_23 dX4_word_24 dX4_word_27 (fun x h => (htab x h).elim) (Nat.le_of_ble_eq_true rfl) (Nat.le_of_ble_eq_true rfl) (Nat.le_of_ble_eq_true rfl) (Nat.le_of_ble_eq_true rfl) hlocks ?_ hS.2.2 (Nat.le_refl _) (Nat.le_refl _)
        exact fun tS h1 h2 h3 => ⟨(), trivial, ⟨rfl, hP.kept (fun k q hk => h3 q.1 (vx_lt hP hk)), va_K.moved h1 hK, hD⟩, Nat.le_trans hS.1 h2, fun q hq hA9 => (h3 q (Nat.lt_of_lt_of_le hq hS.1)).trans (hS.2.1 q hq hA9)⟩
      ·
        refine lv_iload_n hx hb dX4_word_14 rfl (lv_at hl 2 rfl) ?_
        refine lv_bipush (v := nI 8) hx hb dX4_word_15 (by decide) ?_
        refine lv_icmp_lt (tgt := 28) hx hb dX4_word_17 (by decide) (fun c_17 => ?_) (fun c_17 => ?_)
        ·
          exfalso
          obtain ⟨b, h1, h2⟩ := i_0lt (n := 64) (by decide) c_1 (Int32.not_le.mp c_7)
          obtain ⟨i, h3, h4⟩ := i_0lt (n := 8) (by decide) c_11 c_17
          exact HBAD ⟨b, i, h2, h1, h4, h3⟩
        ·
          refine vx_throw0 (A := A) (names := ["java/lang/RuntimeException", "java/lang/Exception"]) hx hb hT hown (by decide +kernel) (by decide +kernel) (hts (.classLink RX4 134 "java/lang/IndexOutOfBoundsException") (by decide +kernel)) (hts (.initialized "java/lang/IndexOutOfBoundsException") (by decide +kernel)) (vx_hat (B := xqW) (fun w h => hts w (List.mem_cons_of_mem _ (List.mem_append_right _ h))) (by decide +kernel) (fun w hw => (hXQ.1 w hw).use (xqW_on w hw))) (by decide +kernel) hXQ.2.1 hXQ.2.2.1 hS (hl.1.trans hml.symm) dX4_word_20 dX4_word_23 dX4_word_24 dX4_word_27 (fun x h => (htab x h).elim) (Nat.le_of_ble_eq_true rfl) (Nat.le_of_ble_eq_true rfl) (Nat.le_of_ble_eq_true rfl) (Nat.le_of_ble_eq_true rfl) hlocks ?_ hS.2.2 (Nat.le_refl _) (Nat.le_refl _)
          exact fun tS h1 h2 h3 => ⟨(), trivial, ⟨rfl, hP.kept (fun k q hk => h3 q.1 (vx_lt hP hk)), va_K.moved h1 hK, hD⟩, Nat.le_trans hS.1 h2, fun q hq hA9 => (h3 q (Nat.lt_of_lt_of_le hq hS.1)).trans (hS.2.1 q hq hA9)⟩
set_option maxHeartbeats 4000000 in
set_option maxRecDepth 100000 in
theorem c_X4_word_ok (l : Launch) (dC : Nat → ClassId) (dI : Nat → Nat → Nat) (cyI cyZ : ClassId) (q4 qd qw qc qt ql qn qe qr qz : Nat) (sz : Nat) (fp : Int32) (w : Nat → Int32) (on : Bool) (lf : Int32) (dn : Nat) (b i : Nat) (hb9 : b < 64) (hi : i < 8) : Met l yX4_word wsX4_word ({ frames := 6, cells := 0, slots := 0, locals := 90 }) (va_Pc [.ref q4, .int (nI b), .int (nI i)] (fun U => U.heap.size = sz ∧ va_P (dC, dI) vwCl [(q4, .inr (3, [.ref qd, .ref qc, .ref qt, .ref ql, .ref qn, .ref qe, .ref qr, .ref qz, .int fp])), (qd, .inr (1, [.ref qw, .int (bI on), .int lf, .int (nI dn)])), (qw, .inl (cyI, 512, .inl w))] U.heap ∧ va_K (dC, dI) vwCl [(cyI, .int), (cyZ, .boolean)] U ∧ va_D (fun _ => True) [(q4, .inr (3, [.ref qd, .ref qc, .ref qt, .ref ql, .ref qn, .ref qe, .ref qr, .ref qz, .int fp])), (qd, .inr (1, [.ref qw, .int (bI on), .int lf, .int (nI dn)])), (qw, .inl (cyI, 512, .inl w))])) (va_Qi (S := Unit) (fun (r : Int32) (_ : Unit) => r = w (8 * b + i)) (fun (_ : Unit) tS => va_P (dC, dI) vwCl [(q4, .inr (3, [.ref qd, .ref qc, .ref qt, .ref ql, .ref qn, .ref qe, .ref qr, .ref qz, .int fp])), (qd, .inr (1, [.ref qw, .int (bI on), .int lf, .int (nI dn)])), (qw, .inl (cyI, 512, .inl w))] tS.heap ∧ va_K (dC, dI) vwCl [(cyI, .int), (cyZ, .boolean)] tS ∧ va_D (va_A [(q4, .inr (3, [.ref qd, .ref qc, .ref qt, .ref ql, .ref qn, .ref qe, .ref qr, .ref qz, .int fp])), (qd, .inr (1, [.ref qw, .int (bI on), .int lf, .int (nI dn)])), (qw, .inl (cyI, 512, .inl w))] sz) [(q4, .inr (3, [.ref qd, .ref qc, .ref qt, .ref ql, .ref qn, .ref qe, .ref qr, .ref qz, .int fp])), (qd, .inr (1, [.ref qw, .int (bI on), .int lf, .int (nI dn)])), (qw, .inl (cyI, 512, .inl w))]) (va_A [(q4, .inr (3, [.ref qd, .ref qc, .ref qt, .ref ql, .ref qn, .ref qe, .ref qr, .ref qz, .int fp])), (qd, .inr (1, [.ref qw, .int (bI on), .int lf, .int (nI dn)])), (qw, .inl (cyI, 512, .inl w))] sz)) 0 0 (va_A [(q4, .inr (3, [.ref qd, .ref qc, .ref qt, .ref ql, .ref qn, .ref qe, .ref qr, .ref qz, .int fp])), (qd, .inr (1, [.ref qw, .int (bI on), .int lf, .int (nI dn)])), (qw, .inl (cyI, 512, .inl w))] sz) := by
  refine Met.ofW (cc := cX4_word) (maxL := 3) (ret := (some .int)) (by decide) rfl ?_
  intro pz ez sS mM args below meth cC s₁ B hml hv
  obtain ⟨rfl, hsz, hP, hK, hD0⟩ := hv
  have hx := B.exec
  have hb := B.bytes
  have hr := B.returns
  have hts := atoms_spec (ws := wsX4_word) B.pre
  have hown : sS.vm.findClass RX4 = some mM.cls := findClass_of_methodNamed B.named
  have hlocks := B.notSynchronized
  subst hsz
  have hD := hD0.self (sz := sS.heap.size)
  generalize hAe : va_A [(q4, .inr (3, [.ref qd, .ref qc, .ref qt, .ref ql, .ref qn, .ref qe, .ref qr, .ref qz, .int fp])), (qd, .inr (1, [.ref qw, .int (bI on), .int lf, .int (nI dn)])), (qw, .inl (cyI, 512, .inl w))] sS.heap.size = A at hD ⊢
  have hA : ∀ q : Nat, sS.heap.size ≤ q → A q := fun q h => by rw [← hAe]; exact Or.inr h
  have hS : va_S A sS.heap sS.heap [] := va_S.rf
  have hP : va_P (dC, dI) vwCl [(q4, .inr (3, [.ref qd, .ref qc, .ref qt, .ref ql, .ref qn, .ref qe, .ref qr, .ref qz, .int fp])), (qd, .inr (1, [.ref qw, .int (bI on), .int lf, .int (nI dn)])), (qw, .inl (cyI, 512, .inl w))] sS.heap := hP
  have iwX4 : ∀ w ∈ wsX40, w ∈ wsX4_word := by decide +kernel
  have fk10 := hts (.fieldLink RX4 10 "CodedStore" "disk" "LCodedStore$Disk;") (by decide +kernel)
  have hl := lv_entry ([.ref q4, .int (nI b), .int (nI i)]) (n := 3) (Nat.le_of_ble_eq_true rfl)
  rw [lg_entry_eq]
  generalize (lg_sl ([.ref q4, .int (nI b), .int (nI i)]) ++ List.replicate (3 - (lg_sl ([.ref q4, .int (nI b), .int (nI i)])).length) Slot.unset).toArray = ls at hl ⊢
  have hl : lv_has ls 3 [(0, .ref q4), (1, .int (nI b)), (2, .int (nI i))] := hl
  refine lv_iload_n hx hb dX4_word_0 rfl (lv_at hl 1 rfl) ?_
  refine zn_if_lt (tgt := 20) hx hb dX4_word_1 (by decide) (by omega) ?_
  refine lv_iload_n hx hb dX4_word_4 rfl (lv_at hl 1 rfl) ?_
  refine lv_bipush (v := nI 64) hx hb dX4_word_5 (by decide) ?_
  refine zn_icmp_ge (tgt := 20) hx hb dX4_word_7 (by decide) (by omega) (by omega) (fun c_7 => ?_) (fun c_7 => ?_)
  ·
    exfalso
    omega
  ·
    refine lv_iload_n hx hb dX4_word_10 rfl (lv_at hl 2 rfl) ?_
    refine zn_if_lt (tgt := 20) hx hb dX4_word_11 (by decide) (by omega) ?_
    refine lv_iload_n hx hb dX4_word_14 rfl (lv_at hl 2 rfl) ?_
    refine lv_bipush (v := nI 8) hx hb dX4_word_15 (by decide) ?_
    refine zn_icmp_lt (tgt := 28) hx hb dX4_word_17 (by decide) (by omega) (by omega) (fun c_17 => ?_) (fun c_17 => ?_)
    ·
      refine lv_aload_n hx hb dX4_word_28 rfl (lv_at hl 0 rfl) ?_
      refine va_get (D := (dC, dI)) (ci := 3) (v := .ref qd) (C := RX4) (T := TX4) (N := 9) hx hb hts iwX4 hown hK hP 0 rfl rfl 0 (by decide) fk10 (fun _ h9 => h9) rfl dX4_word_29 ?_
      refine lv_iload_n hx hb dX4_word_32 rfl (lv_at hl 1 rfl) ?_
      refine lv_iload_n hx hb dX4_word_33 rfl (lv_at hl 2 rfl) ?_
      have hPc := hP.sub (ws' := [(qd, .inr (1, [.ref qw, .int (bI on), .int lf, .int (nI dn)])), (qw, .inl (cyI, 512, .inl w))]) [1, 2] rfl
      have hKc := hK.sub (tys' := [(cyI, .int), (cyZ, .boolean)]) [0, 1] rfl
      refine vp_callSi (va_Run.run (va_runV (As := [.int (nI b), .int (nI i)]) (rest := []) ⟨hx, hb, hml, hown, hts⟩ (c_X2_wordAt l dC dI cyI cyZ qd qw w on lf dn b i (by omega) (by omega)) (cwV 2 hts gX4_word_X2_wordAt rfl rfl rfl (by decide +kernel) ⟨Nat.le_of_ble_eq_true rfl, Nat.le_of_ble_eq_true rfl⟩) ⟨zz_blR, va_recv hKc hPc (ci := 1) (q0 := 0) rfl rfl, fun U hU hW => ⟨rfl, by rw [hU]; exact hPc, va_K.moved hW.alike hKc⟩⟩ rfl rfl hl.1 rfl (lv_room (Nat.le_of_ble_eq_true rfl)) dX4_word_34 ⟨Nat.zero_le _, Nat.zero_le _⟩)) (fun r_34 hr_34 => ?_)
      have hr_34 : w (8 * b + i) = r_34 := Eq.symm hr_34
      subst hr_34
      have hP9 := hP.sub (ws' := [(q4, .inr (3, [.ref qd, .ref qc, .ref qt, .ref ql, .ref qn, .ref qe, .ref qr, .ref qz, .int fp])), (qd, .inr (1, [.ref qw, .int (bI on), .int lf, .int (nI dn)])), (qw, .inl (cyI, 512, .inl w))]) [0, 1, 2] rfl
      have hD9 := hD.sub (ws' := [(q4, .inr (3, [.ref qd, .ref qc, .ref qt, .ref ql, .ref qn, .ref qe, .ref qr, .ref qz, .int fp])), (qd, .inr (1, [.ref qw, .int (bI on), .int lf, .int (nI dn)])), (qw, .inl (cyI, 512, .inl w))]) [0, 1, 2] (by decide) rfl
      have hK9 := hK.sub (tys' := [(cyI, .int), (cyZ, .boolean)]) [0, 1] rfl
      exact W.iret hx hb hr (fun tS ht hW => ⟨⟨_, (), rfl, rfl, by rw [ht]; exact hP9, va_K.moved hW.alike hK9, hD9⟩, hS.F ht⟩) hS.2.2 dX4_word_37
    ·
      exfalso
      omega
set_option maxHeartbeats 4000000 in
set_option maxRecDepth 100000 in
theorem c_X4_told_bad (l : Launch) (dC : Nat → ClassId) (dI : Nat → Nat → Nat) (cyI cyZ : ClassId) (q4 qd qw qc qt ql qn qe qr qz : Nat) (sz : Nat) (hT : l.stackTraces = false) (fp : Int32) (w : Nat → Int32) (on : Bool) (lf : Int32) (dn : Nat) (xx : Int32) (HBAD : ¬ ∃ q : Nat, xx = nI q ∧ q ≤ 7) : vx_Met l yX4_told wsX4_told ({ frames := 6, cells := 1, slots := 6, locals := 107 }) (va_Pc [.ref q4, .int xx] (fun U => U.heap.size = sz ∧ va_P (dC, dI) vwCl [(q4, .inr (3, [.ref qd, .ref qc, .ref qt, .ref ql, .ref qn, .ref qe, .ref qr, .ref qz, .int fp])), (qd, .inr (1, [.ref qw, .int (bI on), .int lf, .int (nI dn)])), (qw, .inl (cyI, 512, .inl w))] U.heap ∧ va_K (dC, dI) vwCl [(cyI, .int), (cyZ, .boolean)] U ∧ va_D (fun _ => True) [(q4, .inr (3, [.ref qd, .ref qc, .ref qt, .ref ql, .ref qn, .ref qe, .ref qr, .ref qz, .int fp])), (qd, .inr (1, [.ref qw, .int (bI on), .int lf, .int (nI dn)])), (qw, .inl (cyI, 512, .inl w))] ∧ xq (va_A [(q4, .inr (3, [.ref qd, .ref qc, .ref qt, .ref ql, .ref qn, .ref qe, .ref qr, .ref qz, .int fp])), (qd, .inr (1, [.ref qw, .int (bI on), .int lf, .int (nI dn)])), (qw, .inl (cyI, 512, .inl w))] sz) U)) (va_Qi (S := Unit) (fun _ _ => False) (fun _ _ => False) (va_A [(q4, .inr (3, [.ref qd, .ref qc, .ref qt, .ref ql, .ref qn, .ref qe, .ref qr, .ref qz, .int fp])), (qd, .inr (1, [.ref qw, .int (bI on), .int lf, .int (nI dn)])), (qw, .inl (cyI, 512, .inl w))] sz)) (vx_X (S := Unit) (fun _ => True) (fun E _ tS => E = "java/lang/IndexOutOfBoundsException" ∧ va_P (dC, dI) vwCl [(q4, .inr (3, [.ref qd, .ref qc, .ref qt, .ref ql, .ref qn, .ref qe, .ref qr, .ref qz, .int fp])), (qd, .inr (1, [.ref qw, .int (bI on), .int lf, .int (nI dn)])), (qw, .inl (cyI, 512, .inl w))] tS.heap ∧ va_K (dC, dI) vwCl [(cyI, .int), (cyZ, .boolean)] tS ∧ va_D (va_A [(q4, .inr (3, [.ref qd, .ref qc, .ref qt, .ref ql, .ref qn, .ref qe, .ref qr, .ref qz, .int fp])), (qd, .inr (1, [.ref qw, .int (bI on), .int lf, .int (nI dn)])), (qw, .inl (cyI, 512, .inl w))] sz) [(q4, .inr (3, [.ref qd, .ref qc, .ref qt, .ref ql, .ref qn, .ref qe, .ref qr, .ref qz, .int fp])), (qd, .inr (1, [.ref qw, .int (bI on), .int lf, .int (nI dn)])), (qw, .inl (cyI, 512, .inl w))]) (va_A [(q4, .inr (3, [.ref qd, .ref qc, .ref qt, .ref ql, .ref qn, .ref qe, .ref qr, .ref qz, .int fp])), (qd, .inr (1, [.ref qw, .int (bI on), .int lf, .int (nI dn)])), (qw, .inl (cyI, 512, .inl w))] sz)) 1 6 (va_A [(q4, .inr (3, [.ref qd, .ref qc, .ref qt, .ref ql, .ref qn, .ref qe, .ref qr, .ref qz, .int fp])), (qd, .inr (1, [.ref qw, .int (bI on), .int lf, .int (nI dn)])), (qw, .inl (cyI, 512, .inl w))] sz) := by
  refine vx_ofW (cc := cX4_told) (maxL := 2) (ret := (some .int)) (by decide) rfl ?_
  intro pz ez sS mM args below meth cC s₁ B hml htab hv
  obtain ⟨rfl, hsz, hP, hK, hD0, hXQ⟩ := hv
  have hx := B.exec
  have hb := B.bytes
  have hr := B.returns
  have hts := atoms_spec (ws := wsX4_told) B.pre
  have hown : sS.vm.findClass RX4 = some mM.cls := findClass_of_methodNamed B.named
  have hlocks := B.notSynchronized
  subst hsz
  have hD := hD0.self (sz := sS.heap.size)
  generalize hAe : va_A [(q4, .inr (3, [.ref qd, .ref qc, .ref qt, .ref ql, .ref qn, .ref qe, .ref qr, .ref qz, .int fp])), (qd, .inr (1, [.ref qw, .int (bI on), .int lf, .int (nI dn)])), (qw, .inl (cyI, 512, .inl w))] sS.heap.size = A at hD hXQ ⊢
  have hA : ∀ q : Nat, sS.heap.size ≤ q → A q := fun q h => by rw [← hAe]; exact Or.inr h
  have hS : va_S A sS.heap sS.heap [] := va_S.rf
  have hP : va_P (dC, dI) vwCl [(q4, .inr (3, [.ref qd, .ref qc, .ref qt, .ref ql, .ref qn, .ref qe, .ref qr, .ref qz, .int fp])), (qd, .inr (1, [.ref qw, .int (bI on), .int lf, .int (nI dn)])), (qw, .inl (cyI, 512, .inl w))] sS.heap := hP
  have hl := lv_entry ([.ref q4, .int xx]) (n := 2) (Nat.le_of_ble_eq_true rfl)
  rw [lg_entry_eq]
  generalize (lg_sl ([.ref q4, .int xx]) ++ List.replicate (2 - (lg_sl ([.ref q4, .int xx])).length) Slot.unset).toArray = ls at hl ⊢
  have hl : lv_has ls 2 [(0, .ref q4), (1, .int xx)] := hl
  refine lv_iload_n hx hb dX4_told_0 rfl (lv_at hl 1 rfl) ?_
  refine lv_tableOut (tgt := 123) hx hb dX4_told_1 (i_tab (n := 7) (by decide) HBAD) (by decide) ?_
  refine vx_throw0 (A := A) (names := ["java/lang/RuntimeException", "java/lang/Exception"]) hx hb hT hown (by decide +kernel) (by decide +kernel) (hts (.classLink RX4 134 "java/lang/IndexOutOfBoundsException") (by decide +kernel)) (hts (.initialized "java/lang/IndexOutOfBoundsException") (by decide +kernel)) (vx_hat (B := xqW) (fun w h => hts w (List.mem_cons_of_mem _ (List.mem_append_right _ h))) (by decide +kernel) (fun w hw => (hXQ.1 w hw).use (xqW_on w hw))) (by decide +kernel) hXQ.2.1 hXQ.2.2.1 hS (hl.1.trans hml.symm) dX4_told_123 dX4_told_126 dX4_told_127 dX4_told_130 (fun x h => (htab x h).elim) (Nat.le_of_ble_eq_true rfl) (Nat.le_of_ble_eq_true rfl) (Nat.le_of_ble_eq_true rfl) (Nat.le_of_ble_eq_true rfl) hlocks ?_ hS.2.2 (Nat.le_refl _) (Nat.le_refl _)
  exact fun tS h1 h2 h3 => ⟨(), trivial, ⟨rfl, hP.kept (fun k q hk => h3 q.1 (vx_lt hP hk)), va_K.moved h1 hK, hD⟩, Nat.le_trans hS.1 h2, fun q hq hA9 => (h3 q (Nat.lt_of_lt_of_le hq hS.1)).trans (hS.2.1 q hq hA9)⟩
set_option maxHeartbeats 4000000 in
set_option maxRecDepth 100000 in
theorem c_X4_told_ok (l : Launch) (dC : Nat → ClassId) (dI : Nat → Nat → Nat) (cyI cyZ : ClassId) (q4 qd qw qc qwh qlv qt qta ql qn qe qr qz : Nat) (sz : Nat) (fp : Int32) (w : Nat → Int32) (on : Bool) (lf : Int32) (dn : Nat) (WH LV : Nat → Int32) (sa : Int32) (T : Nat → Int32) (n : Nat) (j : Nat) (hj7 : j ≤ 7) (HS : sa = nI dn → ∀ j, j < 64 → LV j = bI (kLive w j)) : Met l yX4_told wsX4_told ({ frames := 6, cells := 0, slots := 0, locals := 107 }) (va_Pc [.ref q4, .int (nI j)] (fun U => U.heap.size = sz ∧ va_P (dC, dI) vwCl [(q4, .inr (3, [.ref qd, .ref qc, .ref qt, .ref ql, .ref qn, .ref qe, .ref qr, .ref qz, .int fp])), (qd, .inr (1, [.ref qw, .int (bI on), .int lf, .int (nI dn)])), (qw, .inl (cyI, 512, .inl w)), (qc, .inr (0, [.ref qd, .ref qwh, .ref qlv, .int sa])), (qwh, .inl (cyZ, 64, .inl WH)), (qlv, .inl (cyZ, 64, .inl LV)), (qt, .inr (2, [.ref qta, .int (nI n)])), (qta, .inl (cyI, 450, .inl T))] U.heap ∧ va_K (dC, dI) vwCl [(cyI, .int), (cyZ, .boolean)] U ∧ va_D (fun _ => True) [(q4, .inr (3, [.ref qd, .ref qc, .ref qt, .ref ql, .ref qn, .ref qe, .ref qr, .ref qz, .int fp])), (qd, .inr (1, [.ref qw, .int (bI on), .int lf, .int (nI dn)])), (qw, .inl (cyI, 512, .inl w)), (qc, .inr (0, [.ref qd, .ref qwh, .ref qlv, .int sa])), (qwh, .inl (cyZ, 64, .inl WH)), (qlv, .inl (cyZ, 64, .inl LV)), (qt, .inr (2, [.ref qta, .int (nI n)])), (qta, .inl (cyI, 450, .inl T))])) (va_Qi (S := (Nat → Int32) × (Nat → Int32) × Int32) (fun (r : Int32) (uU : (Nat → Int32) × (Nat → Int32) × Int32) => match uU with | (WH1, LV1, sa1) => r = zTold w on dn n j ∧ (sa1 = nI dn → ∀ j, j < 64 → LV1 j = bI (kLive w j))) (fun (uU : (Nat → Int32) × (Nat → Int32) × Int32) tS => match uU with | (WH1, LV1, sa1) => va_P (dC, dI) vwCl [(q4, .inr (3, [.ref qd, .ref qc, .ref qt, .ref ql, .ref qn, .ref qe, .ref qr, .ref qz, .int fp])), (qd, .inr (1, [.ref qw, .int (bI on), .int lf, .int (nI dn)])), (qw, .inl (cyI, 512, .inl w)), (qc, .inr (0, [.ref qd, .ref qwh, .ref qlv, .int sa1])), (qwh, .inl (cyZ, 64, .inl WH1)), (qlv, .inl (cyZ, 64, .inl LV1)), (qt, .inr (2, [.ref qta, .int (nI n)])), (qta, .inl (cyI, 450, .inl T))] tS.heap ∧ va_K (dC, dI) vwCl [(cyI, .int), (cyZ, .boolean)] tS ∧ va_D (va_A [(q4, .inr (3, [.ref qd, .ref qc, .ref qt, .ref ql, .ref qn, .ref qe, .ref qr, .ref qz, .int fp])), (qd, .inr (1, [.ref qw, .int (bI on), .int lf, .int (nI dn)])), (qw, .inl (cyI, 512, .inl w)), (qc, .inr (0, [.ref qd, .ref qwh, .ref qlv, .int sa])), (qwh, .inl (cyZ, 64, .inl WH)), (qlv, .inl (cyZ, 64, .inl LV)), (qt, .inr (2, [.ref qta, .int (nI n)])), (qta, .inl (cyI, 450, .inl T))] sz) [(q4, .inr (3, [.ref qd, .ref qc, .ref qt, .ref ql, .ref qn, .ref qe, .ref qr, .ref qz, .int fp])), (qd, .inr (1, [.ref qw, .int (bI on), .int lf, .int (nI dn)])), (qw, .inl (cyI, 512, .inl w)), (qc, .inr (0, [.ref qd, .ref qwh, .ref qlv, .int sa1])), (qwh, .inl (cyZ, 64, .inl WH1)), (qlv, .inl (cyZ, 64, .inl LV1)), (qt, .inr (2, [.ref qta, .int (nI n)])), (qta, .inl (cyI, 450, .inl T))]) (va_A [(q4, .inr (3, [.ref qd, .ref qc, .ref qt, .ref ql, .ref qn, .ref qe, .ref qr, .ref qz, .int fp])), (qd, .inr (1, [.ref qw, .int (bI on), .int lf, .int (nI dn)])), (qw, .inl (cyI, 512, .inl w)), (qc, .inr (0, [.ref qd, .ref qwh, .ref qlv, .int sa])), (qwh, .inl (cyZ, 64, .inl WH)), (qlv, .inl (cyZ, 64, .inl LV)), (qt, .inr (2, [.ref qta, .int (nI n)])), (qta, .inl (cyI, 450, .inl T))] sz)) 0 0 (va_A [(q4, .inr (3, [.ref qd, .ref qc, .ref qt, .ref ql, .ref qn, .ref qe, .ref qr, .ref qz, .int fp])), (qd, .inr (1, [.ref qw, .int (bI on), .int lf, .int (nI dn)])), (qw, .inl (cyI, 512, .inl w)), (qc, .inr (0, [.ref qd, .ref qwh, .ref qlv, .int sa])), (qwh, .inl (cyZ, 64, .inl WH)), (qlv, .inl (cyZ, 64, .inl LV)), (qt, .inr (2, [.ref qta, .int (nI n)])), (qta, .inl (cyI, 450, .inl T))] sz) := by
  refine Met.ofW (cc := cX4_told) (maxL := 2) (ret := (some .int)) (by decide) rfl ?_
  intro pz ez sS mM args below meth cC s₁ B hml hv
  obtain ⟨rfl, hsz, hP, hK, hD0⟩ := hv
  have hx := B.exec
  have hb := B.bytes
  have hr := B.returns
  have hts := atoms_spec (ws := wsX4_told) B.pre
  have hown : sS.vm.findClass RX4 = some mM.cls := findClass_of_methodNamed B.named
  have hlocks := B.notSynchronized
  subst hsz
  have hD := hD0.self (sz := sS.heap.size)
  generalize hAe : va_A [(q4, .inr (3, [.ref qd, .ref qc, .ref qt, .ref ql, .ref qn, .ref qe, .ref qr, .ref qz, .int fp])), (qd, .inr (1, [.ref qw, .int (bI on), .int lf, .int (nI dn)])), (qw, .inl (cyI, 512, .inl w)), (qc, .inr (0, [.ref qd, .ref qwh, .ref qlv, .int sa])), (qwh, .inl (cyZ, 64, .inl WH)), (qlv, .inl (cyZ, 64, .inl LV)), (qt, .inr (2, [.ref qta, .int (nI n)])), (qta, .inl (cyI, 450, .inl T))] sS.heap.size = A at hD ⊢
  have hA : ∀ q : Nat, sS.heap.size ≤ q → A q := fun q h => by rw [← hAe]; exact Or.inr h
  have hS : va_S A sS.heap sS.heap [] := va_S.rf
  have hP : va_P (dC, dI) vwCl [(q4, .inr (3, [.ref qd, .ref qc, .ref qt, .ref ql, .ref qn, .ref qe, .ref qr, .ref qz, .int fp])), (qd, .inr (1, [.ref qw, .int (bI on), .int lf, .int (nI dn)])), (qw, .inl (cyI, 512, .inl w)), (qc, .inr (0, [.ref qd, .ref qwh, .ref qlv, .int sa])), (qwh, .inl (cyZ, 64, .inl WH)), (qlv, .inl (cyZ, 64, .inl LV)), (qt, .inr (2, [.ref qta, .int (nI n)])), (qta, .inl (cyI, 450, .inl T))] sS.heap := hP
  have iwX4 : ∀ w ∈ wsX40, w ∈ wsX4_told := by decide +kernel
  have fk10 := hts (.fieldLink RX4 10 "CodedStore" "disk" "LCodedStore$Disk;") (by decide +kernel)
  have fk28 := hts (.fieldLink RX4 28 "CodedStore" "tape" "LCodedStore$Octets;") (by decide +kernel)
  have hl := lv_entry ([.ref q4, .int (nI j)]) (n := 2) (Nat.le_of_ble_eq_true rfl)
  rw [lg_entry_eq]
  generalize (lg_sl ([.ref q4, .int (nI j)]) ++ List.replicate (2 - (lg_sl ([.ref q4, .int (nI j)])).length) Slot.unset).toArray = ls at hl ⊢
  have hl : lv_has ls 2 [(0, .ref q4), (1, .int (nI j))] := hl
  have hct := fb_ct_le (kLive w) 64
  refine lv_iload_n hx hb dX4_told_0 rfl (lv_at hl 1 rfl) ?_
  rcases (show j = 0 ∨ j = 1 ∨ j = 2 ∨ j = 3 ∨ j = 4 ∨ j = 5 ∨ j = 6 ∨ j = 7 by omega) with rfl | rfl | rfl | rfl | rfl | rfl | rfl | rfl
  ·
    refine lv_tableIn (tgt := 48) (off := 47) hx hb dX4_told_1 (by decide) (by decide) (by decide) (by decide) ?_
    refine lv_aload_n hx hb dX4_told_48 rfl (lv_at hl 0 rfl) ?_
    have hPc := hP.sub (ws' := [(q4, .inr (3, [.ref qd, .ref qc, .ref qt, .ref ql, .ref qn, .ref qe, .ref qr, .ref qz, .int fp])), (qd, .inr (1, [.ref qw, .int (bI on), .int lf, .int (nI dn)])), (qw, .inl (cyI, 512, .inl w)), (qc, .inr (0, [.ref qd, .ref qwh, .ref qlv, .int sa])), (qwh, .inl (cyZ, 64, .inl WH)), (qlv, .inl (cyZ, 64, .inl LV))]) [0, 1, 2, 3, 4, 5] rfl
    have hKc := hK.sub (tys' := [(cyI, .int), (cyZ, .boolean)]) [0, 1] rfl
    have hDc := hD.sub (ws' := [(q4, .inr (3, [.ref qd, .ref qc, .ref qt, .ref ql, .ref qn, .ref qe, .ref qr, .ref qz, .int fp])), (qd, .inr (1, [.ref qw, .int (bI on), .int lf, .int (nI dn)])), (qw, .inl (cyI, 512, .inl w)), (qc, .inr (0, [.ref qd, .ref qwh, .ref qlv, .int sa])), (qwh, .inl (cyZ, 64, .inl WH)), (qlv, .inl (cyZ, 64, .inl LV))]) [0, 1, 2, 3, 4, 5] (by decide) rfl
    have hFc := va_free (wc := [(q4, .inr (3, [.ref qd, .ref qc, .ref qt, .ref ql, .ref qn, .ref qe, .ref qr, .ref qz, .int fp])), (qd, .inr (1, [.ref qw, .int (bI on), .int lf, .int (nI dn)])), (qw, .inl (cyI, 512, .inl w)), (qc, .inr (0, [.ref qd, .ref qwh, .ref qlv, .int sa])), (qwh, .inl (cyZ, 64, .inl WH)), (qlv, .inl (cyZ, 64, .inl LV))]) hD hS hA [0, 1, 2, 3, 4, 5] rfl
    refine va_callr (va_runV (As := []) (rest := []) ⟨hx, hb, hml, hown, hts⟩ (c_X4_surveyed l dC dI cyI cyZ q4 qd qw qc qwh qlv qt ql qn qe qr qz sS.heap.size w on lf dn WH LV sa fp (HS)) (cwV 0 hts gX4_told_X4_surveyed rfl rfl rfl (by decide +kernel) ⟨Nat.le_of_ble_eq_true rfl, Nat.le_of_ble_eq_true rfl⟩) ⟨zz_blW, va_recv hKc hPc (ci := 3) (q0 := 0) rfl rfl, fun U hU hW => ⟨rfl, by rw [hU], by rw [hU]; exact hPc, va_K.moved hW.alike hKc, hDc.weaken (fun _ _ _ _ => trivial)⟩⟩ rfl rfl hl.1 rfl (lv_room (Nat.le_of_ble_eq_true rfl)) dX4_told_49 ⟨Nat.zero_le _, Nat.zero_le _⟩) hS (fun q _ h => hFc q h) hFc (fun uU ra tS H1 locs ht9 hvm9 hw9 hB9 hz1 hk1 hS => ?_)
    obtain ⟨WH1_49, LV1_49⟩ := uU
    obtain ⟨e9r, hP1, hK1, hD1⟩ := hB9
    have e9r : qc = ra := e9r.symm
    subst e9r
    have hw9 : (∀ j, j < 64 → LV1_49 j = bI (kLive w j)) := hw9
    have HL_49 := hw9
    rw [ht9] at hP1
    have hK1 := va_K.moved hvm9.symm hK1
    obtain ⟨hP, hD⟩ := va_join (wr := [(qt, .inr (2, [.ref qta, .int (nI n)])), (qta, .inl (cyI, 450, .inl T))]) (w1 := [(q4, .inr (3, [.ref qd, .ref qc, .ref qt, .ref ql, .ref qn, .ref qe, .ref qr, .ref qz, .int fp])), (qd, .inr (1, [.ref qw, .int (bI on), .int lf, .int (nI dn)])), (qw, .inl (cyI, 512, .inl w)), (qc, .inr (0, [.ref qd, .ref qwh, .ref qlv, .int (nI dn)])), (qwh, .inl (cyZ, 64, .inl WH1_49)), (qlv, .inl (cyZ, 64, .inl LV1_49))]) hP hD [0, 1, 2, 3, 4, 5] [6, 7] rfl rfl (by decide) (by decide) hk1 hFc hP1 hD1
    generalize H1 = H at hP hS ⊢
    have hP : va_P (dC, dI) vwCl [(qt, .inr (2, [.ref qta, .int (nI n)])), (qta, .inl (cyI, 450, .inl T)), (q4, .inr (3, [.ref qd, .ref qc, .ref qt, .ref ql, .ref qn, .ref qe, .ref qr, .ref qz, .int fp])), (qd, .inr (1, [.ref qw, .int (bI on), .int lf, .int (nI dn)])), (qw, .inl (cyI, 512, .inl w)), (qc, .inr (0, [.ref qd, .ref qwh, .ref qlv, .int (nI dn)])), (qwh, .inl (cyZ, 64, .inl WH1_49)), (qlv, .inl (cyZ, 64, .inl LV1_49))] H := hP
    have hD : va_D A [(qt, .inr (2, [.ref qta, .int (nI n)])), (qta, .inl (cyI, 450, .inl T)), (q4, .inr (3, [.ref qd, .ref qc, .ref qt, .ref ql, .ref qn, .ref qe, .ref qr, .ref qz, .int fp])), (qd, .inr (1, [.ref qw, .int (bI on), .int lf, .int (nI dn)])), (qw, .inl (cyI, 512, .inl w)), (qc, .inr (0, [.ref qd, .ref qwh, .ref qlv, .int (nI dn)])), (qwh, .inl (cyZ, 64, .inl WH1_49)), (qlv, .inl (cyZ, 64, .inl LV1_49))] := hD
    have hPc := hP.sub (ws' := [(qc, .inr (0, [.ref qd, .ref qwh, .ref qlv, .int (nI dn)])), (qwh, .inl (cyZ, 64, .inl WH1_49)), (qlv, .inl (cyZ, 64, .inl LV1_49)), (qd, .inr (1, [.ref qw, .int (bI on), .int lf, .int (nI dn)])), (qw, .inl (cyI, 512, .inl w))]) [5, 6, 7, 3, 4] rfl
    have hKc := hK.sub (tys' := [(cyI, .int), (cyZ, .boolean)]) [0, 1] rfl
    refine vp_callSi (va_Run.run (va_runV (As := []) (rest := []) ⟨hx, hb, hml, hown, hts⟩ (c_X0_countTexts l dC dI cyI cyZ qc qwh qlv qd qw WH1_49 LV1_49 (nI dn) w on lf dn (kLive w) (HL_49)) (cwV 0 hts gX4_told_X0_countTexts rfl rfl rfl (by decide +kernel) ⟨Nat.le_of_ble_eq_true rfl, Nat.le_of_ble_eq_true rfl⟩) ⟨zz_blR, va_recv hKc hPc (ci := 0) (q0 := 0) rfl rfl, fun U hU hW => ⟨rfl, by rw [hU]; exact hPc, va_K.moved hW.alike hKc⟩⟩ rfl rfl hl.1 rfl (lv_room (Nat.le_of_ble_eq_true rfl)) dX4_told_52 ⟨Nat.zero_le _, Nat.zero_le _⟩)) (fun r_52 hr_52 => ?_)
    have hr_52 : nI (fb_ct (kText (kLive w) w) 64) = r_52 := Eq.symm hr_52
    subst hr_52
    have hP9 := hP.sub (ws' := [(q4, .inr (3, [.ref qd, .ref qc, .ref qt, .ref ql, .ref qn, .ref qe, .ref qr, .ref qz, .int fp])), (qd, .inr (1, [.ref qw, .int (bI on), .int lf, .int (nI dn)])), (qw, .inl (cyI, 512, .inl w)), (qc, .inr (0, [.ref qd, .ref qwh, .ref qlv, .int (nI dn)])), (qwh, .inl (cyZ, 64, .inl WH1_49)), (qlv, .inl (cyZ, 64, .inl LV1_49)), (qt, .inr (2, [.ref qta, .int (nI n)])), (qta, .inl (cyI, 450, .inl T))]) [2, 3, 4, 5, 6, 7, 0, 1] rfl
    have hD9 := hD.sub (ws' := [(q4, .inr (3, [.ref qd, .ref qc, .ref qt, .ref ql, .ref qn, .ref qe, .ref qr, .ref qz, .int fp])), (qd, .inr (1, [.ref qw, .int (bI on), .int lf, .int (nI dn)])), (qw, .inl (cyI, 512, .inl w)), (qc, .inr (0, [.ref qd, .ref qwh, .ref qlv, .int (nI dn)])), (qwh, .inl (cyZ, 64, .inl WH1_49)), (qlv, .inl (cyZ, 64, .inl LV1_49)), (qt, .inr (2, [.ref qta, .int (nI n)])), (qta, .inl (cyI, 450, .inl T))]) [2, 3, 4, 5, 6, 7, 0, 1] (by decide) rfl
    have hK9 := hK.sub (tys' := [(cyI, .int), (cyZ, .boolean)]) [0, 1] rfl
    have hret : (nI (fb_ct (kText (kLive w) w) 64) : Int32) = zTold w on dn n 0 := zTold_0.symm
    refine zz_top hret ?_
    exact W.iret hx hb hr (fun tS ht hW => ⟨⟨_, (WH1_49, LV1_49, nI dn), rfl, ⟨rfl, fun _ => HL_49⟩, by rw [ht]; exact hP9, va_K.moved hW.alike hK9, hD9⟩, hS.F ht⟩) hS.2.2 dX4_told_55
  ·
    refine lv_tableIn (tgt := 56) (off := 55) hx hb dX4_told_1 (by decide) (by decide) (by decide) (by decide) ?_
    refine lv_aload_n hx hb dX4_told_56 rfl (lv_at hl 0 rfl) ?_
    have hPc := hP.sub (ws' := [(q4, .inr (3, [.ref qd, .ref qc, .ref qt, .ref ql, .ref qn, .ref qe, .ref qr, .ref qz, .int fp])), (qd, .inr (1, [.ref qw, .int (bI on), .int lf, .int (nI dn)])), (qw, .inl (cyI, 512, .inl w)), (qc, .inr (0, [.ref qd, .ref qwh, .ref qlv, .int sa])), (qwh, .inl (cyZ, 64, .inl WH)), (qlv, .inl (cyZ, 64, .inl LV))]) [0, 1, 2, 3, 4, 5] rfl
    have hKc := hK.sub (tys' := [(cyI, .int), (cyZ, .boolean)]) [0, 1] rfl
    have hDc := hD.sub (ws' := [(q4, .inr (3, [.ref qd, .ref qc, .ref qt, .ref ql, .ref qn, .ref qe, .ref qr, .ref qz, .int fp])), (qd, .inr (1, [.ref qw, .int (bI on), .int lf, .int (nI dn)])), (qw, .inl (cyI, 512, .inl w)), (qc, .inr (0, [.ref qd, .ref qwh, .ref qlv, .int sa])), (qwh, .inl (cyZ, 64, .inl WH)), (qlv, .inl (cyZ, 64, .inl LV))]) [0, 1, 2, 3, 4, 5] (by decide) rfl
    have hFc := va_free (wc := [(q4, .inr (3, [.ref qd, .ref qc, .ref qt, .ref ql, .ref qn, .ref qe, .ref qr, .ref qz, .int fp])), (qd, .inr (1, [.ref qw, .int (bI on), .int lf, .int (nI dn)])), (qw, .inl (cyI, 512, .inl w)), (qc, .inr (0, [.ref qd, .ref qwh, .ref qlv, .int sa])), (qwh, .inl (cyZ, 64, .inl WH)), (qlv, .inl (cyZ, 64, .inl LV))]) hD hS hA [0, 1, 2, 3, 4, 5] rfl
    refine va_callr (va_runV (As := []) (rest := []) ⟨hx, hb, hml, hown, hts⟩ (c_X4_surveyed l dC dI cyI cyZ q4 qd qw qc qwh qlv qt ql qn qe qr qz sS.heap.size w on lf dn WH LV sa fp (HS)) (cwV 0 hts gX4_told_X4_surveyed rfl rfl rfl (by decide +kernel) ⟨Nat.le_of_ble_eq_true rfl, Nat.le_of_ble_eq_true rfl⟩) ⟨zz_blW, va_recv hKc hPc (ci := 3) (q0 := 0) rfl rfl, fun U hU hW => ⟨rfl, by rw [hU], by rw [hU]; exact hPc, va_K.moved hW.alike hKc, hDc.weaken (fun _ _ _ _ => trivial)⟩⟩ rfl rfl hl.1 rfl (lv_room (Nat.le_of_ble_eq_true rfl)) dX4_told_57 ⟨Nat.zero_le _, Nat.zero_le _⟩) hS (fun q _ h => hFc q h) hFc (fun uU ra tS H1 locs ht9 hvm9 hw9 hB9 hz1 hk1 hS => ?_)
    obtain ⟨WH1_57, LV1_57⟩ := uU
    obtain ⟨e9r, hP1, hK1, hD1⟩ := hB9
    have e9r : qc = ra := e9r.symm
    subst e9r
    have hw9 : (∀ j, j < 64 → LV1_57 j = bI (kLive w j)) := hw9
    have HL_57 := hw9
    rw [ht9] at hP1
    have hK1 := va_K.moved hvm9.symm hK1
    obtain ⟨hP, hD⟩ := va_join (wr := [(qt, .inr (2, [.ref qta, .int (nI n)])), (qta, .inl (cyI, 450, .inl T))]) (w1 := [(q4, .inr (3, [.ref qd, .ref qc, .ref qt, .ref ql, .ref qn, .ref qe, .ref qr, .ref qz, .int fp])), (qd, .inr (1, [.ref qw, .int (bI on), .int lf, .int (nI dn)])), (qw, .inl (cyI, 512, .inl w)), (qc, .inr (0, [.ref qd, .ref qwh, .ref qlv, .int (nI dn)])), (qwh, .inl (cyZ, 64, .inl WH1_57)), (qlv, .inl (cyZ, 64, .inl LV1_57))]) hP hD [0, 1, 2, 3, 4, 5] [6, 7] rfl rfl (by decide) (by decide) hk1 hFc hP1 hD1
    generalize H1 = H at hP hS ⊢
    have hP : va_P (dC, dI) vwCl [(qt, .inr (2, [.ref qta, .int (nI n)])), (qta, .inl (cyI, 450, .inl T)), (q4, .inr (3, [.ref qd, .ref qc, .ref qt, .ref ql, .ref qn, .ref qe, .ref qr, .ref qz, .int fp])), (qd, .inr (1, [.ref qw, .int (bI on), .int lf, .int (nI dn)])), (qw, .inl (cyI, 512, .inl w)), (qc, .inr (0, [.ref qd, .ref qwh, .ref qlv, .int (nI dn)])), (qwh, .inl (cyZ, 64, .inl WH1_57)), (qlv, .inl (cyZ, 64, .inl LV1_57))] H := hP
    have hD : va_D A [(qt, .inr (2, [.ref qta, .int (nI n)])), (qta, .inl (cyI, 450, .inl T)), (q4, .inr (3, [.ref qd, .ref qc, .ref qt, .ref ql, .ref qn, .ref qe, .ref qr, .ref qz, .int fp])), (qd, .inr (1, [.ref qw, .int (bI on), .int lf, .int (nI dn)])), (qw, .inl (cyI, 512, .inl w)), (qc, .inr (0, [.ref qd, .ref qwh, .ref qlv, .int (nI dn)])), (qwh, .inl (cyZ, 64, .inl WH1_57)), (qlv, .inl (cyZ, 64, .inl LV1_57))] := hD
    have hPc := hP.sub (ws' := [(qc, .inr (0, [.ref qd, .ref qwh, .ref qlv, .int (nI dn)])), (qwh, .inl (cyZ, 64, .inl WH1_57)), (qlv, .inl (cyZ, 64, .inl LV1_57))]) [5, 6, 7] rfl
    have hKc := hK.sub (tys' := [(cyI, .int), (cyZ, .boolean)]) [0, 1] rfl
    refine vp_callSi (va_Run.run (va_runV (As := []) (rest := []) ⟨hx, hb, hml, hown, hts⟩ (c_X0_countLive l dC dI cyI cyZ qc qwh qlv qd WH1_57 LV1_57 (nI dn) (kLive w) (HL_57)) (cwV 0 hts gX4_told_X0_countLive rfl rfl rfl (by decide +kernel) ⟨Nat.le_of_ble_eq_true rfl, Nat.le_of_ble_eq_true rfl⟩) ⟨zz_blR, va_recv hKc hPc (ci := 0) (q0 := 0) rfl rfl, fun U hU hW => ⟨rfl, by rw [hU]; exact hPc, va_K.moved hW.alike hKc⟩⟩ rfl rfl hl.1 rfl (lv_room (Nat.le_of_ble_eq_true rfl)) dX4_told_60 ⟨Nat.zero_le _, Nat.zero_le _⟩)) (fun r_60 hr_60 => ?_)
    have hr_60 : nI (fb_ct (kLive w) 64) = r_60 := Eq.symm hr_60
    subst hr_60
    have hP9 := hP.sub (ws' := [(q4, .inr (3, [.ref qd, .ref qc, .ref qt, .ref ql, .ref qn, .ref qe, .ref qr, .ref qz, .int fp])), (qd, .inr (1, [.ref qw, .int (bI on), .int lf, .int (nI dn)])), (qw, .inl (cyI, 512, .inl w)), (qc, .inr (0, [.ref qd, .ref qwh, .ref qlv, .int (nI dn)])), (qwh, .inl (cyZ, 64, .inl WH1_57)), (qlv, .inl (cyZ, 64, .inl LV1_57)), (qt, .inr (2, [.ref qta, .int (nI n)])), (qta, .inl (cyI, 450, .inl T))]) [2, 3, 4, 5, 6, 7, 0, 1] rfl
    have hD9 := hD.sub (ws' := [(q4, .inr (3, [.ref qd, .ref qc, .ref qt, .ref ql, .ref qn, .ref qe, .ref qr, .ref qz, .int fp])), (qd, .inr (1, [.ref qw, .int (bI on), .int lf, .int (nI dn)])), (qw, .inl (cyI, 512, .inl w)), (qc, .inr (0, [.ref qd, .ref qwh, .ref qlv, .int (nI dn)])), (qwh, .inl (cyZ, 64, .inl WH1_57)), (qlv, .inl (cyZ, 64, .inl LV1_57)), (qt, .inr (2, [.ref qta, .int (nI n)])), (qta, .inl (cyI, 450, .inl T))]) [2, 3, 4, 5, 6, 7, 0, 1] (by decide) rfl
    have hK9 := hK.sub (tys' := [(cyI, .int), (cyZ, .boolean)]) [0, 1] rfl
    have hret : (nI (fb_ct (kLive w) 64) : Int32) = zTold w on dn n 1 := zTold_1.symm
    refine zz_top hret ?_
    exact W.iret hx hb hr (fun tS ht hW => ⟨⟨_, (WH1_57, LV1_57, nI dn), rfl, ⟨rfl, fun _ => HL_57⟩, by rw [ht]; exact hP9, va_K.moved hW.alike hK9, hD9⟩, hS.F ht⟩) hS.2.2 dX4_told_63
  ·
    refine lv_tableIn (tgt := 64) (off := 63) hx hb dX4_told_1 (by decide) (by decide) (by decide) (by decide) ?_
    refine lv_bipush (v := nI 64) hx hb dX4_told_64 (by decide) ?_
    refine lv_aload_n hx hb dX4_told_66 rfl (lv_at hl 0 rfl) ?_
    have hPc := hP.sub (ws' := [(q4, .inr (3, [.ref qd, .ref qc, .ref qt, .ref ql, .ref qn, .ref qe, .ref qr, .ref qz, .int fp])), (qd, .inr (1, [.ref qw, .int (bI on), .int lf, .int (nI dn)])), (qw, .inl (cyI, 512, .inl w)), (qc, .inr (0, [.ref qd, .ref qwh, .ref qlv, .int sa])), (qwh, .inl (cyZ, 64, .inl WH)), (qlv, .inl (cyZ, 64, .inl LV))]) [0, 1, 2, 3, 4, 5] rfl
    have hKc := hK.sub (tys' := [(cyI, .int), (cyZ, .boolean)]) [0, 1] rfl
    have hDc := hD.sub (ws' := [(q4, .inr (3, [.ref qd, .ref qc, .ref qt, .ref ql, .ref qn, .ref qe, .ref qr, .ref qz, .int fp])), (qd, .inr (1, [.ref qw, .int (bI on), .int lf, .int (nI dn)])), (qw, .inl (cyI, 512, .inl w)), (qc, .inr (0, [.ref qd, .ref qwh, .ref qlv, .int sa])), (qwh, .inl (cyZ, 64, .inl WH)), (qlv, .inl (cyZ, 64, .inl LV))]) [0, 1, 2, 3, 4, 5] (by decide) rfl
    have hFc := va_free (wc := [(q4, .inr (3, [.ref qd, .ref qc, .ref qt, .ref ql, .ref qn, .ref qe, .ref qr, .ref qz, .int fp])), (qd, .inr (1, [.ref qw, .int (bI on), .int lf, .int (nI dn)])), (qw, .inl (cyI, 512, .inl w)), (qc, .inr (0, [.ref qd, .ref qwh, .ref qlv, .int sa])), (qwh, .inl (cyZ, 64, .inl WH)), (qlv, .inl (cyZ, 64, .inl LV))]) hD hS hA [0, 1, 2, 3, 4, 5] rfl
    refine va_callr (va_runV (As := []) (rest := [.int (nI 64)]) ⟨hx, hb, hml, hown, hts⟩ (c_X4_surveyed l dC dI cyI cyZ q4 qd qw qc qwh qlv qt ql qn qe qr qz sS.heap.size w on lf dn WH LV sa fp (HS)) (cwV 0 hts gX4_told_X4_surveyed rfl rfl rfl (by decide +kernel) ⟨Nat.le_of_ble_eq_true rfl, Nat.le_of_ble_eq_true rfl⟩) ⟨zz_blW, va_recv hKc hPc (ci := 3) (q0 := 0) rfl rfl, fun U hU hW => ⟨rfl, by rw [hU], by rw [hU]; exact hPc, va_K.moved hW.alike hKc, hDc.weaken (fun _ _ _ _ => trivial)⟩⟩ rfl rfl hl.1 rfl (lv_room (Nat.le_of_ble_eq_true rfl)) dX4_told_67 ⟨Nat.zero_le _, Nat.zero_le _⟩) hS (fun q _ h => hFc q h) hFc (fun uU ra tS H1 locs ht9 hvm9 hw9 hB9 hz1 hk1 hS => ?_)
    obtain ⟨WH1_67, LV1_67⟩ := uU
    obtain ⟨e9r, hP1, hK1, hD1⟩ := hB9
    have e9r : qc = ra := e9r.symm
    subst e9r
    have hw9 : (∀ j, j < 64 → LV1_67 j = bI (kLive w j)) := hw9
    have HL_67 := hw9
    rw [ht9] at hP1
    have hK1 := va_K.moved hvm9.symm hK1
    obtain ⟨hP, hD⟩ := va_join (wr := [(qt, .inr (2, [.ref qta, .int (nI n)])), (qta, .inl (cyI, 450, .inl T))]) (w1 := [(q4, .inr (3, [.ref qd, .ref qc, .ref qt, .ref ql, .ref qn, .ref qe, .ref qr, .ref qz, .int fp])), (qd, .inr (1, [.ref qw, .int (bI on), .int lf, .int (nI dn)])), (qw, .inl (cyI, 512, .inl w)), (qc, .inr (0, [.ref qd, .ref qwh, .ref qlv, .int (nI dn)])), (qwh, .inl (cyZ, 64, .inl WH1_67)), (qlv, .inl (cyZ, 64, .inl LV1_67))]) hP hD [0, 1, 2, 3, 4, 5] [6, 7] rfl rfl (by decide) (by decide) hk1 hFc hP1 hD1
    generalize H1 = H at hP hS ⊢
    have hP : va_P (dC, dI) vwCl [(qt, .inr (2, [.ref qta, .int (nI n)])), (qta, .inl (cyI, 450, .inl T)), (q4, .inr (3, [.ref qd, .ref qc, .ref qt, .ref ql, .ref qn, .ref qe, .ref qr, .ref qz, .int fp])), (qd, .inr (1, [.ref qw, .int (bI on), .int lf, .int (nI dn)])), (qw, .inl (cyI, 512, .inl w)), (qc, .inr (0, [.ref qd, .ref qwh, .ref qlv, .int (nI dn)])), (qwh, .inl (cyZ, 64, .inl WH1_67)), (qlv, .inl (cyZ, 64, .inl LV1_67))] H := hP
    have hD : va_D A [(qt, .inr (2, [.ref qta, .int (nI n)])), (qta, .inl (cyI, 450, .inl T)), (q4, .inr (3, [.ref qd, .ref qc, .ref qt, .ref ql, .ref qn, .ref qe, .ref qr, .ref qz, .int fp])), (qd, .inr (1, [.ref qw, .int (bI on), .int lf, .int (nI dn)])), (qw, .inl (cyI, 512, .inl w)), (qc, .inr (0, [.ref qd, .ref qwh, .ref qlv, .int (nI dn)])), (qwh, .inl (cyZ, 64, .inl WH1_67)), (qlv, .inl (cyZ, 64, .inl LV1_67))] := hD
    have hPc := hP.sub (ws' := [(qc, .inr (0, [.ref qd, .ref qwh, .ref qlv, .int (nI dn)])), (qwh, .inl (cyZ, 64, .inl WH1_67)), (qlv, .inl (cyZ, 64, .inl LV1_67))]) [5, 6, 7] rfl
    have hKc := hK.sub (tys' := [(cyI, .int), (cyZ, .boolean)]) [0, 1] rfl
    refine vp_callSi (va_Run.run (va_runV (As := []) (rest := [.int (nI 64)]) ⟨hx, hb, hml, hown, hts⟩ (c_X0_countLive l dC dI cyI cyZ qc qwh qlv qd WH1_67 LV1_67 (nI dn) (kLive w) (HL_67)) (cwV 0 hts gX4_told_X0_countLive rfl rfl rfl (by decide +kernel) ⟨Nat.le_of_ble_eq_true rfl, Nat.le_of_ble_eq_true rfl⟩) ⟨zz_blR, va_recv hKc hPc (ci := 0) (q0 := 0) rfl rfl, fun U hU hW => ⟨rfl, by rw [hU]; exact hPc, va_K.moved hW.alike hKc⟩⟩ rfl rfl hl.1 rfl (lv_room (Nat.le_of_ble_eq_true rfl)) dX4_told_70 ⟨Nat.zero_le _, Nat.zero_le _⟩)) (fun r_70 hr_70 => ?_)
    have hr_70 : nI (fb_ct (kLive w) 64) = r_70 := Eq.symm hr_70
    subst hr_70
    refine lv_isub hx hb dX4_told_73 ?_
    refine zz_top (pk_sub (a := 64) (b := fb_ct (kLive w) 64) (by omega)) ?_
    have hP9 := hP.sub (ws' := [(q4, .inr (3, [.ref qd, .ref qc, .ref qt, .ref ql, .ref qn, .ref qe, .ref qr, .ref qz, .int fp])), (qd, .inr (1, [.ref qw, .int (bI on), .int lf, .int (nI dn)])), (qw, .inl (cyI, 512, .inl w)), (qc, .inr (0, [.ref qd, .ref qwh, .ref qlv, .int (nI dn)])), (qwh, .inl (cyZ, 64, .inl WH1_67)), (qlv, .inl (cyZ, 64, .inl LV1_67)), (qt, .inr (2, [.ref qta, .int (nI n)])), (qta, .inl (cyI, 450, .inl T))]) [2, 3, 4, 5, 6, 7, 0, 1] rfl
    have hD9 := hD.sub (ws' := [(q4, .inr (3, [.ref qd, .ref qc, .ref qt, .ref ql, .ref qn, .ref qe, .ref qr, .ref qz, .int fp])), (qd, .inr (1, [.ref qw, .int (bI on), .int lf, .int (nI dn)])), (qw, .inl (cyI, 512, .inl w)), (qc, .inr (0, [.ref qd, .ref qwh, .ref qlv, .int (nI dn)])), (qwh, .inl (cyZ, 64, .inl WH1_67)), (qlv, .inl (cyZ, 64, .inl LV1_67)), (qt, .inr (2, [.ref qta, .int (nI n)])), (qta, .inl (cyI, 450, .inl T))]) [2, 3, 4, 5, 6, 7, 0, 1] (by decide) rfl
    have hK9 := hK.sub (tys' := [(cyI, .int), (cyZ, .boolean)]) [0, 1] rfl
    have hret : (nI (64 - (fb_ct (kLive w) 64)) : Int32) = zTold w on dn n 2 := zTold_2.symm
    refine zz_top hret ?_
    exact W.iret hx hb hr (fun tS ht hW => ⟨⟨_, (WH1_67, LV1_67, nI dn), rfl, ⟨rfl, fun _ => HL_67⟩, by rw [ht]; exact hP9, va_K.moved hW.alike hK9, hD9⟩, hS.F ht⟩) hS.2.2 dX4_told_74
  ·
    refine lv_tableIn (tgt := 75) (off := 74) hx hb dX4_told_1 (by decide) (by decide) (by decide) (by decide) ?_
    refine lv_aload_n hx hb dX4_told_75 rfl (lv_at hl 0 rfl) ?_
    have hPc := hP.sub (ws' := [(q4, .inr (3, [.ref qd, .ref qc, .ref qt, .ref ql, .ref qn, .ref qe, .ref qr, .ref qz, .int fp])), (qd, .inr (1, [.ref qw, .int (bI on), .int lf, .int (nI dn)])), (qw, .inl (cyI, 512, .inl w)), (qc, .inr (0, [.ref qd, .ref qwh, .ref qlv, .int sa])), (qwh, .inl (cyZ, 64, .inl WH)), (qlv, .inl (cyZ, 64, .inl LV))]) [0, 1, 2, 3, 4, 5] rfl
    have hKc := hK.sub (tys' := [(cyI, .int), (cyZ, .boolean)]) [0, 1] rfl
    have hDc := hD.sub (ws' := [(q4, .inr (3, [.ref qd, .ref qc, .ref qt, .ref ql, .ref qn, .ref qe, .ref qr, .ref qz, .int fp])), (qd, .inr (1, [.ref qw, .int (bI on), .int lf, .int (nI dn)])), (qw, .inl (cyI, 512, .inl w)), (qc, .inr (0, [.ref qd, .ref qwh, .ref qlv, .int sa])), (qwh, .inl (cyZ, 64, .inl WH)), (qlv, .inl (cyZ, 64, .inl LV))]) [0, 1, 2, 3, 4, 5] (by decide) rfl
    have hFc := va_free (wc := [(q4, .inr (3, [.ref qd, .ref qc, .ref qt, .ref ql, .ref qn, .ref qe, .ref qr, .ref qz, .int fp])), (qd, .inr (1, [.ref qw, .int (bI on), .int lf, .int (nI dn)])), (qw, .inl (cyI, 512, .inl w)), (qc, .inr (0, [.ref qd, .ref qwh, .ref qlv, .int sa])), (qwh, .inl (cyZ, 64, .inl WH)), (qlv, .inl (cyZ, 64, .inl LV))]) hD hS hA [0, 1, 2, 3, 4, 5] rfl
    refine va_callr (va_runV (As := []) (rest := []) ⟨hx, hb, hml, hown, hts⟩ (c_X4_surveyed l dC dI cyI cyZ q4 qd qw qc qwh qlv qt ql qn qe qr qz sS.heap.size w on lf dn WH LV sa fp (HS)) (cwV 0 hts gX4_told_X4_surveyed rfl rfl rfl (by decide +kernel) ⟨Nat.le_of_ble_eq_true rfl, Nat.le_of_ble_eq_true rfl⟩) ⟨zz_blW, va_recv hKc hPc (ci := 3) (q0 := 0) rfl rfl, fun U hU hW => ⟨rfl, by rw [hU], by rw [hU]; exact hPc, va_K.moved hW.alike hKc, hDc.weaken (fun _ _ _ _ => trivial)⟩⟩ rfl rfl hl.1 rfl (lv_room (Nat.le_of_ble_eq_true rfl)) dX4_told_76 ⟨Nat.zero_le _, Nat.zero_le _⟩) hS (fun q _ h => hFc q h) hFc (fun uU ra tS H1 locs ht9 hvm9 hw9 hB9 hz1 hk1 hS => ?_)
    obtain ⟨WH1_76, LV1_76⟩ := uU
    obtain ⟨e9r, hP1, hK1, hD1⟩ := hB9
    have e9r : qc = ra := e9r.symm
    subst e9r
    have hw9 : (∀ j, j < 64 → LV1_76 j = bI (kLive w j)) := hw9
    have HL_76 := hw9
    rw [ht9] at hP1
    have hK1 := va_K.moved hvm9.symm hK1
    obtain ⟨hP, hD⟩ := va_join (wr := [(qt, .inr (2, [.ref qta, .int (nI n)])), (qta, .inl (cyI, 450, .inl T))]) (w1 := [(q4, .inr (3, [.ref qd, .ref qc, .ref qt, .ref ql, .ref qn, .ref qe, .ref qr, .ref qz, .int fp])), (qd, .inr (1, [.ref qw, .int (bI on), .int lf, .int (nI dn)])), (qw, .inl (cyI, 512, .inl w)), (qc, .inr (0, [.ref qd, .ref qwh, .ref qlv, .int (nI dn)])), (qwh, .inl (cyZ, 64, .inl WH1_76)), (qlv, .inl (cyZ, 64, .inl LV1_76))]) hP hD [0, 1, 2, 3, 4, 5] [6, 7] rfl rfl (by decide) (by decide) hk1 hFc hP1 hD1
    generalize H1 = H at hP hS ⊢
    have hP : va_P (dC, dI) vwCl [(qt, .inr (2, [.ref qta, .int (nI n)])), (qta, .inl (cyI, 450, .inl T)), (q4, .inr (3, [.ref qd, .ref qc, .ref qt, .ref ql, .ref qn, .ref qe, .ref qr, .ref qz, .int fp])), (qd, .inr (1, [.ref qw, .int (bI on), .int lf, .int (nI dn)])), (qw, .inl (cyI, 512, .inl w)), (qc, .inr (0, [.ref qd, .ref qwh, .ref qlv, .int (nI dn)])), (qwh, .inl (cyZ, 64, .inl WH1_76)), (qlv, .inl (cyZ, 64, .inl LV1_76))] H := hP
    have hD : va_D A [(qt, .inr (2, [.ref qta, .int (nI n)])), (qta, .inl (cyI, 450, .inl T)), (q4, .inr (3, [.ref qd, .ref qc, .ref qt, .ref ql, .ref qn, .ref qe, .ref qr, .ref qz, .int fp])), (qd, .inr (1, [.ref qw, .int (bI on), .int lf, .int (nI dn)])), (qw, .inl (cyI, 512, .inl w)), (qc, .inr (0, [.ref qd, .ref qwh, .ref qlv, .int (nI dn)])), (qwh, .inl (cyZ, 64, .inl WH1_76)), (qlv, .inl (cyZ, 64, .inl LV1_76))] := hD
    have hPc := hP.sub (ws' := [(qc, .inr (0, [.ref qd, .ref qwh, .ref qlv, .int (nI dn)])), (qwh, .inl (cyZ, 64, .inl WH1_76)), (qlv, .inl (cyZ, 64, .inl LV1_76)), (qd, .inr (1, [.ref qw, .int (bI on), .int lf, .int (nI dn)])), (qw, .inl (cyI, 512, .inl w))]) [5, 6, 7, 3, 4] rfl
    have hKc := hK.sub (tys' := [(cyI, .int), (cyZ, .boolean)]) [0, 1] rfl
    refine vp_callSi (va_Run.run (va_runV (As := []) (rest := []) ⟨hx, hb, hml, hown, hts⟩ (c_X0_countLiveGraves l dC dI cyI cyZ qc qwh qlv qd qw WH1_76 LV1_76 (nI dn) w on lf dn (kLive w) (HL_76)) (cwV 0 hts gX4_told_X0_countLiveGraves rfl rfl rfl (by decide +kernel) ⟨Nat.le_of_ble_eq_true rfl, Nat.le_of_ble_eq_true rfl⟩) ⟨zz_blR, va_recv hKc hPc (ci := 0) (q0 := 0) rfl rfl, fun U hU hW => ⟨rfl, by rw [hU]; exact hPc, va_K.moved hW.alike hKc⟩⟩ rfl rfl hl.1 rfl (lv_room (Nat.le_of_ble_eq_true rfl)) dX4_told_79 ⟨Nat.zero_le _, Nat.zero_le _⟩)) (fun r_79 hr_79 => ?_)
    have hr_79 : nI (fb_ct (kGrave (kLive w) w) 64) = r_79 := Eq.symm hr_79
    subst hr_79
    have hP9 := hP.sub (ws' := [(q4, .inr (3, [.ref qd, .ref qc, .ref qt, .ref ql, .ref qn, .ref qe, .ref qr, .ref qz, .int fp])), (qd, .inr (1, [.ref qw, .int (bI on), .int lf, .int (nI dn)])), (qw, .inl (cyI, 512, .inl w)), (qc, .inr (0, [.ref qd, .ref qwh, .ref qlv, .int (nI dn)])), (qwh, .inl (cyZ, 64, .inl WH1_76)), (qlv, .inl (cyZ, 64, .inl LV1_76)), (qt, .inr (2, [.ref qta, .int (nI n)])), (qta, .inl (cyI, 450, .inl T))]) [2, 3, 4, 5, 6, 7, 0, 1] rfl
    have hD9 := hD.sub (ws' := [(q4, .inr (3, [.ref qd, .ref qc, .ref qt, .ref ql, .ref qn, .ref qe, .ref qr, .ref qz, .int fp])), (qd, .inr (1, [.ref qw, .int (bI on), .int lf, .int (nI dn)])), (qw, .inl (cyI, 512, .inl w)), (qc, .inr (0, [.ref qd, .ref qwh, .ref qlv, .int (nI dn)])), (qwh, .inl (cyZ, 64, .inl WH1_76)), (qlv, .inl (cyZ, 64, .inl LV1_76)), (qt, .inr (2, [.ref qta, .int (nI n)])), (qta, .inl (cyI, 450, .inl T))]) [2, 3, 4, 5, 6, 7, 0, 1] (by decide) rfl
    have hK9 := hK.sub (tys' := [(cyI, .int), (cyZ, .boolean)]) [0, 1] rfl
    have hret : (nI (fb_ct (kGrave (kLive w) w) 64) : Int32) = zTold w on dn n 3 := zTold_3.symm
    refine zz_top hret ?_
    exact W.iret hx hb hr (fun tS ht hW => ⟨⟨_, (WH1_76, LV1_76, nI dn), rfl, ⟨rfl, fun _ => HL_76⟩, by rw [ht]; exact hP9, va_K.moved hW.alike hK9, hD9⟩, hS.F ht⟩) hS.2.2 dX4_told_82
  ·
    refine lv_tableIn (tgt := 83) (off := 82) hx hb dX4_told_1 (by decide) (by decide) (by decide) (by decide) ?_
    refine lv_aload_n hx hb dX4_told_83 rfl (lv_at hl 0 rfl) ?_
    refine va_get (D := (dC, dI)) (ci := 3) (v := .ref qd) (C := RX4) (T := TX4) (N := 9) hx hb hts iwX4 hown hK hP 0 rfl rfl 0 (by decide) fk10 (fun _ h9 => h9) rfl dX4_told_84 ?_
    have hPc := hP.sub (ws' := [(qd, .inr (1, [.ref qw, .int (bI on), .int lf, .int (nI dn)])), (qw, .inl (cyI, 512, .inl w))]) [1, 2] rfl
    have hKc := hK.sub (tys' := [(cyI, .int), (cyZ, .boolean)]) [0, 1] rfl
    refine vp_callSi (va_Run.run (va_runV (As := []) (rest := []) ⟨hx, hb, hml, hown, hts⟩ (c_X2_greatestNumber l dC dI cyI cyZ qd qw w on lf dn) (cwV 0 hts gX4_told_X2_greatestNumber rfl rfl rfl (by decide +kernel) ⟨Nat.le_of_ble_eq_true rfl, Nat.le_of_ble_eq_true rfl⟩) ⟨zz_blR, va_recv hKc hPc (ci := 1) (q0 := 0) rfl rfl, fun U hU hW => ⟨rfl, by rw [hU]; exact hPc, va_K.moved hW.alike hKc⟩⟩ rfl rfl hl.1 rfl (lv_room (Nat.le_of_ble_eq_true rfl)) dX4_told_87 ⟨Nat.zero_le _, Nat.zero_le _⟩)) (fun r_87 hr_87 => ?_)
    have hr_87 : kGr w 64 = r_87 := Eq.symm hr_87
    subst hr_87
    have hP9 := hP.sub (ws' := [(q4, .inr (3, [.ref qd, .ref qc, .ref qt, .ref ql, .ref qn, .ref qe, .ref qr, .ref qz, .int fp])), (qd, .inr (1, [.ref qw, .int (bI on), .int lf, .int (nI dn)])), (qw, .inl (cyI, 512, .inl w)), (qc, .inr (0, [.ref qd, .ref qwh, .ref qlv, .int sa])), (qwh, .inl (cyZ, 64, .inl WH)), (qlv, .inl (cyZ, 64, .inl LV)), (qt, .inr (2, [.ref qta, .int (nI n)])), (qta, .inl (cyI, 450, .inl T))]) [0, 1, 2, 3, 4, 5, 6, 7] rfl
    have hD9 := hD.sub (ws' := [(q4, .inr (3, [.ref qd, .ref qc, .ref qt, .ref ql, .ref qn, .ref qe, .ref qr, .ref qz, .int fp])), (qd, .inr (1, [.ref qw, .int (bI on), .int lf, .int (nI dn)])), (qw, .inl (cyI, 512, .inl w)), (qc, .inr (0, [.ref qd, .ref qwh, .ref qlv, .int sa])), (qwh, .inl (cyZ, 64, .inl WH)), (qlv, .inl (cyZ, 64, .inl LV)), (qt, .inr (2, [.ref qta, .int (nI n)])), (qta, .inl (cyI, 450, .inl T))]) [0, 1, 2, 3, 4, 5, 6, 7] (by decide) rfl
    have hK9 := hK.sub (tys' := [(cyI, .int), (cyZ, .boolean)]) [0, 1] rfl
    have hret : (kGr w 64 : Int32) = zTold w on dn n 4 := zTold_4.symm
    refine zz_top hret ?_
    exact W.iret hx hb hr (fun tS ht hW => ⟨⟨_, (WH, LV, sa), rfl, ⟨rfl, HS⟩, by rw [ht]; exact hP9, va_K.moved hW.alike hK9, hD9⟩, hS.F ht⟩) hS.2.2 dX4_told_90
  ·
    refine lv_tableIn (tgt := 91) (off := 90) hx hb dX4_told_1 (by decide) (by decide) (by decide) (by decide) ?_
    refine lv_aload_n hx hb dX4_told_91 rfl (lv_at hl 0 rfl) ?_
    refine va_get (D := (dC, dI)) (ci := 3) (v := .ref qd) (C := RX4) (T := TX4) (N := 9) hx hb hts iwX4 hown hK hP 0 rfl rfl 0 (by decide) fk10 (fun _ h9 => h9) rfl dX4_told_92 ?_
    have hPc := hP.sub (ws' := [(qd, .inr (1, [.ref qw, .int (bI on), .int lf, .int (nI dn)])), (qw, .inl (cyI, 512, .inl w))]) [1, 2] rfl
    have hKc := hK.sub (tys' := [(cyI, .int), (cyZ, .boolean)]) [0, 1] rfl
    refine vp_callSi (va_Run.run (va_runV (As := []) (rest := []) ⟨hx, hb, hml, hown, hts⟩ (c_X2_writesDone l dC dI cyI cyZ qd qw w on lf dn) (cwV 0 hts gX4_told_X2_writesDone rfl rfl rfl (by decide +kernel) ⟨Nat.le_of_ble_eq_true rfl, Nat.le_of_ble_eq_true rfl⟩) ⟨zz_blR, va_recv hKc hPc (ci := 1) (q0 := 0) rfl rfl, fun U hU hW => ⟨rfl, by rw [hU]; exact hPc, va_K.moved hW.alike hKc⟩⟩ rfl rfl hl.1 rfl (lv_room (Nat.le_of_ble_eq_true rfl)) dX4_told_95 ⟨Nat.zero_le _, Nat.zero_le _⟩)) (fun r_95 hr_95 => ?_)
    have hr_95 : nI dn = r_95 := Eq.symm hr_95
    subst hr_95
    have hP9 := hP.sub (ws' := [(q4, .inr (3, [.ref qd, .ref qc, .ref qt, .ref ql, .ref qn, .ref qe, .ref qr, .ref qz, .int fp])), (qd, .inr (1, [.ref qw, .int (bI on), .int lf, .int (nI dn)])), (qw, .inl (cyI, 512, .inl w)), (qc, .inr (0, [.ref qd, .ref qwh, .ref qlv, .int sa])), (qwh, .inl (cyZ, 64, .inl WH)), (qlv, .inl (cyZ, 64, .inl LV)), (qt, .inr (2, [.ref qta, .int (nI n)])), (qta, .inl (cyI, 450, .inl T))]) [0, 1, 2, 3, 4, 5, 6, 7] rfl
    have hD9 := hD.sub (ws' := [(q4, .inr (3, [.ref qd, .ref qc, .ref qt, .ref ql, .ref qn, .ref qe, .ref qr, .ref qz, .int fp])), (qd, .inr (1, [.ref qw, .int (bI on), .int lf, .int (nI dn)])), (qw, .inl (cyI, 512, .inl w)), (qc, .inr (0, [.ref qd, .ref qwh, .ref qlv, .int sa])), (qwh, .inl (cyZ, 64, .inl WH)), (qlv, .inl (cyZ, 64, .inl LV)), (qt, .inr (2, [.ref qta, .int (nI n)])), (qta, .inl (cyI, 450, .inl T))]) [0, 1, 2, 3, 4, 5, 6, 7] (by decide) rfl
    have hK9 := hK.sub (tys' := [(cyI, .int), (cyZ, .boolean)]) [0, 1] rfl
    have hret : (nI dn : Int32) = zTold w on dn n 5 := zTold_5.symm
    refine zz_top hret ?_
    exact W.iret hx hb hr (fun tS ht hW => ⟨⟨_, (WH, LV, sa), rfl, ⟨rfl, HS⟩, by rw [ht]; exact hP9, va_K.moved hW.alike hK9, hD9⟩, hS.F ht⟩) hS.2.2 dX4_told_98
  ·
    refine lv_tableIn (tgt := 99) (off := 98) hx hb dX4_told_1 (by decide) (by decide) (by decide) (by decide) ?_
    refine lv_aload_n hx hb dX4_told_99 rfl (lv_at hl 0 rfl) ?_
    refine va_get (D := (dC, dI)) (ci := 3) (v := .ref qd) (C := RX4) (T := TX4) (N := 9) hx hb hts iwX4 hown hK hP 0 rfl rfl 0 (by decide) fk10 (fun _ h9 => h9) rfl dX4_told_100 ?_
    have hPc := hP.sub (ws' := [(qd, .inr (1, [.ref qw, .int (bI on), .int lf, .int (nI dn)])), (qw, .inl (cyI, 512, .inl w))]) [1, 2] rfl
    have hKc := hK.sub (tys' := [(cyI, .int), (cyZ, .boolean)]) [0, 1] rfl
    refine vp_callSi (va_Run.run (va_runV (As := []) (rest := []) ⟨hx, hb, hml, hown, hts⟩ (c_X2_isOn l dC dI cyI cyZ qd qw w on lf dn) (cwV 0 hts gX4_told_X2_isOn rfl rfl rfl (by decide +kernel) ⟨Nat.le_of_ble_eq_true rfl, Nat.le_of_ble_eq_true rfl⟩) ⟨zz_blR, va_recv hKc hPc (ci := 1) (q0 := 0) rfl rfl, fun U hU hW => ⟨rfl, by rw [hU]; exact hPc, va_K.moved hW.alike hKc⟩⟩ rfl rfl hl.1 rfl (lv_room (Nat.le_of_ble_eq_true rfl)) dX4_told_103 ⟨Nat.zero_le _, Nat.zero_le _⟩)) (fun r_103 hr_103 => ?_)
    have hr_103 : bI on = r_103 := Eq.symm hr_103
    subst hr_103
    refine zb_if_eq (tgt := 113) hx hb dX4_told_106 (by decide) (fun c_106 => ?_) (fun c_106 => ?_)
    ·
      refine lv_iconst (v := nI 0) hx hb dX4_told_113 (by decide) ?_
      have hP9 := hP.sub (ws' := [(q4, .inr (3, [.ref qd, .ref qc, .ref qt, .ref ql, .ref qn, .ref qe, .ref qr, .ref qz, .int fp])), (qd, .inr (1, [.ref qw, .int (bI on), .int lf, .int (nI dn)])), (qw, .inl (cyI, 512, .inl w)), (qc, .inr (0, [.ref qd, .ref qwh, .ref qlv, .int sa])), (qwh, .inl (cyZ, 64, .inl WH)), (qlv, .inl (cyZ, 64, .inl LV)), (qt, .inr (2, [.ref qta, .int (nI n)])), (qta, .inl (cyI, 450, .inl T))]) [0, 1, 2, 3, 4, 5, 6, 7] rfl
      have hD9 := hD.sub (ws' := [(q4, .inr (3, [.ref qd, .ref qc, .ref qt, .ref ql, .ref qn, .ref qe, .ref qr, .ref qz, .int fp])), (qd, .inr (1, [.ref qw, .int (bI on), .int lf, .int (nI dn)])), (qw, .inl (cyI, 512, .inl w)), (qc, .inr (0, [.ref qd, .ref qwh, .ref qlv, .int sa])), (qwh, .inl (cyZ, 64, .inl WH)), (qlv, .inl (cyZ, 64, .inl LV)), (qt, .inr (2, [.ref qta, .int (nI n)])), (qta, .inl (cyI, 450, .inl T))]) [0, 1, 2, 3, 4, 5, 6, 7] (by decide) rfl
      have hK9 := hK.sub (tys' := [(cyI, .int), (cyZ, .boolean)]) [0, 1] rfl
      have hret : (nI 0 : Int32) = zTold w on dn n 6 := by rw [zTold_6]; first | exact bI_1 c_106 | exact bI_0 c_106
      refine zz_top hret ?_
      exact W.iret hx hb hr (fun tS ht hW => ⟨⟨_, (WH, LV, sa), rfl, ⟨rfl, HS⟩, by rw [ht]; exact hP9, va_K.moved hW.alike hK9, hD9⟩, hS.F ht⟩) hS.2.2 dX4_told_114
    ·
      refine lv_iconst (v := nI 1) hx hb dX4_told_109 (by decide) ?_
      refine lv_goto (tgt := 114) hx hb dX4_told_110 (by decide) ?_
      have hP9 := hP.sub (ws' := [(q4, .inr (3, [.ref qd, .ref qc, .ref qt, .ref ql, .ref qn, .ref qe, .ref qr, .ref qz, .int fp])), (qd, .inr (1, [.ref qw, .int (bI on), .int lf, .int (nI dn)])), (qw, .inl (cyI, 512, .inl w)), (qc, .inr (0, [.ref qd, .ref qwh, .ref qlv, .int sa])), (qwh, .inl (cyZ, 64, .inl WH)), (qlv, .inl (cyZ, 64, .inl LV)), (qt, .inr (2, [.ref qta, .int (nI n)])), (qta, .inl (cyI, 450, .inl T))]) [0, 1, 2, 3, 4, 5, 6, 7] rfl
      have hD9 := hD.sub (ws' := [(q4, .inr (3, [.ref qd, .ref qc, .ref qt, .ref ql, .ref qn, .ref qe, .ref qr, .ref qz, .int fp])), (qd, .inr (1, [.ref qw, .int (bI on), .int lf, .int (nI dn)])), (qw, .inl (cyI, 512, .inl w)), (qc, .inr (0, [.ref qd, .ref qwh, .ref qlv, .int sa])), (qwh, .inl (cyZ, 64, .inl WH)), (qlv, .inl (cyZ, 64, .inl LV)), (qt, .inr (2, [.ref qta, .int (nI n)])), (qta, .inl (cyI, 450, .inl T))]) [0, 1, 2, 3, 4, 5, 6, 7] (by decide) rfl
      have hK9 := hK.sub (tys' := [(cyI, .int), (cyZ, .boolean)]) [0, 1] rfl
      have hret : (nI 1 : Int32) = zTold w on dn n 6 := by rw [zTold_6]; first | exact bI_1 c_106 | exact bI_0 c_106
      refine zz_top hret ?_
      exact W.iret hx hb hr (fun tS ht hW => ⟨⟨_, (WH, LV, sa), rfl, ⟨rfl, HS⟩, by rw [ht]; exact hP9, va_K.moved hW.alike hK9, hD9⟩, hS.F ht⟩) hS.2.2 dX4_told_114
  ·
    refine lv_tableIn (tgt := 115) (off := 114) hx hb dX4_told_1 (by decide) (by decide) (by decide) (by decide) ?_
    refine lv_aload_n hx hb dX4_told_115 rfl (lv_at hl 0 rfl) ?_
    refine va_get (D := (dC, dI)) (ci := 3) (v := .ref qt) (C := RX4) (T := TX4) (N := 9) hx hb hts iwX4 hown hK hP 0 rfl rfl 2 (by decide) fk28 (fun _ h9 => h9) rfl dX4_told_116 ?_
    have hPc := hP.sub (ws' := [(qt, .inr (2, [.ref qta, .int (nI n)])), (qta, .inl (cyI, 450, .inl T))]) [6, 7] rfl
    have hKc := hK.sub (tys' := [(cyI, .int), (cyZ, .boolean)]) [0, 1] rfl
    refine vp_callSi (va_Run.run (va_runV (As := []) (rest := []) ⟨hx, hb, hml, hown, hts⟩ (c_X3_size l dC dI cyI cyZ qt qta T n) (cwV 0 hts gX4_told_X3_size rfl rfl rfl (by decide +kernel) ⟨Nat.le_of_ble_eq_true rfl, Nat.le_of_ble_eq_true rfl⟩) ⟨zz_blR, va_recv hKc hPc (ci := 2) (q0 := 0) rfl rfl, fun U hU hW => ⟨rfl, by rw [hU]; exact hPc, va_K.moved hW.alike hKc⟩⟩ rfl rfl hl.1 rfl (lv_room (Nat.le_of_ble_eq_true rfl)) dX4_told_119 ⟨Nat.zero_le _, Nat.zero_le _⟩)) (fun r_119 hr_119 => ?_)
    have hr_119 : nI n = r_119 := Eq.symm hr_119
    subst hr_119
    have hP9 := hP.sub (ws' := [(q4, .inr (3, [.ref qd, .ref qc, .ref qt, .ref ql, .ref qn, .ref qe, .ref qr, .ref qz, .int fp])), (qd, .inr (1, [.ref qw, .int (bI on), .int lf, .int (nI dn)])), (qw, .inl (cyI, 512, .inl w)), (qc, .inr (0, [.ref qd, .ref qwh, .ref qlv, .int sa])), (qwh, .inl (cyZ, 64, .inl WH)), (qlv, .inl (cyZ, 64, .inl LV)), (qt, .inr (2, [.ref qta, .int (nI n)])), (qta, .inl (cyI, 450, .inl T))]) [0, 1, 2, 3, 4, 5, 6, 7] rfl
    have hD9 := hD.sub (ws' := [(q4, .inr (3, [.ref qd, .ref qc, .ref qt, .ref ql, .ref qn, .ref qe, .ref qr, .ref qz, .int fp])), (qd, .inr (1, [.ref qw, .int (bI on), .int lf, .int (nI dn)])), (qw, .inl (cyI, 512, .inl w)), (qc, .inr (0, [.ref qd, .ref qwh, .ref qlv, .int sa])), (qwh, .inl (cyZ, 64, .inl WH)), (qlv, .inl (cyZ, 64, .inl LV)), (qt, .inr (2, [.ref qta, .int (nI n)])), (qta, .inl (cyI, 450, .inl T))]) [0, 1, 2, 3, 4, 5, 6, 7] (by decide) rfl
    have hK9 := hK.sub (tys' := [(cyI, .int), (cyZ, .boolean)]) [0, 1] rfl
    have hret : (nI n : Int32) = zTold w on dn n 7 := zTold_7.symm
    refine zz_top hret ?_
    exact W.iret hx hb hr (fun tS ht hW => ⟨⟨_, (WH, LV, sa), rfl, ⟨rfl, HS⟩, by rw [ht]; exact hP9, va_K.moved hW.alike hK9, hD9⟩, hS.F ht⟩) hS.2.2 dX4_told_122
