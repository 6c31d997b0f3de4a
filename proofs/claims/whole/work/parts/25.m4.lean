set_option maxHeartbeats 4000000 in
set_option maxRecDepth 100000 in
theorem c_X5_load (l : Launch) (dC : Nat → ClassId) (dI : Nat → Nat → Nat) (cyI cyZ : ClassId) (qm qmd qml qmk qmh qmt qmw : Nat) (sz : Nat) (n : Nat) (lf : Int32) (dn : Nat) (pl : Int32) (k mz nh : Nat) (th : Int32) (w : Nat → Int32) (P : Nat → Int32) (M : Nat → Int32) (Hd : Nat → Int32) (ky : Int32) (HP0 : kPos w) (HG : kGood w) (HU : kUniq w) (HR : kRead w) : Met l yX5_load wsX5_load ({ frames := 4, cells := 0, slots := 0, locals := 88 }) (va_Pc [.ref qm, .int ky] (fun U => U.heap.size = sz ∧ va_P (dC, dI) vwCl [(qm, .inr (4, [.ref qmd, .ref qmt, .int (nI n), .int (bI true), .int lf, .int (nI dn), .int pl, .ref qml, .int (nI k), .ref qmk, .int (nI mz), .ref qmh, .int (nI nh), .int th, .ref qmw])), (qmd, .inl (cyI, 512, .inl w)), (qml, .inl (cyI, 460, .inl P)), (qmk, .inl (cyI, 460, .inl M)), (qmh, .inl (cyI, 460, .inl Hd))] U.heap ∧ va_K (dC, dI) vwCl [(cyI, .int), (cyZ, .boolean)] U ∧ va_D (fun _ => True) [(qm, .inr (4, [.ref qmd, .ref qmt, .int (nI n), .int (bI true), .int lf, .int (nI dn), .int pl, .ref qml, .int (nI k), .ref qmk, .int (nI mz), .ref qmh, .int (nI nh), .int th, .ref qmw])), (qmd, .inl (cyI, 512, .inl w)), (qml, .inl (cyI, 460, .inl P)), (qmk, .inl (cyI, 460, .inl M)), (qmh, .inl (cyI, 460, .inl Hd))])) (va_Qi (S := Nat × (Nat → Int32) × Nat × (Nat → Int32) × Nat × (Nat → Int32)) (fun (r : Int32) (uU : Nat × (Nat → Int32) × Nat × (Nat → Int32) × Nat × (Nat → Int32)) => match uU with | (k1, P1, mz1, M1, nh1, H1) => (r = (zLoad w ky k P).1 ∧ k1 = (zLoad w ky k P).2.1 ∧ ∀ j, j < k1 → P1 j = (zLoad w ky k P).2.2 j)) (fun (uU : Nat × (Nat → Int32) × Nat × (Nat → Int32) × Nat × (Nat → Int32)) tS => match uU with | (k1, P1, mz1, M1, nh1, H1) => va_P (dC, dI) vwCl [(qm, .inr (4, [.ref qmd, .ref qmt, .int (nI n), .int (bI true), .int lf, .int (nI dn), .int pl, .ref qml, .int (nI k1), .ref qmk, .int (nI mz1), .ref qmh, .int (nI nh1), .int (nI 0), .ref qmw])), (qmd, .inl (cyI, 512, .inl w)), (qml, .inl (cyI, 460, .inl P1)), (qmk, .inl (cyI, 460, .inl M1)), (qmh, .inl (cyI, 460, .inl H1))] tS.heap ∧ va_K (dC, dI) vwCl [(cyI, .int), (cyZ, .boolean)] tS ∧ va_D (va_A [(qm, .inr (4, [.ref qmd, .ref qmt, .int (nI n), .int (bI true), .int lf, .int (nI dn), .int pl, .ref qml, .int (nI k), .ref qmk, .int (nI mz), .ref qmh, .int (nI nh), .int th, .ref qmw])), (qmd, .inl (cyI, 512, .inl w)), (qml, .inl (cyI, 460, .inl P)), (qmk, .inl (cyI, 460, .inl M)), (qmh, .inl (cyI, 460, .inl Hd))] sz) [(qm, .inr (4, [.ref qmd, .ref qmt, .int (nI n), .int (bI true), .int lf, .int (nI dn), .int pl, .ref qml, .int (nI k1), .ref qmk, .int (nI mz1), .ref qmh, .int (nI nh1), .int (nI 0), .ref qmw])), (qmd, .inl (cyI, 512, .inl w)), (qml, .inl (cyI, 460, .inl P1)), (qmk, .inl (cyI, 460, .inl M1)), (qmh, .inl (cyI, 460, .inl H1))]) (va_A [(qm, .inr (4, [.ref qmd, .ref qmt, .int (nI n), .int (bI true), .int lf, .int (nI dn), .int pl, .ref qml, .int (nI k), .ref qmk, .int (nI mz), .ref qmh, .int (nI nh), .int th, .ref qmw])), (qmd, .inl (cyI, 512, .inl w)), (qml, .inl (cyI, 460, .inl P)), (qmk, .inl (cyI, 460, .inl M)), (qmh, .inl (cyI, 460, .inl Hd))] sz)) 0 0 (va_A [(qm, .inr (4, [.ref qmd, .ref qmt, .int (nI n), .int (bI true), .int lf, .int (nI dn), .int pl, .ref qml, .int (nI k), .ref qmk, .int (nI mz), .ref qmh, .int (nI nh), .int th, .ref qmw])), (qmd, .inl (cyI, 512, .inl w)), (qml, .inl (cyI, 460, .inl P)), (qmk, .inl (cyI, 460, .inl M)), (qmh, .inl (cyI, 460, .inl Hd))] sz) := by
  refine Met.ofW (cc := cX5_load) (maxL := 6) (ret := (some .int)) (by decide) rfl ?_
  intro pz ez sS mM args below meth cC s₁ B hml hv
  obtain ⟨rfl, hsz, hP, hK, hD0⟩ := hv
  have hx := B.exec
  have hb := B.bytes
  have hr := B.returns
  have hts := atoms_spec (ws := wsX5_load) B.pre
  have hown : sS.vm.findClass RX5 = some mM.cls := findClass_of_methodNamed B.named
  have hlocks := B.notSynchronized
  subst hsz
  have hD := hD0.self (sz := sS.heap.size)
  generalize hAe : va_A [(qm, .inr (4, [.ref qmd, .ref qmt, .int (nI n), .int (bI true), .int lf, .int (nI dn), .int pl, .ref qml, .int (nI k), .ref qmk, .int (nI mz), .ref qmh, .int (nI nh), .int th, .ref qmw])), (qmd, .inl (cyI, 512, .inl w)), (qml, .inl (cyI, 460, .inl P)), (qmk, .inl (cyI, 460, .inl M)), (qmh, .inl (cyI, 460, .inl Hd))] sS.heap.size = A at hD ⊢
  have hA : ∀ q : Nat, sS.heap.size ≤ q → A q := fun q h => by rw [← hAe]; exact Or.inr h
  have hS : va_S A sS.heap sS.heap [] := va_S.rf
  have hP : va_P (dC, dI) vwCl [(qm, .inr (4, [.ref qmd, .ref qmt, .int (nI n), .int (bI true), .int lf, .int (nI dn), .int pl, .ref qml, .int (nI k), .ref qmk, .int (nI mz), .ref qmh, .int (nI nh), .int th, .ref qmw])), (qmd, .inl (cyI, 512, .inl w)), (qml, .inl (cyI, 460, .inl P)), (qmk, .inl (cyI, 460, .inl M)), (qmh, .inl (cyI, 460, .inl Hd))] sS.heap := hP
  have iwX5 : ∀ w ∈ wsX50, w ∈ wsX5_load := by decide +kernel
  have fk7 := hts (.fieldLink RX5 7 "CodedStoreModel" "disk" "[I") (by decide +kernel)
  have fk16 := hts (.fieldLink RX5 16 "CodedStoreModel" "on" "Z") (by decide +kernel)
  have fk30 := hts (.fieldLink RX5 30 "CodedStoreModel" "made" "[I") (by decide +kernel)
  have fk33 := hts (.fieldLink RX5 33 "CodedStoreModel" "hand" "[I") (by decide +kernel)
  have fk43 := hts (.fieldLink RX5 43 "CodedStoreModel" "thrown" "I") (by decide +kernel)
  have fk48 := hts (.fieldLink RX5 48 "CodedStoreModel" "handSize" "I") (by decide +kernel)
  have fk51 := hts (.fieldLink RX5 51 "CodedStoreModel" "madeSize" "I") (by decide +kernel)
  have fk66 := hts (.fieldLink RX5 66 "CodedStoreModel" "loadedSize" "I") (by decide +kernel)
  have hl := lv_entry ([.ref qm, .int ky]) (n := 6) (Nat.le_of_ble_eq_true rfl)
  rw [lg_entry_eq]
  generalize (lg_sl ([.ref qm, .int ky]) ++ List.replicate (6 - (lg_sl ([.ref qm, .int ky])).length) Slot.unset).toArray = ls at hl ⊢
  have hl : lv_has ls 6 [(0, .ref qm), (1, .int ky)] := hl
  refine lv_aload_n hx hb dX5_load_0 rfl (lv_at hl 0 rfl) ?_
  refine lv_iconst (v := nI 0) hx hb dX5_load_1 (by decide) ?_
  refine va_put (D := (dC, dI)) (ci := 4) (v := .int (nI 0)) (ty := .int) (C := RX5) (T := TX5) (N := 15) hx hb hts iwX5 tyX5 tyX5_ok nmX5 hown hK hP hD hS 0 rfl rfl 13 (by decide) fk43 (fun _ h9 => h9) rfl (by decide +kernel) rfl rfl (Nat.le_of_ble_eq_true rfl) dX5_load_2 (fun H locs hP hD hS => ?_)
  have hP : va_P (dC, dI) vwCl [(qm, .inr (4, [.ref qmd, .ref qmt, .int (nI n), .int (bI true), .int lf, .int (nI dn), .int pl, .ref qml, .int (nI k), .ref qmk, .int (nI mz), .ref qmh, .int (nI nh), .int (nI 0), .ref qmw])), (qmd, .inl (cyI, 512, .inl w)), (qml, .inl (cyI, 460, .inl P)), (qmk, .inl (cyI, 460, .inl M)), (qmh, .inl (cyI, 460, .inl Hd))] H := hP
  have hD : va_D A [(qm, .inr (4, [.ref qmd, .ref qmt, .int (nI n), .int (bI true), .int lf, .int (nI dn), .int pl, .ref qml, .int (nI k), .ref qmk, .int (nI mz), .ref qmh, .int (nI nh), .int (nI 0), .ref qmw])), (qmd, .inl (cyI, 512, .inl w)), (qml, .inl (cyI, 460, .inl P)), (qmk, .inl (cyI, 460, .inl M)), (qmh, .inl (cyI, 460, .inl Hd))] := hD
  refine lv_aload_n hx hb dX5_load_5 rfl (lv_at hl 0 rfl) ?_
  refine va_get (D := (dC, dI)) (ci := 4) (v := .int (bI true)) (C := RX5) (T := TX5) (N := 15) hx hb hts iwX5 hown hK hP 0 rfl rfl 3 (by decide) fk16 (fun _ h9 => h9) rfl dX5_load_6 ?_
  refine lv_if_ne (tgt := 15) hx hb dX5_load_9 (by decide) (fun c_9 => ?_) (fun c_9 => absurd c_9 (by decide))
  refine lv_aload_n hx hb dX5_load_15 rfl (lv_at hl 0 rfl) ?_
  refine lv_iload_n hx hb dX5_load_16 rfl (lv_at hl 1 rfl) ?_
  have hPc := hP.sub (ws' := [(qm, .inr (4, [.ref qmd, .ref qmt, .int (nI n), .int (bI true), .int lf, .int (nI dn), .int pl, .ref qml, .int (nI k), .ref qmk, .int (nI mz), .ref qmh, .int (nI nh), .int (nI 0), .ref qmw])), (qmd, .inl (cyI, 512, .inl w))]) [0, 1] rfl
  have hKc := hK.sub (tys' := [(cyI, .int), (cyZ, .boolean)]) [0, 1] rfl
  refine vp_callSi (va_Run.run (va_runV (As := [.int ky]) (rest := []) ⟨hx, hb, hml, hown, hts⟩ (c_X5_find l dC dI cyI cyZ qm qmd qmt qml qmk qmh qmw n true lf dn pl k mz nh (nI 0) w ky (HP0)) (cwV 1 hts gX5_load_X5_find rfl rfl rfl (by decide +kernel) ⟨Nat.le_of_ble_eq_true rfl, Nat.le_of_ble_eq_true rfl⟩) ⟨zz_blR, va_recv hKc hPc (ci := 4) (q0 := 0) rfl rfl, fun U hU hW => ⟨rfl, by rw [hU]; exact hPc, va_K.moved hW.alike hKc⟩⟩ rfl rfl hl.1 rfl (lv_room (Nat.le_of_ble_eq_true rfl)) dX5_load_17 ⟨Nat.zero_le _, Nat.zero_le _⟩)) (fun r_17 hr_17 => ?_)
  have hr_17 : zFI (zFst (kIs (kLive w) w ky) 64) 64 = r_17 := Eq.symm hr_17
  subst hr_17
  by_cases hf : kF w ky < 64
  ·
    refine zz_top (show zFI (zFst (kIs (kLive w) w ky) 64) 64 = nI (kF w ky) from zFI_t hf) ?_
    have hI : kIs (kLive w) w ky (kF w ky) = true := zFst_yes hf
    refine lv_istore_n (lv' := [(2, .int (nI (kF w ky))), (0, .ref qm), (1, .int ky)]) hx hb dX5_load_20 rfl hl (by decide) rfl (fun ls hl => ?_)
    refine lv_iload_n hx hb dX5_load_21 rfl (lv_at hl 0 rfl) ?_
    refine zn_if_lt (tgt := 34) hx hb dX5_load_22 (by decide) (by omega) ?_
    refine lv_aload_n hx hb dX5_load_25 rfl (lv_at hl 1 rfl) ?_
    refine lv_iload_n hx hb dX5_load_26 rfl (lv_at hl 0 rfl) ?_
    have hPc := hP.sub (ws' := [(qm, .inr (4, [.ref qmd, .ref qmt, .int (nI n), .int (bI true), .int lf, .int (nI dn), .int pl, .ref qml, .int (nI k), .ref qmk, .int (nI mz), .ref qmh, .int (nI nh), .int (nI 0), .ref qmw])), (qmd, .inl (cyI, 512, .inl w))]) [0, 1] rfl
    have hKc := hK.sub (tys' := [(cyI, .int), (cyZ, .boolean)]) [0, 1] rfl
    refine vp_callSi (va_Run.run (va_runV (As := [.int (nI (kF w ky))]) (rest := []) ⟨hx, hb, hml, hown, hts⟩ (c_X5_formOf l dC dI cyI cyZ qm qmd qmt qml qmk qmh qmw n true lf dn pl k mz nh (nI 0) w (kF w ky) (hf)) (cwV 1 hts gX5_load_X5_formOf rfl rfl rfl (by decide +kernel) ⟨Nat.le_of_ble_eq_true rfl, Nat.le_of_ble_eq_true rfl⟩) ⟨zz_blR, va_recv hKc hPc (ci := 4) (q0 := 0) rfl rfl, fun U hU hW => ⟨rfl, by rw [hU]; exact hPc, va_K.moved hW.alike hKc⟩⟩ rfl rfl hl.1 rfl (lv_room (Nat.le_of_ble_eq_true rfl)) dX5_load_27 ⟨Nat.zero_le _, Nat.zero_le _⟩)) (fun r_27 hr_27 => ?_)
    have hr_27 : kForm w (kF w ky) = r_27 := Eq.symm hr_27
    subst hr_27
    refine lv_iconst (v := nI 2) hx hb dX5_load_30 (by decide) ?_
    refine lv_icmp_ne (tgt := 37) hx hb dX5_load_31 (by decide) (fun c_31 => ?_) (fun c_31 => ?_)
    ·
      obtain ⟨ps, zn, g1, g2, g3, g4, g5, g6⟩ := HG _ hf (kIs_text hI c_31)
      have hvn : vN (kOct w (kF w ky)) = zn := (congrArg vN g3).trans (vN_nI (by omega))
      have hB0 : ¬ kNum w (kF w ky) = nI 0 := kText_num rfl (kIs_text hI c_31)
      refine lv_aload_n hx hb dX5_load_37 rfl (lv_at hl 1 rfl) ?_
      refine lv_aload_n hx hb dX5_load_38 rfl (lv_at hl 1 rfl) ?_
      refine va_get (D := (dC, dI)) (ci := 4) (v := .ref qmd) (C := RX5) (T := TX5) (N := 15) hx hb hts iwX5 hown hK hP 0 rfl rfl 0 (by decide) fk7 (fun _ h9 => h9) rfl dX5_load_39 ?_
      refine lv_bipush (v := nI 8) hx hb dX5_load_42 (by decide) ?_
      refine lv_iload_n hx hb dX5_load_44 rfl (lv_at hl 0 rfl) ?_
      refine lv_imul hx hb dX5_load_45 ?_
      refine zz_top (pk_mul 8 (kF w ky)) ?_
      refine lv_iconst (v := nI 3) hx hb dX5_load_46 (by decide) ?_
      refine lv_iadd hx hb dX5_load_47 ?_
      refine zz_top (nI_add (8 * (kF w ky)) 3) ?_
      refine va_iald hx hb hK hP 1 0 rfl rfl (vp_in_nI (n := 8 * (kF w ky) + 3) (by omega) (by decide)) dX5_load_48 ?_
      refine zz_top (congrArg w (nI_clamp (n := 8 * (kF w ky) + 3) (by omega))) ?_
      refine zz_top (g3) ?_
      refine va_put (D := (dC, dI)) (ci := 4) (v := .int (nI zn)) (ty := .int) (C := RX5) (T := TX5) (N := 15) hx hb hts iwX5 tyX5 tyX5_ok nmX5 hown hK hP hD hS 0 rfl rfl 12 (by decide) fk48 (fun _ h9 => h9) rfl (by decide +kernel) rfl rfl (Nat.le_of_ble_eq_true rfl) dX5_load_49 (fun H locs hP hD hS => ?_)
      have hP : va_P (dC, dI) vwCl [(qm, .inr (4, [.ref qmd, .ref qmt, .int (nI n), .int (bI true), .int lf, .int (nI dn), .int pl, .ref qml, .int (nI k), .ref qmk, .int (nI mz), .ref qmh, .int (nI zn), .int (nI 0), .ref qmw])), (qmd, .inl (cyI, 512, .inl w)), (qml, .inl (cyI, 460, .inl P)), (qmk, .inl (cyI, 460, .inl M)), (qmh, .inl (cyI, 460, .inl Hd))] H := hP
      have hD : va_D A [(qm, .inr (4, [.ref qmd, .ref qmt, .int (nI n), .int (bI true), .int lf, .int (nI dn), .int pl, .ref qml, .int (nI k), .ref qmk, .int (nI mz), .ref qmh, .int (nI zn), .int (nI 0), .ref qmw])), (qmd, .inl (cyI, 512, .inl w)), (qml, .inl (cyI, 460, .inl P)), (qmk, .inl (cyI, 460, .inl M)), (qmh, .inl (cyI, 460, .inl Hd))] := hD
      refine lv_iconst (v := nI 0) hx hb dX5_load_52 (by decide) ?_
      refine lv_istore_n (lv' := [(3, .int (nI 0)), (2, .int (nI (kF w ky))), (0, .ref qm), (1, .int ky)]) hx hb dX5_load_53 rfl hl (by decide) rfl (fun ls hl => ?_)
      refine zz_loopW (pc := 54) (μ := fun (x : Nat × (Nat → Int32)) => match x with | (v, Hd1) => 64 - v) (Inv := fun (x : Nat × (Nat → Int32)) (H : Heap) (locs : List Loc) (ls : Array Slot) => match x with | (v, Hd1) => (v ≤ 64) ∧ (zHd w (kF w ky) zn v 0 0 Hd1) ∧ va_P (dC, dI) vwCl [(qm, .inr (4, [.ref qmd, .ref qmt, .int (nI n), .int (bI true), .int lf, .int (nI dn), .int pl, .ref qml, .int (nI k), .ref qmk, .int (nI mz), .ref qmh, .int (nI zn), .int (nI 0), .ref qmw])), (qmd, .inl (cyI, 512, .inl w)), (qml, .inl (cyI, 460, .inl P)), (qmk, .inl (cyI, 460, .inl M)), (qmh, .inl (cyI, 460, .inl Hd1))] H ∧ va_D A [(qm, .inr (4, [.ref qmd, .ref qmt, .int (nI n), .int (bI true), .int lf, .int (nI dn), .int pl, .ref qml, .int (nI k), .ref qmk, .int (nI mz), .ref qmh, .int (nI zn), .int (nI 0), .ref qmw])), (qmd, .inl (cyI, 512, .inl w)), (qml, .inl (cyI, 460, .inl P)), (qmk, .inl (cyI, 460, .inl M)), (qmh, .inl (cyI, 460, .inl Hd1))] ∧ va_S A sS.heap H locs ∧ lv_has ls 6 [(0, .ref qm), (1, .int ky), (2, .int (nI (kF w ky))), (3, .int (nI v))]) (x0 := (0, Hd)) ⟨by omega, fun j hj hh => hh.elim (fun z => absurd z (Nat.not_lt_zero _)) (fun z => absurd z.2.2 (Nat.not_lt_zero _)), hP, hD, hS, lv_sub hl [2, 3, 1, 0] rfl⟩ ?_
      intro ⟨v, Hd1⟩ H locs ls hI ih54
      obtain ⟨hv9, hH, hP, hD, hS, hl⟩ := hI
      have hl : lv_has ls 6 [(0, .ref qm), (1, .int ky), (2, .int (nI (kF w ky))), (3, .int (nI v))] := hl
      have hP : va_P (dC, dI) vwCl [(qm, .inr (4, [.ref qmd, .ref qmt, .int (nI n), .int (bI true), .int lf, .int (nI dn), .int pl, .ref qml, .int (nI k), .ref qmk, .int (nI mz), .ref qmh, .int (nI zn), .int (nI 0), .ref qmw])), (qmd, .inl (cyI, 512, .inl w)), (qml, .inl (cyI, 460, .inl P)), (qmk, .inl (cyI, 460, .inl M)), (qmh, .inl (cyI, 460, .inl Hd1))] H := hP
      have hD : va_D A [(qm, .inr (4, [.ref qmd, .ref qmt, .int (nI n), .int (bI true), .int lf, .int (nI dn), .int pl, .ref qml, .int (nI k), .ref qmk, .int (nI mz), .ref qmh, .int (nI zn), .int (nI 0), .ref qmw])), (qmd, .inl (cyI, 512, .inl w)), (qml, .inl (cyI, 460, .inl P)), (qmk, .inl (cyI, 460, .inl M)), (qmh, .inl (cyI, 460, .inl Hd1))] := hD
      have hv9 : v ≤ 64 := hv9
      have hH : zHd w (kF w ky) zn v 0 0 Hd1 := hH
      refine lv_iload_n hx hb dX5_load_54 rfl (lv_at hl 3 rfl) ?_
      refine lv_bipush (v := nI 64) hx hb dX5_load_55 (by decide) ?_
      refine zn_icmp_ge (tgt := 158) hx hb dX5_load_57 (by decide) (by omega) (by omega) (fun c_57 => ?_) (fun c_57 => ?_)
      ·
        have hHf := zHd_all c_57 g5 g6 hH
        refine lv_aload_n hx hb dX5_load_158 rfl (lv_at hl 0 rfl) ?_
        refine lv_iload_n hx hb dX5_load_159 rfl (lv_at hl 2 rfl) ?_
        have hPc := hP.sub (ws' := [(qm, .inr (4, [.ref qmd, .ref qmt, .int (nI n), .int (bI true), .int lf, .int (nI dn), .int pl, .ref qml, .int (nI k), .ref qmk, .int (nI mz), .ref qmh, .int (nI zn), .int (nI 0), .ref qmw])), (qmd, .inl (cyI, 512, .inl w))]) [0, 1] rfl
        have hKc := hK.sub (tys' := [(cyI, .int), (cyZ, .boolean)]) [0, 1] rfl
        refine vp_callSi (va_Run.run (va_runV (As := [.int (nI (kF w ky))]) (rest := []) ⟨hx, hb, hml, hown, hts⟩ (c_X5_formOf l dC dI cyI cyZ qm qmd qmt qml qmk qmh qmw n true lf dn pl k mz zn (nI 0) w (kF w ky) (hf)) (cwV 1 hts gX5_load_X5_formOf rfl rfl rfl (by decide +kernel) ⟨Nat.le_of_ble_eq_true rfl, Nat.le_of_ble_eq_true rfl⟩) ⟨zz_blR, va_recv hKc hPc (ci := 4) (q0 := 0) rfl rfl, fun U hU hW => ⟨rfl, by rw [hU]; exact hPc, va_K.moved hW.alike hKc⟩⟩ rfl rfl hl.1 rfl (lv_room (Nat.le_of_ble_eq_true rfl)) dX5_load_160 ⟨Nat.zero_le _, Nat.zero_le _⟩)) (fun r_160 hr_160 => ?_)
        have hr_160 : kForm w (kF w ky) = r_160 := Eq.symm hr_160
        subst hr_160
        refine lv_iconst (v := nI 1) hx hb dX5_load_163 (by decide) ?_
        refine lv_icmp_ne (tgt := 175) hx hb dX5_load_164 (by decide) (fun c_164 => ?_) (fun c_164 => ?_)
        ·
          refine lv_aload_n hx hb dX5_load_175 rfl (lv_at hl 0 rfl) ?_
          refine lv_aload_n hx hb dX5_load_176 rfl (lv_at hl 0 rfl) ?_
          refine va_get (D := (dC, dI)) (ci := 4) (v := .int (nI zn)) (C := RX5) (T := TX5) (N := 15) hx hb hts iwX5 hown hK hP 0 rfl rfl 12 (by decide) fk48 (fun _ h9 => h9) rfl dX5_load_177 ?_
          refine va_put (D := (dC, dI)) (ci := 4) (v := .int (nI zn)) (ty := .int) (C := RX5) (T := TX5) (N := 15) hx hb hts iwX5 tyX5 tyX5_ok nmX5 hown hK hP hD hS 0 rfl rfl 10 (by decide) fk51 (fun _ h9 => h9) rfl (by decide +kernel) rfl rfl (Nat.le_of_ble_eq_true rfl) dX5_load_180 (fun H locs hP hD hS => ?_)
          have hP : va_P (dC, dI) vwCl [(qm, .inr (4, [.ref qmd, .ref qmt, .int (nI n), .int (bI true), .int lf, .int (nI dn), .int pl, .ref qml, .int (nI k), .ref qmk, .int (nI zn), .ref qmh, .int (nI zn), .int (nI 0), .ref qmw])), (qmd, .inl (cyI, 512, .inl w)), (qml, .inl (cyI, 460, .inl P)), (qmk, .inl (cyI, 460, .inl M)), (qmh, .inl (cyI, 460, .inl Hd1))] H := hP
          have hD : va_D A [(qm, .inr (4, [.ref qmd, .ref qmt, .int (nI n), .int (bI true), .int lf, .int (nI dn), .int pl, .ref qml, .int (nI k), .ref qmk, .int (nI zn), .ref qmh, .int (nI zn), .int (nI 0), .ref qmw])), (qmd, .inl (cyI, 512, .inl w)), (qml, .inl (cyI, 460, .inl P)), (qmk, .inl (cyI, 460, .inl M)), (qmh, .inl (cyI, 460, .inl Hd1))] := hD
          refine lv_iconst (v := nI 0) hx hb dX5_load_183 (by decide) ?_
          refine lv_istore_n (lv' := [(3, .int (nI 0)), (0, .ref qm), (1, .int ky), (2, .int (nI (kF w ky)))]) hx hb dX5_load_184 rfl hl (by decide) rfl (fun ls hl => ?_)
          refine zz_loopW (pc := 185) (μ := fun (x : Nat × (Nat → Int32)) => match x with | (i, M9) => zn - i) (Inv := fun (x : Nat × (Nat → Int32)) (H : Heap) (locs : List Loc) (ls : Array Slot) => match x with | (i, M9) => (i ≤ zn) ∧ (∀ j, j < i → M9 j = Hd1 j) ∧ va_P (dC, dI) vwCl [(qm, .inr (4, [.ref qmd, .ref qmt, .int (nI n), .int (bI true), .int lf, .int (nI dn), .int pl, .ref qml, .int (nI k), .ref qmk, .int (nI zn), .ref qmh, .int (nI zn), .int (nI 0), .ref qmw])), (qmd, .inl (cyI, 512, .inl w)), (qml, .inl (cyI, 460, .inl P)), (qmk, .inl (cyI, 460, .inl M9)), (qmh, .inl (cyI, 460, .inl Hd1))] H ∧ va_D A [(qm, .inr (4, [.ref qmd, .ref qmt, .int (nI n), .int (bI true), .int lf, .int (nI dn), .int pl, .ref qml, .int (nI k), .ref qmk, .int (nI zn), .ref qmh, .int (nI zn), .int (nI 0), .ref qmw])), (qmd, .inl (cyI, 512, .inl w)), (qml, .inl (cyI, 460, .inl P)), (qmk, .inl (cyI, 460, .inl M9)), (qmh, .inl (cyI, 460, .inl Hd1))] ∧ va_S A sS.heap H locs ∧ lv_has ls 6 [(0, .ref qm), (1, .int ky), (2, .int (nI (kF w ky))), (3, .int (nI i))]) (x0 := (0, M)) ⟨by omega, no_lt0, hP, hD, hS, lv_sub hl [1, 2, 3, 0] rfl⟩ ?_
          intro ⟨i, M9⟩ H locs ls hI ih185
          obtain ⟨hi, hM9, hP, hD, hS, hl⟩ := hI
          have hl : lv_has ls 6 [(0, .ref qm), (1, .int ky), (2, .int (nI (kF w ky))), (3, .int (nI i))] := hl
          have hP : va_P (dC, dI) vwCl [(qm, .inr (4, [.ref qmd, .ref qmt, .int (nI n), .int (bI true), .int lf, .int (nI dn), .int pl, .ref qml, .int (nI k), .ref qmk, .int (nI zn), .ref qmh, .int (nI zn), .int (nI 0), .ref qmw])), (qmd, .inl (cyI, 512, .inl w)), (qml, .inl (cyI, 460, .inl P)), (qmk, .inl (cyI, 460, .inl M9)), (qmh, .inl (cyI, 460, .inl Hd1))] H := hP
          have hD : va_D A [(qm, .inr (4, [.ref qmd, .ref qmt, .int (nI n), .int (bI true), .int lf, .int (nI dn), .int pl, .ref qml, .int (nI k), .ref qmk, .int (nI zn), .ref qmh, .int (nI zn), .int (nI 0), .ref qmw])), (qmd, .inl (cyI, 512, .inl w)), (qml, .inl (cyI, 460, .inl P)), (qmk, .inl (cyI, 460, .inl M9)), (qmh, .inl (cyI, 460, .inl Hd1))] := hD
          have hi : i ≤ zn := hi
          have hM9 : ∀ j, j < i → M9 j = Hd1 j := hM9
          refine lv_iload_n hx hb dX5_load_185 rfl (lv_at hl 3 rfl) ?_
          refine lv_aload_n hx hb dX5_load_186 rfl (lv_at hl 0 rfl) ?_
          refine va_get (D := (dC, dI)) (ci := 4) (v := .int (nI zn)) (C := RX5) (T := TX5) (N := 15) hx hb hts iwX5 hown hK hP 0 rfl rfl 12 (by decide) fk48 (fun _ h9 => h9) rfl dX5_load_187 ?_
          refine zn_icmp_ge (tgt := 211) hx hb dX5_load_190 (by decide) (by omega) (by omega) (fun c_190 => ?_) (fun c_190 => ?_)
          ·
            refine lv_aload_n hx hb dX5_load_211 rfl (lv_at hl 0 rfl) ?_
            have hPc := hP.sub (ws' := [(qm, .inr (4, [.ref qmd, .ref qmt, .int (nI n), .int (bI true), .int lf, .int (nI dn), .int pl, .ref qml, .int (nI k), .ref qmk, .int (nI zn), .ref qmh, .int (nI zn), .int (nI 0), .ref qmw])), (qml, .inl (cyI, 460, .inl P)), (qmk, .inl (cyI, 460, .inl M9))]) [0, 2, 3] rfl
            have hKc := hK.sub (tys' := [(cyI, .int), (cyZ, .boolean)]) [0, 1] rfl
            have hDc := hD.sub (ws' := [(qm, .inr (4, [.ref qmd, .ref qmt, .int (nI n), .int (bI true), .int lf, .int (nI dn), .int pl, .ref qml, .int (nI k), .ref qmk, .int (nI zn), .ref qmh, .int (nI zn), .int (nI 0), .ref qmw])), (qml, .inl (cyI, 460, .inl P)), (qmk, .inl (cyI, 460, .inl M9))]) [0, 2, 3] (by decide) rfl
            have hFc := va_free (wc := [(qm, .inr (4, [.ref qmd, .ref qmt, .int (nI n), .int (bI true), .int lf, .int (nI dn), .int pl, .ref qml, .int (nI k), .ref qmk, .int (nI zn), .ref qmh, .int (nI zn), .int (nI 0), .ref qmw])), (qml, .inl (cyI, 460, .inl P)), (qmk, .inl (cyI, 460, .inl M9))]) hD hS hA [0, 2, 3] rfl
            refine va_callv (va_runV (As := []) (rest := []) ⟨hx, hb, hml, hown, hts⟩ (c_X5_load0 l dC dI cyI cyZ qm qml qmk qmd qmt qmh qmw H.size n true lf dn pl k zn zn (nI 0) P M9 (by omega)) (cwV 0 hts gX5_load_X5_load0 rfl rfl rfl (by decide +kernel) ⟨Nat.le_of_ble_eq_true rfl, Nat.le_of_ble_eq_true rfl⟩) ⟨zz_blW, va_recv hKc hPc (ci := 4) (q0 := 0) rfl rfl, fun U hU hW => ⟨rfl, by rw [hU], by rw [hU]; exact hPc, va_K.moved hW.alike hKc, hDc.weaken (fun _ _ _ _ => trivial)⟩⟩ rfl rfl hl.1 rfl (lv_room (Nat.le_of_ble_eq_true rfl)) dX5_load_212 ⟨Nat.zero_le _, Nat.zero_le _⟩) hS (fun q _ h => hFc q h) hFc (fun uU tS H1 locs ht9 hvm9 hw9 hB9 hz1 hk1 hS => ?_)
            obtain ⟨P1_212, rfl⟩ : ∃ z, z = uU := ⟨_, rfl⟩
            obtain ⟨hP1, hK1, hD1⟩ := hB9
            have hw9 : (∀ j, j < zn → P1_212 j = M9 j) := hw9
            have hP1_212 := hw9
            rw [ht9] at hP1
            have hK1 := va_K.moved hvm9.symm hK1
            obtain ⟨hP, hD⟩ := va_join (wr := [(qmd, .inl (cyI, 512, .inl w)), (qmh, .inl (cyI, 460, .inl Hd1))]) (w1 := [(qm, .inr (4, [.ref qmd, .ref qmt, .int (nI n), .int (bI true), .int lf, .int (nI dn), .int pl, .ref qml, .int (nI zn), .ref qmk, .int (nI zn), .ref qmh, .int (nI zn), .int (nI 0), .ref qmw])), (qml, .inl (cyI, 460, .inl P1_212)), (qmk, .inl (cyI, 460, .inl M9))]) hP hD [0, 2, 3] [1, 4] rfl rfl (by decide) (by decide) hk1 hFc hP1 hD1
            generalize H1 = H at hP hS ⊢
            have hP : va_P (dC, dI) vwCl [(qmd, .inl (cyI, 512, .inl w)), (qmh, .inl (cyI, 460, .inl Hd1)), (qm, .inr (4, [.ref qmd, .ref qmt, .int (nI n), .int (bI true), .int lf, .int (nI dn), .int pl, .ref qml, .int (nI zn), .ref qmk, .int (nI zn), .ref qmh, .int (nI zn), .int (nI 0), .ref qmw])), (qml, .inl (cyI, 460, .inl P1_212)), (qmk, .inl (cyI, 460, .inl M9))] H := hP
            have hD : va_D A [(qmd, .inl (cyI, 512, .inl w)), (qmh, .inl (cyI, 460, .inl Hd1)), (qm, .inr (4, [.ref qmd, .ref qmt, .int (nI n), .int (bI true), .int lf, .int (nI dn), .int pl, .ref qml, .int (nI zn), .ref qmk, .int (nI zn), .ref qmh, .int (nI zn), .int (nI 0), .ref qmw])), (qml, .inl (cyI, 460, .inl P1_212)), (qmk, .inl (cyI, 460, .inl M9))] := hD
            refine lv_aload_n hx hb dX5_load_215 rfl (lv_at hl 0 rfl) ?_
            refine va_get (D := (dC, dI)) (ci := 4) (v := .int (nI zn)) (C := RX5) (T := TX5) (N := 15) hx hb hts iwX5 hown hK hP 2 rfl rfl 8 (by decide) fk66 (fun _ h9 => h9) rfl dX5_load_216 ?_
            have eL := zLoad_0 (k := k) (P := P) hf (kIs_text hI c_31) c_164 hvn
            have hP9 := hP.sub (ws' := [(qm, .inr (4, [.ref qmd, .ref qmt, .int (nI n), .int (bI true), .int lf, .int (nI dn), .int pl, .ref qml, .int (nI zn), .ref qmk, .int (nI zn), .ref qmh, .int (nI zn), .int (nI 0), .ref qmw])), (qmd, .inl (cyI, 512, .inl w)), (qml, .inl (cyI, 460, .inl P1_212)), (qmk, .inl (cyI, 460, .inl M9)), (qmh, .inl (cyI, 460, .inl Hd1))]) [2, 0, 3, 4, 1] rfl
            have hD9 := hD.sub (ws' := [(qm, .inr (4, [.ref qmd, .ref qmt, .int (nI n), .int (bI true), .int lf, .int (nI dn), .int pl, .ref qml, .int (nI zn), .ref qmk, .int (nI zn), .ref qmh, .int (nI zn), .int (nI 0), .ref qmw])), (qmd, .inl (cyI, 512, .inl w)), (qml, .inl (cyI, 460, .inl P1_212)), (qmk, .inl (cyI, 460, .inl M9)), (qmh, .inl (cyI, 460, .inl Hd1))]) [2, 0, 3, 4, 1] (by decide) rfl
            have hK9 := hK.sub (tys' := [(cyI, .int), (cyZ, .boolean)]) [0, 1] rfl
            exact W.iret hx hb hr (fun tS ht hW => ⟨⟨_, (zn, P1_212, zn, M9, zn, Hd1), rfl, by rw [eL]; exact ⟨rfl, rfl, fun j hj => (hP1_212 j hj).trans ((hM9 j (by omega)).trans (hHf j hj))⟩, by rw [ht]; exact hP9, va_K.moved hW.alike hK9, hD9⟩, hS.F ht⟩) hS.2.2 dX5_load_219
          ·
            refine lv_aload_n hx hb dX5_load_193 rfl (lv_at hl 0 rfl) ?_
            refine va_get (D := (dC, dI)) (ci := 4) (v := .ref qmk) (C := RX5) (T := TX5) (N := 15) hx hb hts iwX5 hown hK hP 0 rfl rfl 9 (by decide) fk30 (fun _ h9 => h9) rfl dX5_load_194 ?_
            refine lv_iload_n hx hb dX5_load_197 rfl (lv_at hl 3 rfl) ?_
            refine lv_aload_n hx hb dX5_load_198 rfl (lv_at hl 0 rfl) ?_
            refine va_get (D := (dC, dI)) (ci := 4) (v := .ref qmh) (C := RX5) (T := TX5) (N := 15) hx hb hts iwX5 hown hK hP 0 rfl rfl 11 (by decide) fk33 (fun _ h9 => h9) rfl dX5_load_199 ?_
            refine lv_iload_n hx hb dX5_load_202 rfl (lv_at hl 3 rfl) ?_
            refine va_iald hx hb hK hP 4 0 rfl rfl (vp_in_nI (n := i) (by omega) (by decide)) dX5_load_203 ?_
            refine zz_top (congrArg Hd1 (nI_clamp (n := i) (by omega))) ?_
            refine va_iast hx hb hK hP hD hS 3 0 rfl rfl (vp_in_nI (n := i) (by omega) (by decide)) dX5_load_204 (fun H locs hP hD hS => ?_)
            rw [nI_clamp (n := i) (by omega)] at hP hD
            have hP : va_P (dC, dI) vwCl [(qm, .inr (4, [.ref qmd, .ref qmt, .int (nI n), .int (bI true), .int lf, .int (nI dn), .int pl, .ref qml, .int (nI k), .ref qmk, .int (nI zn), .ref qmh, .int (nI zn), .int (nI 0), .ref qmw])), (qmd, .inl (cyI, 512, .inl w)), (qml, .inl (cyI, 460, .inl P)), (qmk, .inl (cyI, 460, .inl (upd M9 i (Hd1 i)))), (qmh, .inl (cyI, 460, .inl Hd1))] H := hP
            have hD : va_D A [(qm, .inr (4, [.ref qmd, .ref qmt, .int (nI n), .int (bI true), .int lf, .int (nI dn), .int pl, .ref qml, .int (nI k), .ref qmk, .int (nI zn), .ref qmh, .int (nI zn), .int (nI 0), .ref qmw])), (qmd, .inl (cyI, 512, .inl w)), (qml, .inl (cyI, 460, .inl P)), (qmk, .inl (cyI, 460, .inl (upd M9 i (Hd1 i)))), (qmh, .inl (cyI, 460, .inl Hd1))] := hD
            refine lv_iinc (v := nI (i + 1)) (lv' := [(3, .int (nI (i + 1))), (0, .ref qm), (1, .int ky), (2, .int (nI (kF w ky)))]) hx hb dX5_load_205 hl (k := 3) rfl (nI_add i 1) (by decide) rfl (fun ls hl => ?_)
            refine lv_goto (tgt := 185) hx hb dX5_load_208 (by decide) ?_
            exact ih185 (i + 1, upd M9 i (Hd1 i)) _ _ _ ⟨by omega, arr_step hM9 rfl, hP, hD, hS, lv_sub hl [1, 2, 3, 0] rfl⟩ (by first | omega | (dsimp only; omega))
        ·
          refine lv_aload_n hx hb dX5_load_167 rfl (lv_at hl 0 rfl) ?_
          have hPc := hP.sub (ws' := [(qm, .inr (4, [.ref qmd, .ref qmt, .int (nI n), .int (bI true), .int lf, .int (nI dn), .int pl, .ref qml, .int (nI k), .ref qmk, .int (nI mz), .ref qmh, .int (nI zn), .int (nI 0), .ref qmw])), (qmk, .inl (cyI, 460, .inl M)), (qmh, .inl (cyI, 460, .inl Hd1))]) [0, 3, 4] rfl
          have hKc := hK.sub (tys' := [(cyI, .int), (cyZ, .boolean)]) [0, 1] rfl
          have hDc := hD.sub (ws' := [(qm, .inr (4, [.ref qmd, .ref qmt, .int (nI n), .int (bI true), .int lf, .int (nI dn), .int pl, .ref qml, .int (nI k), .ref qmk, .int (nI mz), .ref qmh, .int (nI zn), .int (nI 0), .ref qmw])), (qmk, .inl (cyI, 460, .inl M)), (qmh, .inl (cyI, 460, .inl Hd1))]) [0, 3, 4] (by decide) rfl
          have hFc := va_free (wc := [(qm, .inr (4, [.ref qmd, .ref qmt, .int (nI n), .int (bI true), .int lf, .int (nI dn), .int pl, .ref qml, .int (nI k), .ref qmk, .int (nI mz), .ref qmh, .int (nI zn), .int (nI 0), .ref qmw])), (qmk, .inl (cyI, 460, .inl M)), (qmh, .inl (cyI, 460, .inl Hd1))]) hD hS hA [0, 3, 4] rfl
          refine va_calli (va_runV (As := []) (rest := []) ⟨hx, hb, hml, hown, hts⟩ (c_X5_decode l dC dI cyI cyZ qm qmk qmh qmd qmt qml qmw H.size n true lf dn pl k mz zn (nI 0) M Hd1 (by omega) (fun j hj => by rw [hHf j hj]; exact zGat_O _ _ _)) (cwV 0 hts gX5_load_X5_decode rfl rfl rfl (by decide +kernel) ⟨Nat.le_of_ble_eq_true rfl, Nat.le_of_ble_eq_true rfl⟩) ⟨zz_blW, va_recv hKc hPc (ci := 4) (q0 := 0) rfl rfl, fun U hU hW => ⟨rfl, by rw [hU], by rw [hU]; exact hPc, va_K.moved hW.alike hKc, hDc.weaken (fun _ _ _ _ => trivial)⟩⟩ rfl rfl hl.1 rfl (lv_room (Nat.le_of_ble_eq_true rfl)) dX5_load_168 ⟨Nat.zero_le _, Nat.zero_le _⟩) hS (fun q _ h => hFc q h) hFc (fun r_168 uU tS H1 locs ht9 hvm9 hw9 hB9 hz1 hk1 hS => ?_)
          obtain ⟨pl1_168, m1_168, M1_168⟩ := uU
          obtain ⟨hP1, hK1, hD1⟩ := hB9
          have hw9 : (r_168 = bI (decide ((zD Hd1 zn).1 = 0))) ∧ (pl1_168 = zPlM (zD Hd1 zn).1 pl) ∧ (m1_168 = (zD Hd1 zn).2.1) ∧ (∀ j, j < m1_168 → M1_168 j = (zD Hd1 zn).2.2 j) ∧ (∀ j, j < m1_168 → zO (M1_168 j)) ∧ (m1_168 ≤ 400) := hw9
          obtain ⟨hr_168, hpl_168, hm1_168, hM1_168, hO1_168, hmm_168⟩ := hw9
          have hr_168 := Eq.symm hr_168
          subst hr_168
          rw [ht9] at hP1
          have hK1 := va_K.moved hvm9.symm hK1
          obtain ⟨hP, hD⟩ := va_join (wr := [(qmd, .inl (cyI, 512, .inl w)), (qml, .inl (cyI, 460, .inl P))]) (w1 := [(qm, .inr (4, [.ref qmd, .ref qmt, .int (nI n), .int (bI true), .int lf, .int (nI dn), .int pl1_168, .ref qml, .int (nI k), .ref qmk, .int (nI m1_168), .ref qmh, .int (nI zn), .int (nI 0), .ref qmw])), (qmk, .inl (cyI, 460, .inl M1_168)), (qmh, .inl (cyI, 460, .inl Hd1))]) hP hD [0, 3, 4] [1, 2] rfl rfl (by decide) (by decide) hk1 hFc hP1 hD1
          generalize H1 = H at hP hS ⊢
          have hP : va_P (dC, dI) vwCl [(qmd, .inl (cyI, 512, .inl w)), (qml, .inl (cyI, 460, .inl P)), (qm, .inr (4, [.ref qmd, .ref qmt, .int (nI n), .int (bI true), .int lf, .int (nI dn), .int pl1_168, .ref qml, .int (nI k), .ref qmk, .int (nI m1_168), .ref qmh, .int (nI zn), .int (nI 0), .ref qmw])), (qmk, .inl (cyI, 460, .inl M1_168)), (qmh, .inl (cyI, 460, .inl Hd1))] H := hP
          have hD : va_D A [(qmd, .inl (cyI, 512, .inl w)), (qml, .inl (cyI, 460, .inl P)), (qm, .inr (4, [.ref qmd, .ref qmt, .int (nI n), .int (bI true), .int lf, .int (nI dn), .int pl1_168, .ref qml, .int (nI k), .ref qmk, .int (nI m1_168), .ref qmh, .int (nI zn), .int (nI 0), .ref qmw])), (qmk, .inl (cyI, 460, .inl M1_168)), (qmh, .inl (cyI, 460, .inl Hd1))] := hD
          refine lv_istore_n (lv' := [(3, .int (bI (decide ((zD Hd1 zn).1 = 0)))), (0, .ref qm), (1, .int ky), (2, .int (nI (kF w ky)))]) hx hb dX5_load_171 rfl hl (by decide) rfl (fun ls hl => ?_)
          refine lv_goto (tgt := 211) hx hb dX5_load_172 (by decide) ?_
          refine lv_aload_n hx hb dX5_load_211 rfl (lv_at hl 1 rfl) ?_
          have hPc := hP.sub (ws' := [(qm, .inr (4, [.ref qmd, .ref qmt, .int (nI n), .int (bI true), .int lf, .int (nI dn), .int pl1_168, .ref qml, .int (nI k), .ref qmk, .int (nI m1_168), .ref qmh, .int (nI zn), .int (nI 0), .ref qmw])), (qml, .inl (cyI, 460, .inl P)), (qmk, .inl (cyI, 460, .inl M1_168))]) [2, 1, 3] rfl
          have hKc := hK.sub (tys' := [(cyI, .int), (cyZ, .boolean)]) [0, 1] rfl
          have hDc := hD.sub (ws' := [(qm, .inr (4, [.ref qmd, .ref qmt, .int (nI n), .int (bI true), .int lf, .int (nI dn), .int pl1_168, .ref qml, .int (nI k), .ref qmk, .int (nI m1_168), .ref qmh, .int (nI zn), .int (nI 0), .ref qmw])), (qml, .inl (cyI, 460, .inl P)), (qmk, .inl (cyI, 460, .inl M1_168))]) [2, 1, 3] (by decide) rfl
          have hFc := va_free (wc := [(qm, .inr (4, [.ref qmd, .ref qmt, .int (nI n), .int (bI true), .int lf, .int (nI dn), .int pl1_168, .ref qml, .int (nI k), .ref qmk, .int (nI m1_168), .ref qmh, .int (nI zn), .int (nI 0), .ref qmw])), (qml, .inl (cyI, 460, .inl P)), (qmk, .inl (cyI, 460, .inl M1_168))]) hD hS hA [2, 1, 3] rfl
          refine va_callv (va_runV (As := []) (rest := []) ⟨hx, hb, hml, hown, hts⟩ (c_X5_load0 l dC dI cyI cyZ qm qml qmk qmd qmt qmh qmw H.size n true lf dn pl1_168 k m1_168 zn (nI 0) P M1_168 (by omega)) (cwV 0 hts gX5_load_X5_load0 rfl rfl rfl (by decide +kernel) ⟨Nat.le_of_ble_eq_true rfl, Nat.le_of_ble_eq_true rfl⟩) ⟨zz_blW, va_recv hKc hPc (ci := 4) (q0 := 0) rfl rfl, fun U hU hW => ⟨rfl, by rw [hU], by rw [hU]; exact hPc, va_K.moved hW.alike hKc, hDc.weaken (fun _ _ _ _ => trivial)⟩⟩ rfl rfl hl.1 rfl (lv_room (Nat.le_of_ble_eq_true rfl)) dX5_load_212 ⟨Nat.zero_le _, Nat.zero_le _⟩) hS (fun q _ h => hFc q h) hFc (fun uU tS H1 locs ht9 hvm9 hw9 hB9 hz1 hk1 hS => ?_)
          obtain ⟨P1_212, rfl⟩ : ∃ z, z = uU := ⟨_, rfl⟩
          obtain ⟨hP1, hK1, hD1⟩ := hB9
          have hw9 : (∀ j, j < m1_168 → P1_212 j = M1_168 j) := hw9
          have hP1_212 := hw9
          rw [ht9] at hP1
          have hK1 := va_K.moved hvm9.symm hK1
          obtain ⟨hP, hD⟩ := va_join (wr := [(qmd, .inl (cyI, 512, .inl w)), (qmh, .inl (cyI, 460, .inl Hd1))]) (w1 := [(qm, .inr (4, [.ref qmd, .ref qmt, .int (nI n), .int (bI true), .int lf, .int (nI dn), .int pl1_168, .ref qml, .int (nI m1_168), .ref qmk, .int (nI m1_168), .ref qmh, .int (nI zn), .int (nI 0), .ref qmw])), (qml, .inl (cyI, 460, .inl P1_212)), (qmk, .inl (cyI, 460, .inl M1_168))]) hP hD [2, 1, 3] [0, 4] rfl rfl (by decide) (by decide) hk1 hFc hP1 hD1
          generalize H1 = H at hP hS ⊢
          have hP : va_P (dC, dI) vwCl [(qmd, .inl (cyI, 512, .inl w)), (qmh, .inl (cyI, 460, .inl Hd1)), (qm, .inr (4, [.ref qmd, .ref qmt, .int (nI n), .int (bI true), .int lf, .int (nI dn), .int pl1_168, .ref qml, .int (nI m1_168), .ref qmk, .int (nI m1_168), .ref qmh, .int (nI zn), .int (nI 0), .ref qmw])), (qml, .inl (cyI, 460, .inl P1_212)), (qmk, .inl (cyI, 460, .inl M1_168))] H := hP
          have hD : va_D A [(qmd, .inl (cyI, 512, .inl w)), (qmh, .inl (cyI, 460, .inl Hd1)), (qm, .inr (4, [.ref qmd, .ref qmt, .int (nI n), .int (bI true), .int lf, .int (nI dn), .int pl1_168, .ref qml, .int (nI m1_168), .ref qmk, .int (nI m1_168), .ref qmh, .int (nI zn), .int (nI 0), .ref qmw])), (qml, .inl (cyI, 460, .inl P1_212)), (qmk, .inl (cyI, 460, .inl M1_168))] := hD
          refine lv_aload_n hx hb dX5_load_215 rfl (lv_at hl 1 rfl) ?_
          refine va_get (D := (dC, dI)) (ci := 4) (v := .int (nI m1_168)) (C := RX5) (T := TX5) (N := 15) hx hb hts iwX5 hown hK hP 2 rfl rfl 8 (by decide) fk66 (fun _ h9 => h9) rfl dX5_load_216 ?_
          have eC : zD Hd1 zn = zD (zGat w (kF w ky)) zn := zD_cong hHf
          rw [eC] at hpl_168 hm1_168 hM1_168
          have hcode := HR _ hf (kIs_text hI c_31) c_164
          rw [hvn] at hcode
          have hpl9 : pl1_168 = pl := hpl_168.trans (if_pos hcode)
          rw [hpl9] at hP hD
          have eL := zLoad_1 (k := k) (P := P) hf (kIs_text hI c_31) c_164 hvn
          -- qm : .inr (4, [.ref qmd, .ref qmt, .int (nI n), .int (bI true), .int lf, .int (nI dn), .int pl1_168, .ref qml, .int (nI m1_168), .ref qmk, .int (nI m1_168), .ref qmh, .int (nI zn), .int (nI 0), .ref qmw])  ~  .inr (4, [.ref qmd, .ref qmt, .int (nI n), .int (bI true), .int lf, .int (nI dn), .int pl, .ref qml, .int (nI m1_168), .ref qmk, .int (nI m1_168), .ref qmh, .int (nI zn), .int (nI 0), .ref qmw])
          have hP9 := hP.sub (ws' := [(qm, .inr (4, [.ref qmd, .ref qmt, .int (nI n), .int (bI true), .int lf, .int (nI dn), .int pl, .ref qml, .int (nI m1_168), .ref qmk, .int (nI m1_168), .ref qmh, .int (nI zn), .int (nI 0), .ref qmw])), (qmd, .inl (cyI, 512, .inl w)), (qml, .inl (cyI, 460, .inl P1_212)), (qmk, .inl (cyI, 460, .inl M1_168)), (qmh, .inl (cyI, 460, .inl Hd1))]) [2, 0, 3, 4, 1] rfl
          have hD9 := hD.sub (ws' := [(qm, .inr (4, [.ref qmd, .ref qmt, .int (nI n), .int (bI true), .int lf, .int (nI dn), .int pl, .ref qml, .int (nI m1_168), .ref qmk, .int (nI m1_168), .ref qmh, .int (nI zn), .int (nI 0), .ref qmw])), (qmd, .inl (cyI, 512, .inl w)), (qml, .inl (cyI, 460, .inl P1_212)), (qmk, .inl (cyI, 460, .inl M1_168)), (qmh, .inl (cyI, 460, .inl Hd1))]) [2, 0, 3, 4, 1] (by decide) rfl
          have hK9 := hK.sub (tys' := [(cyI, .int), (cyZ, .boolean)]) [0, 1] rfl
          exact W.iret hx hb hr (fun tS ht hW => ⟨⟨_, (m1_168, P1_212, m1_168, M1_168, zn, Hd1), rfl, by rw [eL]; exact ⟨congrArg nI hm1_168, hm1_168, fun j hj => (hP1_212 j hj).trans (hM1_168 j hj)⟩, by rw [ht]; exact hP9, va_K.moved hW.alike hK9, hD9⟩, hS.F ht⟩) hS.2.2 dX5_load_219
      ·
        refine lv_aload_n hx hb dX5_load_60 rfl (lv_at hl 0 rfl) ?_
        refine lv_iload_n hx hb dX5_load_61 rfl (lv_at hl 3 rfl) ?_
        have hPc := hP.sub (ws' := [(qm, .inr (4, [.ref qmd, .ref qmt, .int (nI n), .int (bI true), .int lf, .int (nI dn), .int pl, .ref qml, .int (nI k), .ref qmk, .int (nI mz), .ref qmh, .int (nI zn), .int (nI 0), .ref qmw])), (qmd, .inl (cyI, 512, .inl w))]) [0, 1] rfl
        have hKc := hK.sub (tys' := [(cyI, .int), (cyZ, .boolean)]) [0, 1] rfl
        refine vp_callSi (va_Run.run (va_runV (As := [.int (nI v)]) (rest := []) ⟨hx, hb, hml, hown, hts⟩ (c_X5_partOf l dC dI cyI cyZ qm qmd qmt qml qmk qmh qmw n true lf dn pl k mz zn (nI 0) w v (by omega)) (cwV 1 hts gX5_load_X5_partOf rfl rfl rfl (by decide +kernel) ⟨Nat.le_of_ble_eq_true rfl, Nat.le_of_ble_eq_true rfl⟩) ⟨zz_blR, va_recv hKc hPc (ci := 4) (q0 := 0) rfl rfl, fun U hU hW => ⟨rfl, by rw [hU]; exact hPc, va_K.moved hW.alike hKc⟩⟩ rfl rfl hl.1 rfl (lv_room (Nat.le_of_ble_eq_true rfl)) dX5_load_62 ⟨Nat.zero_le _, Nat.zero_le _⟩)) (fun r_62 hr_62 => ?_)
        have hr_62 : kPart w v = r_62 := Eq.symm hr_62
        subst hr_62
        obtain ⟨q, hq, eq9⟩ := kPart_nat w v
        refine zz_top eq9 ?_
        refine lv_istore (lv' := [(4, .int (nI q)), (0, .ref qm), (1, .int ky), (2, .int (nI (kF w ky))), (3, .int (nI v))]) hx hb dX5_load_65 hl (by decide) rfl (fun ls hl => ?_)
        refine lv_iconst (v := nI 0) hx hb dX5_load_67 (by decide) ?_
        refine lv_istore (lv' := [(5, .int (nI 0)), (4, .int (nI q)), (0, .ref qm), (1, .int ky), (2, .int (nI (kF w ky))), (3, .int (nI v))]) hx hb dX5_load_68 hl (by decide) rfl (fun ls hl => ?_)
        refine zz_loopW (pc := 70) (μ := fun (x : Nat × (Nat → Int32)) => match x with | (i, Hd1) => 16 - i) (Inv := fun (x : Nat × (Nat → Int32)) (H : Heap) (locs : List Loc) (ls : Array Slot) => match x with | (i, Hd1) => (i ≤ 16) ∧ (zHd w (kF w ky) zn v q i Hd1) ∧ va_P (dC, dI) vwCl [(qm, .inr (4, [.ref qmd, .ref qmt, .int (nI n), .int (bI true), .int lf, .int (nI dn), .int pl, .ref qml, .int (nI k), .ref qmk, .int (nI mz), .ref qmh, .int (nI zn), .int (nI 0), .ref qmw])), (qmd, .inl (cyI, 512, .inl w)), (qml, .inl (cyI, 460, .inl P)), (qmk, .inl (cyI, 460, .inl M)), (qmh, .inl (cyI, 460, .inl Hd1))] H ∧ va_D A [(qm, .inr (4, [.ref qmd, .ref qmt, .int (nI n), .int (bI true), .int lf, .int (nI dn), .int pl, .ref qml, .int (nI k), .ref qmk, .int (nI mz), .ref qmh, .int (nI zn), .int (nI 0), .ref qmw])), (qmd, .inl (cyI, 512, .inl w)), (qml, .inl (cyI, 460, .inl P)), (qmk, .inl (cyI, 460, .inl M)), (qmh, .inl (cyI, 460, .inl Hd1))] ∧ va_S A sS.heap H locs ∧ lv_has ls 6 [(0, .ref qm), (1, .int ky), (2, .int (nI (kF w ky))), (3, .int (nI v)), (4, .int (nI q)), (5, .int (nI i))]) (x0 := (0, Hd1)) ⟨by omega, zHd_0 (i' := 0) hH, hP, hD, hS, lv_sub hl [2, 3, 4, 5, 1, 0] rfl⟩ ?_
        intro ⟨i, Hd1⟩ H locs ls hI ih70
        obtain ⟨hi, hH, hP, hD, hS, hl⟩ := hI
        have hl : lv_has ls 6 [(0, .ref qm), (1, .int ky), (2, .int (nI (kF w ky))), (3, .int (nI v)), (4, .int (nI q)), (5, .int (nI i))] := hl
        have hP : va_P (dC, dI) vwCl [(qm, .inr (4, [.ref qmd, .ref qmt, .int (nI n), .int (bI true), .int lf, .int (nI dn), .int pl, .ref qml, .int (nI k), .ref qmk, .int (nI mz), .ref qmh, .int (nI zn), .int (nI 0), .ref qmw])), (qmd, .inl (cyI, 512, .inl w)), (qml, .inl (cyI, 460, .inl P)), (qmk, .inl (cyI, 460, .inl M)), (qmh, .inl (cyI, 460, .inl Hd1))] H := hP
        have hD : va_D A [(qm, .inr (4, [.ref qmd, .ref qmt, .int (nI n), .int (bI true), .int lf, .int (nI dn), .int pl, .ref qml, .int (nI k), .ref qmk, .int (nI mz), .ref qmh, .int (nI zn), .int (nI 0), .ref qmw])), (qmd, .inl (cyI, 512, .inl w)), (qml, .inl (cyI, 460, .inl P)), (qmk, .inl (cyI, 460, .inl M)), (qmh, .inl (cyI, 460, .inl Hd1))] := hD
        have hi : i ≤ 16 := hi
        have hH : zHd w (kF w ky) zn v q i Hd1 := hH
        refine lv_iload hx hb dX5_load_70 (lv_at hl 5 rfl) ?_
        refine lv_bipush (v := nI 16) hx hb dX5_load_72 (by decide) ?_
        refine zn_icmp_ge (tgt := 152) hx hb dX5_load_74 (by decide) (by omega) (by omega) (fun c_74 => ?_) (fun c_74 => ?_)
        ·
          refine lv_iinc (v := nI (v + 1)) (lv' := [(3, .int (nI (v + 1))), (0, .ref qm), (1, .int ky), (2, .int (nI (kF w ky))), (4, .int (nI q)), (5, .int (nI i))]) hx hb dX5_load_152 hl (k := 3) rfl (nI_add v 1) (by decide) rfl (fun ls hl => ?_)
          refine lv_goto (tgt := 54) hx hb dX5_load_155 (by decide) ?_
          exact ih54 (v + 1, Hd1) _ _ _ ⟨by omega, zHd_end (by omega) hq eq9 (by omega) (by first | exact Or.inl c_74 | exact Or.inr c_87) hH, hP, hD, hS, lv_sub hl [1, 2, 3, 0] rfl⟩ (by first | omega | (dsimp only; omega))
        ·
          refine lv_aload_n hx hb dX5_load_77 rfl (lv_at hl 0 rfl) ?_
          refine lv_iload_n hx hb dX5_load_78 rfl (lv_at hl 3 rfl) ?_
          have hPc := hP.sub (ws' := [(qm, .inr (4, [.ref qmd, .ref qmt, .int (nI n), .int (bI true), .int lf, .int (nI dn), .int pl, .ref qml, .int (nI k), .ref qmk, .int (nI mz), .ref qmh, .int (nI zn), .int (nI 0), .ref qmw])), (qmd, .inl (cyI, 512, .inl w))]) [0, 1] rfl
          have hKc := hK.sub (tys' := [(cyI, .int), (cyZ, .boolean)]) [0, 1] rfl
          refine vp_callSi (va_Run.run (va_runV (As := [.int (nI v)]) (rest := []) ⟨hx, hb, hml, hown, hts⟩ (c_X5_numberOf l dC dI cyI cyZ qm qmd qmt qml qmk qmh qmw n true lf dn pl k mz zn (nI 0) w v (by omega)) (cwV 1 hts gX5_load_X5_numberOf rfl rfl rfl (by decide +kernel) ⟨Nat.le_of_ble_eq_true rfl, Nat.le_of_ble_eq_true rfl⟩) ⟨zz_blR, va_recv hKc hPc (ci := 4) (q0 := 0) rfl rfl, fun U hU hW => ⟨rfl, by rw [hU]; exact hPc, va_K.moved hW.alike hKc⟩⟩ rfl rfl hl.1 rfl (lv_room (Nat.le_of_ble_eq_true rfl)) dX5_load_79 ⟨Nat.zero_le _, Nat.zero_le _⟩)) (fun r_79 hr_79 => ?_)
          have hr_79 : kNum w v = r_79 := Eq.symm hr_79
          subst hr_79
          refine lv_aload_n hx hb dX5_load_82 rfl (lv_at hl 0 rfl) ?_
          refine lv_iload_n hx hb dX5_load_83 rfl (lv_at hl 2 rfl) ?_
          have hPc := hP.sub (ws' := [(qm, .inr (4, [.ref qmd, .ref qmt, .int (nI n), .int (bI true), .int lf, .int (nI dn), .int pl, .ref qml, .int (nI k), .ref qmk, .int (nI mz), .ref qmh, .int (nI zn), .int (nI 0), .ref qmw])), (qmd, .inl (cyI, 512, .inl w))]) [0, 1] rfl
          have hKc := hK.sub (tys' := [(cyI, .int), (cyZ, .boolean)]) [0, 1] rfl
          refine vp_callSi (va_Run.run (va_runV (As := [.int (nI (kF w ky))]) (rest := [.int (kNum w v)]) ⟨hx, hb, hml, hown, hts⟩ (c_X5_numberOf l dC dI cyI cyZ qm qmd qmt qml qmk qmh qmw n true lf dn pl k mz zn (nI 0) w (kF w ky) (hf)) (cwV 1 hts gX5_load_X5_numberOf rfl rfl rfl (by decide +kernel) ⟨Nat.le_of_ble_eq_true rfl, Nat.le_of_ble_eq_true rfl⟩) ⟨zz_blR, va_recv hKc hPc (ci := 4) (q0 := 0) rfl rfl, fun U hU hW => ⟨rfl, by rw [hU]; exact hPc, va_K.moved hW.alike hKc⟩⟩ rfl rfl hl.1 rfl (lv_room (Nat.le_of_ble_eq_true rfl)) dX5_load_84 ⟨Nat.zero_le _, Nat.zero_le _⟩)) (fun r_84 hr_84 => ?_)
          have hr_84 : kNum w (kF w ky) = r_84 := Eq.symm hr_84
          subst hr_84
          refine lv_icmp_ne (tgt := 152) hx hb dX5_load_87 (by decide) (fun c_87 => ?_) (fun c_87 => ?_)
          ·
            refine lv_iinc (v := nI (v + 1)) (lv' := [(3, .int (nI (v + 1))), (0, .ref qm), (1, .int ky), (2, .int (nI (kF w ky))), (4, .int (nI q)), (5, .int (nI i))]) hx hb dX5_load_152 hl (k := 3) rfl (nI_add v 1) (by decide) rfl (fun ls hl => ?_)
            refine lv_goto (tgt := 54) hx hb dX5_load_155 (by decide) ?_
            exact ih54 (v + 1, Hd1) _ _ _ ⟨by omega, zHd_end (by omega) hq eq9 (by omega) (by first | exact Or.inl c_74 | exact Or.inr c_87) hH, hP, hD, hS, lv_sub hl [1, 2, 3, 0] rfl⟩ (by first | omega | (dsimp only; omega))
          ·
            refine lv_bipush (v := nI 16) hx hb dX5_load_90 (by decide) ?_
            refine lv_iload hx hb dX5_load_92 (lv_at hl 4 rfl) ?_
            refine lv_imul hx hb dX5_load_94 ?_
            refine zz_top (pk_mul 16 q) ?_
            refine lv_iload hx hb dX5_load_95 (lv_at hl 5 rfl) ?_
            refine lv_iadd hx hb dX5_load_97 ?_
            refine zz_top (nI_add (16 * q) i) ?_
            refine lv_aload_n hx hb dX5_load_98 rfl (lv_at hl 0 rfl) ?_
            refine va_get (D := (dC, dI)) (ci := 4) (v := .int (nI zn)) (C := RX5) (T := TX5) (N := 15) hx hb hts iwX5 hown hK hP 0 rfl rfl 12 (by decide) fk48 (fun _ h9 => h9) rfl dX5_load_99 ?_
            refine zn_icmp_ge (tgt := 146) hx hb dX5_load_102 (by decide) (by omega) (by omega) (fun c_102 => ?_) (fun c_102 => ?_)
            ·
              refine lv_iinc (v := nI (i + 1)) (lv' := [(5, .int (nI (i + 1))), (0, .ref qm), (1, .int ky), (2, .int (nI (kF w ky))), (3, .int (nI v)), (4, .int (nI q))]) hx hb dX5_load_146 hl (k := 5) rfl (nI_add i 1) (by decide) rfl (fun ls hl => ?_)
              refine lv_goto (tgt := 70) hx hb dX5_load_149 (by decide) ?_
              exact ih70 (i + 1, Hd1) _ _ _ ⟨by omega, zHd_no (by omega) hH, hP, hD, hS, lv_sub hl [1, 2, 3, 4, 5, 0] rfl⟩ (by first | omega | (dsimp only; omega))
            ·
              refine lv_aload_n hx hb dX5_load_105 rfl (lv_at hl 0 rfl) ?_
              refine va_get (D := (dC, dI)) (ci := 4) (v := .ref qmh) (C := RX5) (T := TX5) (N := 15) hx hb hts iwX5 hown hK hP 0 rfl rfl 11 (by decide) fk33 (fun _ h9 => h9) rfl dX5_load_106 ?_
              refine lv_bipush (v := nI 16) hx hb dX5_load_109 (by decide) ?_
              refine lv_iload hx hb dX5_load_111 (lv_at hl 4 rfl) ?_
              refine lv_imul hx hb dX5_load_113 ?_
              refine zz_top (pk_mul 16 q) ?_
              refine lv_iload hx hb dX5_load_114 (lv_at hl 5 rfl) ?_
              refine lv_iadd hx hb dX5_load_116 ?_
              refine zz_top (nI_add (16 * q) i) ?_
              refine lv_aload_n hx hb dX5_load_117 rfl (lv_at hl 0 rfl) ?_
              refine va_get (D := (dC, dI)) (ci := 4) (v := .ref qmd) (C := RX5) (T := TX5) (N := 15) hx hb hts iwX5 hown hK hP 0 rfl rfl 0 (by decide) fk7 (fun _ h9 => h9) rfl dX5_load_118 ?_
              refine lv_bipush (v := nI 8) hx hb dX5_load_121 (by decide) ?_
              refine lv_iload_n hx hb dX5_load_123 rfl (lv_at hl 3 rfl) ?_
              refine lv_imul hx hb dX5_load_124 ?_
              refine zz_top (pk_mul 8 v) ?_
              refine lv_iconst (v := nI 4) hx hb dX5_load_125 (by decide) ?_
              refine lv_iadd hx hb dX5_load_126 ?_
              refine zz_top (nI_add (8 * v) 4) ?_
              refine lv_iload hx hb dX5_load_127 (lv_at hl 5 rfl) ?_
              refine lv_iconst (v := nI 4) hx hb dX5_load_129 (by decide) ?_
              refine lv_idiv hx hb dX5_load_130 (by decide) ?_
              refine zz_top (pk_div (a := i) (d := 4) (by omega) (by decide) (by decide)) ?_
              refine lv_iadd hx hb dX5_load_131 ?_
              refine zz_top (nI_add (8 * v + 4) (i / 4)) ?_
              refine va_iald hx hb hK hP 1 0 rfl rfl (vp_in_nI (n := 8 * v + 4 + (i / 4)) (by omega) (by decide)) dX5_load_132 ?_
              refine zz_top (congrArg w (nI_clamp (n := 8 * v + 4 + (i / 4)) (by omega))) ?_
              refine lv_bipush (v := nI 8) hx hb dX5_load_133 (by decide) ?_
              refine lv_iload hx hb dX5_load_135 (lv_at hl 5 rfl) ?_
              refine lv_iconst (v := nI 4) hx hb dX5_load_137 (by decide) ?_
              refine lv_irem hx hb dX5_load_138 (by decide) ?_
              refine zz_top (pk_rem (a := i) (d := 4) (by omega) (by decide) (by decide)) ?_
              refine lv_imul hx hb dX5_load_139 ?_
              refine zz_top (pk_mul 8 (i % 4)) ?_
              refine lv_ishr hx hb dX5_load_140 ?_
              refine lv_sipush (v := nI 255) hx hb dX5_load_141 (by decide) ?_
              refine lv_iand hx hb dX5_load_144 ?_
              refine va_iast hx hb hK hP hD hS 4 0 rfl rfl (vp_in_nI (n := 16 * q + i) (by omega) (by decide)) dX5_load_145 (fun H locs hP hD hS => ?_)
              rw [nI_clamp (n := 16 * q + i) (by omega)] at hP hD
              have hP : va_P (dC, dI) vwCl [(qm, .inr (4, [.ref qmd, .ref qmt, .int (nI n), .int (bI true), .int lf, .int (nI dn), .int pl, .ref qml, .int (nI k), .ref qmk, .int (nI mz), .ref qmh, .int (nI zn), .int (nI 0), .ref qmw])), (qmd, .inl (cyI, 512, .inl w)), (qml, .inl (cyI, 460, .inl P)), (qmk, .inl (cyI, 460, .inl M)), (qmh, .inl (cyI, 460, .inl (upd Hd1 (16 * q + i) (((w (8 * v + 4 + (i / 4))) >>> ((nI (8 * (i % 4))) &&& 31)) &&& (nI 255)))))] H := hP
              have hD : va_D A [(qm, .inr (4, [.ref qmd, .ref qmt, .int (nI n), .int (bI true), .int lf, .int (nI dn), .int pl, .ref qml, .int (nI k), .ref qmk, .int (nI mz), .ref qmh, .int (nI zn), .int (nI 0), .ref qmw])), (qmd, .inl (cyI, 512, .inl w)), (qml, .inl (cyI, 460, .inl P)), (qmk, .inl (cyI, 460, .inl M)), (qmh, .inl (cyI, 460, .inl (upd Hd1 (16 * q + i) (((w (8 * v + 4 + (i / 4))) >>> ((nI (8 * (i % 4))) &&& 31)) &&& (nI 255)))))] := hD
              refine lv_iinc (v := nI (i + 1)) (lv' := [(5, .int (nI (i + 1))), (0, .ref qm), (1, .int ky), (2, .int (nI (kF w ky))), (3, .int (nI v)), (4, .int (nI q))]) hx hb dX5_load_146 hl (k := 5) rfl (nI_add i 1) (by decide) rfl (fun ls hl => ?_)
              refine lv_goto (tgt := 70) hx hb dX5_load_149 (by decide) ?_
              exact ih70 (i + 1, upd Hd1 (16 * q + i) (((w (8 * v + 4 + (i / 4))) >>> ((nI (8 * (i % 4))) &&& 31)) &&& (nI 255))) _ _ _ ⟨by omega, zHd_st HU (by omega) (by omega) hB0 g5 g6 c_87 eq9 c_102 hH, hP, hD, hS, lv_sub hl [1, 2, 3, 4, 5, 0] rfl⟩ (by first | omega | (dsimp only; omega))
    ·
      refine lv_bipush (v := (-2)) hx hb dX5_load_34 (by decide) ?_
      have eL := zLoad_n (w := w) (ky := ky) (k := k) (P := P) (fun _ => kIs_form2 c_31)
      have hP9 := hP.sub (ws' := [(qm, .inr (4, [.ref qmd, .ref qmt, .int (nI n), .int (bI true), .int lf, .int (nI dn), .int pl, .ref qml, .int (nI k), .ref qmk, .int (nI mz), .ref qmh, .int (nI nh), .int (nI 0), .ref qmw])), (qmd, .inl (cyI, 512, .inl w)), (qml, .inl (cyI, 460, .inl P)), (qmk, .inl (cyI, 460, .inl M)), (qmh, .inl (cyI, 460, .inl Hd))]) [0, 1, 2, 3, 4] rfl
      have hD9 := hD.sub (ws' := [(qm, .inr (4, [.ref qmd, .ref qmt, .int (nI n), .int (bI true), .int lf, .int (nI dn), .int pl, .ref qml, .int (nI k), .ref qmk, .int (nI mz), .ref qmh, .int (nI nh), .int (nI 0), .ref qmw])), (qmd, .inl (cyI, 512, .inl w)), (qml, .inl (cyI, 460, .inl P)), (qmk, .inl (cyI, 460, .inl M)), (qmh, .inl (cyI, 460, .inl Hd))]) [0, 1, 2, 3, 4] (by decide) rfl
      have hK9 := hK.sub (tys' := [(cyI, .int), (cyZ, .boolean)]) [0, 1] rfl
      exact W.iret hx hb hr (fun tS ht hW => ⟨⟨_, (k, P, mz, M, nh, Hd), rfl, by rw [eL]; exact ⟨rfl, rfl, fun _ _ => rfl⟩, by rw [ht]; exact hP9, va_K.moved hW.alike hK9, hD9⟩, hS.F ht⟩) hS.2.2 dX5_load_36
  ·
    refine zz_top (zFI_f hf) ?_
    refine lv_istore_n (lv' := [(2, .int (-1)), (0, .ref qm), (1, .int ky)]) hx hb dX5_load_20 rfl hl (by decide) rfl (fun ls hl => ?_)
    refine lv_iload_n hx hb dX5_load_21 rfl (lv_at hl 0 rfl) ?_
    refine lv_if_lt (tgt := 34) hx hb dX5_load_22 (by decide) (fun c_22 => ?_) (fun c_22 => absurd (by decide) c_22)
    refine lv_bipush (v := (-2)) hx hb dX5_load_34 (by decide) ?_
    have eL := zLoad_n (w := w) (ky := ky) (k := k) (P := P) (fun h => absurd h hf)
    have hP9 := hP.sub (ws' := [(qm, .inr (4, [.ref qmd, .ref qmt, .int (nI n), .int (bI true), .int lf, .int (nI dn), .int pl, .ref qml, .int (nI k), .ref qmk, .int (nI mz), .ref qmh, .int (nI nh), .int (nI 0), .ref qmw])), (qmd, .inl (cyI, 512, .inl w)), (qml, .inl (cyI, 460, .inl P)), (qmk, .inl (cyI, 460, .inl M)), (qmh, .inl (cyI, 460, .inl Hd))]) [0, 1, 2, 3, 4] rfl
    have hD9 := hD.sub (ws' := [(qm, .inr (4, [.ref qmd, .ref qmt, .int (nI n), .int (bI true), .int lf, .int (nI dn), .int pl, .ref qml, .int (nI k), .ref qmk, .int (nI mz), .ref qmh, .int (nI nh), .int (nI 0), .ref qmw])), (qmd, .inl (cyI, 512, .inl w)), (qml, .inl (cyI, 460, .inl P)), (qmk, .inl (cyI, 460, .inl M)), (qmh, .inl (cyI, 460, .inl Hd))]) [0, 1, 2, 3, 4] (by decide) rfl
    have hK9 := hK.sub (tys' := [(cyI, .int), (cyZ, .boolean)]) [0, 1] rfl
    exact W.iret hx hb hr (fun tS ht hW => ⟨⟨_, (k, P, mz, M, nh, Hd), rfl, by rw [eL]; exact ⟨rfl, rfl, fun _ _ => rfl⟩, by rw [ht]; exact hP9, va_K.moved hW.alike hK9, hD9⟩, hS.F ht⟩) hS.2.2 dX5_load_36
set_option maxHeartbeats 4000000 in
set_option maxRecDepth 100000 in
theorem c_X5_told_bad (l : Launch) (dC : Nat → ClassId) (dI : Nat → Nat → Nat) (cyI cyZ : ClassId) (qm qmd qmt qml qmk qmh qmw : Nat) (sz : Nat) (n : Nat) (on : Bool) (lf : Int32) (dn : Nat) (pl : Int32) (k mz nh : Nat) (th : Int32) (w : Nat → Int32) (xx : Int32) (HBAD : ¬ ∃ q : Nat, xx = nI q ∧ q ≤ 7) : Met l yX5_told wsX5_told ({ frames := 5, cells := 0, slots := 0, locals := 109 }) (va_Pc [.ref qm, .int xx] (fun U => U.heap.size = sz ∧ va_P (dC, dI) vwCl [(qm, .inr (4, [.ref qmd, .ref qmt, .int (nI n), .int (bI on), .int lf, .int (nI dn), .int pl, .ref qml, .int (nI k), .ref qmk, .int (nI mz), .ref qmh, .int (nI nh), .int th, .ref qmw])), (qmd, .inl (cyI, 512, .inl w))] U.heap ∧ va_K (dC, dI) vwCl [(cyI, .int), (cyZ, .boolean)] U ∧ va_D (fun _ => True) [(qm, .inr (4, [.ref qmd, .ref qmt, .int (nI n), .int (bI on), .int lf, .int (nI dn), .int pl, .ref qml, .int (nI k), .ref qmk, .int (nI mz), .ref qmh, .int (nI nh), .int th, .ref qmw])), (qmd, .inl (cyI, 512, .inl w))])) (va_Qi (S := Unit) (fun (r : Int32) (_ : Unit) => r = nI 0) (fun (_ : Unit) tS => va_P (dC, dI) vwCl [(qm, .inr (4, [.ref qmd, .ref qmt, .int (nI n), .int (bI on), .int lf, .int (nI dn), .int pl, .ref qml, .int (nI k), .ref qmk, .int (nI mz), .ref qmh, .int (nI nh), .int (nI 1), .ref qmw])), (qmd, .inl (cyI, 512, .inl w))] tS.heap ∧ va_K (dC, dI) vwCl [(cyI, .int), (cyZ, .boolean)] tS ∧ va_D (va_A [(qm, .inr (4, [.ref qmd, .ref qmt, .int (nI n), .int (bI on), .int lf, .int (nI dn), .int pl, .ref qml, .int (nI k), .ref qmk, .int (nI mz), .ref qmh, .int (nI nh), .int th, .ref qmw])), (qmd, .inl (cyI, 512, .inl w))] sz) [(qm, .inr (4, [.ref qmd, .ref qmt, .int (nI n), .int (bI on), .int lf, .int (nI dn), .int pl, .ref qml, .int (nI k), .ref qmk, .int (nI mz), .ref qmh, .int (nI nh), .int (nI 1), .ref qmw])), (qmd, .inl (cyI, 512, .inl w))]) (va_A [(qm, .inr (4, [.ref qmd, .ref qmt, .int (nI n), .int (bI on), .int lf, .int (nI dn), .int pl, .ref qml, .int (nI k), .ref qmk, .int (nI mz), .ref qmh, .int (nI nh), .int th, .ref qmw])), (qmd, .inl (cyI, 512, .inl w))] sz)) 0 0 (va_A [(qm, .inr (4, [.ref qmd, .ref qmt, .int (nI n), .int (bI on), .int lf, .int (nI dn), .int pl, .ref qml, .int (nI k), .ref qmk, .int (nI mz), .ref qmh, .int (nI nh), .int th, .ref qmw])), (qmd, .inl (cyI, 512, .inl w))] sz) := by
  refine Met.ofW (cc := cX5_told) (maxL := 5) (ret := (some .int)) (by decide) rfl ?_
  intro pz ez sS mM args below meth cC s₁ B hml hv
  obtain ⟨rfl, hsz, hP, hK, hD0⟩ := hv
  have hx := B.exec
  have hb := B.bytes
  have hr := B.returns
  have hts := atoms_spec (ws := wsX5_told) B.pre
  have hown : sS.vm.findClass RX5 = some mM.cls := findClass_of_methodNamed B.named
  have hlocks := B.notSynchronized
  subst hsz
  have hD := hD0.self (sz := sS.heap.size)
  generalize hAe : va_A [(qm, .inr (4, [.ref qmd, .ref qmt, .int (nI n), .int (bI on), .int lf, .int (nI dn), .int pl, .ref qml, .int (nI k), .ref qmk, .int (nI mz), .ref qmh, .int (nI nh), .int th, .ref qmw])), (qmd, .inl (cyI, 512, .inl w))] sS.heap.size = A at hD ⊢
  have hA : ∀ q : Nat, sS.heap.size ≤ q → A q := fun q h => by rw [← hAe]; exact Or.inr h
  have hS : va_S A sS.heap sS.heap [] := va_S.rf
  have hP : va_P (dC, dI) vwCl [(qm, .inr (4, [.ref qmd, .ref qmt, .int (nI n), .int (bI on), .int lf, .int (nI dn), .int pl, .ref qml, .int (nI k), .ref qmk, .int (nI mz), .ref qmh, .int (nI nh), .int th, .ref qmw])), (qmd, .inl (cyI, 512, .inl w))] sS.heap := hP
  have iwX5 : ∀ w ∈ wsX50, w ∈ wsX5_told := by decide +kernel
  have fk43 := hts (.fieldLink RX5 43 "CodedStoreModel" "thrown" "I") (by decide +kernel)
  have hl := lv_entry ([.ref qm, .int xx]) (n := 5) (Nat.le_of_ble_eq_true rfl)
  rw [lg_entry_eq]
  generalize (lg_sl ([.ref qm, .int xx]) ++ List.replicate (5 - (lg_sl ([.ref qm, .int xx])).length) Slot.unset).toArray = ls at hl ⊢
  have hl : lv_has ls 5 [(0, .ref qm), (1, .int xx)] := hl
  refine lv_aload_n hx hb dX5_told_0 rfl (lv_at hl 0 rfl) ?_
  refine lv_iload_n hx hb dX5_told_1 rfl (lv_at hl 1 rfl) ?_
  refine lv_if_lt (tgt := 11) hx hb dX5_told_2 (by decide) (fun c_2 => ?_) (fun c_2 => ?_)
  ·
    refine lv_iconst (v := nI 1) hx hb dX5_told_11 (by decide) ?_
    refine lv_goto (tgt := 16) hx hb dX5_told_12 (by decide) ?_
    refine va_put (D := (dC, dI)) (ci := 4) (v := .int (nI 1)) (ty := .int) (C := RX5) (T := TX5) (N := 15) hx hb hts iwX5 tyX5 tyX5_ok nmX5 hown hK hP hD hS 0 rfl rfl 13 (by decide) fk43 (fun _ h9 => h9) rfl (by decide +kernel) rfl rfl (Nat.le_of_ble_eq_true rfl) dX5_told_16 (fun H locs hP hD hS => ?_)
    have hP : va_P (dC, dI) vwCl [(qm, .inr (4, [.ref qmd, .ref qmt, .int (nI n), .int (bI on), .int lf, .int (nI dn), .int pl, .ref qml, .int (nI k), .ref qmk, .int (nI mz), .ref qmh, .int (nI nh), .int (nI 1), .ref qmw])), (qmd, .inl (cyI, 512, .inl w))] H := hP
    have hD : va_D A [(qm, .inr (4, [.ref qmd, .ref qmt, .int (nI n), .int (bI on), .int lf, .int (nI dn), .int pl, .ref qml, .int (nI k), .ref qmk, .int (nI mz), .ref qmh, .int (nI nh), .int (nI 1), .ref qmw])), (qmd, .inl (cyI, 512, .inl w))] := hD
    refine lv_aload_n hx hb dX5_told_19 rfl (lv_at hl 0 rfl) ?_
    refine va_get (D := (dC, dI)) (ci := 4) (v := .int (nI 1)) (C := RX5) (T := TX5) (N := 15) hx hb hts iwX5 hown hK hP 0 rfl rfl 13 (by decide) fk43 (fun _ h9 => h9) rfl dX5_told_20 ?_
    refine lv_if_le (tgt := 28) hx hb dX5_told_23 (by decide) (fun c_23 => absurd c_23 (by decide)) (fun c_23 => ?_)
    refine lv_iconst (v := nI 0) hx hb dX5_told_26 (by decide) ?_
    have hP9 := hP.sub (ws' := [(qm, .inr (4, [.ref qmd, .ref qmt, .int (nI n), .int (bI on), .int lf, .int (nI dn), .int pl, .ref qml, .int (nI k), .ref qmk, .int (nI mz), .ref qmh, .int (nI nh), .int (nI 1), .ref qmw])), (qmd, .inl (cyI, 512, .inl w))]) [0, 1] rfl
    have hD9 := hD.sub (ws' := [(qm, .inr (4, [.ref qmd, .ref qmt, .int (nI n), .int (bI on), .int lf, .int (nI dn), .int pl, .ref qml, .int (nI k), .ref qmk, .int (nI mz), .ref qmh, .int (nI nh), .int (nI 1), .ref qmw])), (qmd, .inl (cyI, 512, .inl w))]) [0, 1] (by decide) rfl
    have hK9 := hK.sub (tys' := [(cyI, .int), (cyZ, .boolean)]) [0, 1] rfl
    exact W.iret hx hb hr (fun tS ht hW => ⟨⟨_, (), rfl, rfl, by rw [ht]; exact hP9, va_K.moved hW.alike hK9, hD9⟩, hS.F ht⟩) hS.2.2 dX5_told_27
  ·
    refine lv_iload_n hx hb dX5_told_5 rfl (lv_at hl 1 rfl) ?_
    refine lv_bipush (v := nI 7) hx hb dX5_told_6 (by decide) ?_
    refine lv_icmp_le (tgt := 15) hx hb dX5_told_8 (by decide) (fun c_8 => ?_) (fun c_8 => ?_)
    ·
      exfalso
      obtain ⟨q, h1, h2⟩ := i_0to (n := 7) (by decide) c_2 c_8
      exact HBAD ⟨q, h2, h1⟩
    ·
      refine lv_iconst (v := nI 1) hx hb dX5_told_11 (by decide) ?_
      refine lv_goto (tgt := 16) hx hb dX5_told_12 (by decide) ?_
      refine va_put (D := (dC, dI)) (ci := 4) (v := .int (nI 1)) (ty := .int) (C := RX5) (T := TX5) (N := 15) hx hb hts iwX5 tyX5 tyX5_ok nmX5 hown hK hP hD hS 0 rfl rfl 13 (by decide) fk43 (fun _ h9 => h9) rfl (by decide +kernel) rfl rfl (Nat.le_of_ble_eq_true rfl) dX5_told_16 (fun H locs hP hD hS => ?_)
      have hP : va_P (dC, dI) vwCl [(qm, .inr (4, [.ref qmd, .ref qmt, .int (nI n), .int (bI on), .int lf, .int (nI dn), .int pl, .ref qml, .int (nI k), .ref qmk, .int (nI mz), .ref qmh, .int (nI nh), .int (nI 1), .ref qmw])), (qmd, .inl (cyI, 512, .inl w))] H := hP
      have hD : va_D A [(qm, .inr (4, [.ref qmd, .ref qmt, .int (nI n), .int (bI on), .int lf, .int (nI dn), .int pl, .ref qml, .int (nI k), .ref qmk, .int (nI mz), .ref qmh, .int (nI nh), .int (nI 1), .ref qmw])), (qmd, .inl (cyI, 512, .inl w))] := hD
      refine lv_aload_n hx hb dX5_told_19 rfl (lv_at hl 0 rfl) ?_
      refine va_get (D := (dC, dI)) (ci := 4) (v := .int (nI 1)) (C := RX5) (T := TX5) (N := 15) hx hb hts iwX5 hown hK hP 0 rfl rfl 13 (by decide) fk43 (fun _ h9 => h9) rfl dX5_told_20 ?_
      refine lv_if_le (tgt := 28) hx hb dX5_told_23 (by decide) (fun c_23 => absurd c_23 (by decide)) (fun c_23 => ?_)
      refine lv_iconst (v := nI 0) hx hb dX5_told_26 (by decide) ?_
      have hP9 := hP.sub (ws' := [(qm, .inr (4, [.ref qmd, .ref qmt, .int (nI n), .int (bI on), .int lf, .int (nI dn), .int pl, .ref qml, .int (nI k), .ref qmk, .int (nI mz), .ref qmh, .int (nI nh), .int (nI 1), .ref qmw])), (qmd, .inl (cyI, 512, .inl w))]) [0, 1] rfl
      have hD9 := hD.sub (ws' := [(qm, .inr (4, [.ref qmd, .ref qmt, .int (nI n), .int (bI on), .int lf, .int (nI dn), .int pl, .ref qml, .int (nI k), .ref qmk, .int (nI mz), .ref qmh, .int (nI nh), .int (nI 1), .ref qmw])), (qmd, .inl (cyI, 512, .inl w))]) [0, 1] (by decide) rfl
      have hK9 := hK.sub (tys' := [(cyI, .int), (cyZ, .boolean)]) [0, 1] rfl
      exact W.iret hx hb hr (fun tS ht hW => ⟨⟨_, (), rfl, rfl, by rw [ht]; exact hP9, va_K.moved hW.alike hK9, hD9⟩, hS.F ht⟩) hS.2.2 dX5_told_27
set_option maxHeartbeats 4000000 in
set_option maxRecDepth 100000 in
theorem c_X5_told_ok (l : Launch) (dC : Nat → ClassId) (dI : Nat → Nat → Nat) (cyI cyZ : ClassId) (qm qmd qmw qmt qml qmk qmh : Nat) (sz : Nat) (n : Nat) (on : Bool) (lf : Int32) (dn : Nat) (pl : Int32) (k mz nh : Nat) (th : Int32) (w : Nat → Int32) (WL : Nat → Int32) (j : Nat) (hj7 : j ≤ 7) (HP0 : kPos w) : Met l yX5_told wsX5_told ({ frames := 5, cells := 0, slots := 0, locals := 109 }) (va_Pc [.ref qm, .int (nI j)] (fun U => U.heap.size = sz ∧ va_P (dC, dI) vwCl [(qm, .inr (4, [.ref qmd, .ref qmt, .int (nI n), .int (bI on), .int lf, .int (nI dn), .int pl, .ref qml, .int (nI k), .ref qmk, .int (nI mz), .ref qmh, .int (nI nh), .int th, .ref qmw])), (qmd, .inl (cyI, 512, .inl w)), (qmw, .inl (cyZ, 64, .inl WL))] U.heap ∧ va_K (dC, dI) vwCl [(cyI, .int), (cyZ, .boolean)] U ∧ va_D (fun _ => True) [(qm, .inr (4, [.ref qmd, .ref qmt, .int (nI n), .int (bI on), .int lf, .int (nI dn), .int pl, .ref qml, .int (nI k), .ref qmk, .int (nI mz), .ref qmh, .int (nI nh), .int th, .ref qmw])), (qmd, .inl (cyI, 512, .inl w)), (qmw, .inl (cyZ, 64, .inl WL))])) (va_Qi (S := (Nat → Int32)) (fun (r : Int32) (WL1 : (Nat → Int32)) => r = zTold w on dn n j) (fun (WL1 : (Nat → Int32)) tS => va_P (dC, dI) vwCl [(qm, .inr (4, [.ref qmd, .ref qmt, .int (nI n), .int (bI on), .int lf, .int (nI dn), .int pl, .ref qml, .int (nI k), .ref qmk, .int (nI mz), .ref qmh, .int (nI nh), .int (nI 0), .ref qmw])), (qmd, .inl (cyI, 512, .inl w)), (qmw, .inl (cyZ, 64, .inl WL1))] tS.heap ∧ va_K (dC, dI) vwCl [(cyI, .int), (cyZ, .boolean)] tS ∧ va_D (va_A [(qm, .inr (4, [.ref qmd, .ref qmt, .int (nI n), .int (bI on), .int lf, .int (nI dn), .int pl, .ref qml, .int (nI k), .ref qmk, .int (nI mz), .ref qmh, .int (nI nh), .int th, .ref qmw])), (qmd, .inl (cyI, 512, .inl w)), (qmw, .inl (cyZ, 64, .inl WL))] sz) [(qm, .inr (4, [.ref qmd, .ref qmt, .int (nI n), .int (bI on), .int lf, .int (nI dn), .int pl, .ref qml, .int (nI k), .ref qmk, .int (nI mz), .ref qmh, .int (nI nh), .int (nI 0), .ref qmw])), (qmd, .inl (cyI, 512, .inl w)), (qmw, .inl (cyZ, 64, .inl WL1))]) (va_A [(qm, .inr (4, [.ref qmd, .ref qmt, .int (nI n), .int (bI on), .int lf, .int (nI dn), .int pl, .ref qml, .int (nI k), .ref qmk, .int (nI mz), .ref qmh, .int (nI nh), .int th, .ref qmw])), (qmd, .inl (cyI, 512, .inl w)), (qmw, .inl (cyZ, 64, .inl WL))] sz)) 0 0 (va_A [(qm, .inr (4, [.ref qmd, .ref qmt, .int (nI n), .int (bI on), .int lf, .int (nI dn), .int pl, .ref qml, .int (nI k), .ref qmk, .int (nI mz), .ref qmh, .int (nI nh), .int th, .ref qmw])), (qmd, .inl (cyI, 512, .inl w)), (qmw, .inl (cyZ, 64, .inl WL))] sz) := by
  refine Met.ofW (cc := cX5_told) (maxL := 5) (ret := (some .int)) (by decide) rfl ?_
  intro pz ez sS mM args below meth cC s₁ B hml hv
  obtain ⟨rfl, hsz, hP, hK, hD0⟩ := hv
  have hx := B.exec
  have hb := B.bytes
  have hr := B.returns
  have hts := atoms_spec (ws := wsX5_told) B.pre
  have hown : sS.vm.findClass RX5 = some mM.cls := findClass_of_methodNamed B.named
  have hlocks := B.notSynchronized
  subst hsz
  have hD := hD0.self (sz := sS.heap.size)
  generalize hAe : va_A [(qm, .inr (4, [.ref qmd, .ref qmt, .int (nI n), .int (bI on), .int lf, .int (nI dn), .int pl, .ref qml, .int (nI k), .ref qmk, .int (nI mz), .ref qmh, .int (nI nh), .int th, .ref qmw])), (qmd, .inl (cyI, 512, .inl w)), (qmw, .inl (cyZ, 64, .inl WL))] sS.heap.size = A at hD ⊢
  have hA : ∀ q : Nat, sS.heap.size ≤ q → A q := fun q h => by rw [← hAe]; exact Or.inr h
  have hS : va_S A sS.heap sS.heap [] := va_S.rf
  have hP : va_P (dC, dI) vwCl [(qm, .inr (4, [.ref qmd, .ref qmt, .int (nI n), .int (bI on), .int lf, .int (nI dn), .int pl, .ref qml, .int (nI k), .ref qmk, .int (nI mz), .ref qmh, .int (nI nh), .int th, .ref qmw])), (qmd, .inl (cyI, 512, .inl w)), (qmw, .inl (cyZ, 64, .inl WL))] sS.heap := hP
  have iwX5 : ∀ w ∈ wsX50, w ∈ wsX5_told := by decide +kernel
  have fk16 := hts (.fieldLink RX5 16 "CodedStoreModel" "on" "Z") (by decide +kernel)
  have fk36 := hts (.fieldLink RX5 36 "CodedStoreModel" "wasLive" "[Z") (by decide +kernel)
  have fk40 := hts (.fieldLink RX5 40 "CodedStoreModel" "size" "I") (by decide +kernel)
  have fk43 := hts (.fieldLink RX5 43 "CodedStoreModel" "thrown" "I") (by decide +kernel)
  have fk104 := hts (.fieldLink RX5 104 "CodedStoreModel" "writes" "I") (by decide +kernel)
  have hl := lv_entry ([.ref qm, .int (nI j)]) (n := 5) (Nat.le_of_ble_eq_true rfl)
  rw [lg_entry_eq]
  generalize (lg_sl ([.ref qm, .int (nI j)]) ++ List.replicate (5 - (lg_sl ([.ref qm, .int (nI j)])).length) Slot.unset).toArray = ls at hl ⊢
  have hl : lv_has ls 5 [(0, .ref qm), (1, .int (nI j))] := hl
  have hct := fb_ct_le (kLive w) 64
  refine lv_aload_n hx hb dX5_told_0 rfl (lv_at hl 0 rfl) ?_
  refine lv_iload_n hx hb dX5_told_1 rfl (lv_at hl 1 rfl) ?_
  refine zn_if_lt (tgt := 11) hx hb dX5_told_2 (by decide) (by omega) ?_
  refine lv_iload_n hx hb dX5_told_5 rfl (lv_at hl 1 rfl) ?_
  refine lv_bipush (v := nI 7) hx hb dX5_told_6 (by decide) ?_
  refine zn_icmp_le (tgt := 15) hx hb dX5_told_8 (by decide) (by omega) (by omega) (fun c_8 => ?_) (fun c_8 => ?_)
  ·
    refine lv_iconst (v := nI 0) hx hb dX5_told_15 (by decide) ?_
    refine va_put (D := (dC, dI)) (ci := 4) (v := .int (nI 0)) (ty := .int) (C := RX5) (T := TX5) (N := 15) hx hb hts iwX5 tyX5 tyX5_ok nmX5 hown hK hP hD hS 0 rfl rfl 13 (by decide) fk43 (fun _ h9 => h9) rfl (by decide +kernel) rfl rfl (Nat.le_of_ble_eq_true rfl) dX5_told_16 (fun H locs hP hD hS => ?_)
    have hP : va_P (dC, dI) vwCl [(qm, .inr (4, [.ref qmd, .ref qmt, .int (nI n), .int (bI on), .int lf, .int (nI dn), .int pl, .ref qml, .int (nI k), .ref qmk, .int (nI mz), .ref qmh, .int (nI nh), .int (nI 0), .ref qmw])), (qmd, .inl (cyI, 512, .inl w)), (qmw, .inl (cyZ, 64, .inl WL))] H := hP
    have hD : va_D A [(qm, .inr (4, [.ref qmd, .ref qmt, .int (nI n), .int (bI on), .int lf, .int (nI dn), .int pl, .ref qml, .int (nI k), .ref qmk, .int (nI mz), .ref qmh, .int (nI nh), .int (nI 0), .ref qmw])), (qmd, .inl (cyI, 512, .inl w)), (qmw, .inl (cyZ, 64, .inl WL))] := hD
    refine lv_aload_n hx hb dX5_told_19 rfl (lv_at hl 0 rfl) ?_
    refine va_get (D := (dC, dI)) (ci := 4) (v := .int (nI 0)) (C := RX5) (T := TX5) (N := 15) hx hb hts iwX5 hown hK hP 0 rfl rfl 13 (by decide) fk43 (fun _ h9 => h9) rfl dX5_told_20 ?_
    refine lv_if_le (tgt := 28) hx hb dX5_told_23 (by decide) (fun c_23 => ?_) (fun c_23 => absurd (by decide) c_23)
    refine lv_aload_n hx hb dX5_told_28 rfl (lv_at hl 0 rfl) ?_
    have hPc := hP.sub (ws' := [(qm, .inr (4, [.ref qmd, .ref qmt, .int (nI n), .int (bI on), .int lf, .int (nI dn), .int pl, .ref qml, .int (nI k), .ref qmk, .int (nI mz), .ref qmh, .int (nI nh), .int (nI 0), .ref qmw])), (qmd, .inl (cyI, 512, .inl w)), (qmw, .inl (cyZ, 64, .inl WL))]) [0, 1, 2] rfl
    have hKc := hK.sub (tys' := [(cyI, .int), (cyZ, .boolean)]) [0, 1] rfl
    have hDc := hD.sub (ws' := [(qm, .inr (4, [.ref qmd, .ref qmt, .int (nI n), .int (bI on), .int lf, .int (nI dn), .int pl, .ref qml, .int (nI k), .ref qmk, .int (nI mz), .ref qmh, .int (nI nh), .int (nI 0), .ref qmw])), (qmd, .inl (cyI, 512, .inl w)), (qmw, .inl (cyZ, 64, .inl WL))]) [0, 1, 2] (by decide) rfl
    have hFc := va_free (wc := [(qm, .inr (4, [.ref qmd, .ref qmt, .int (nI n), .int (bI on), .int lf, .int (nI dn), .int pl, .ref qml, .int (nI k), .ref qmk, .int (nI mz), .ref qmh, .int (nI nh), .int (nI 0), .ref qmw])), (qmd, .inl (cyI, 512, .inl w)), (qmw, .inl (cyZ, 64, .inl WL))]) hD hS hA [0, 1, 2] rfl
    refine va_calli (va_runV (As := []) (rest := []) ⟨hx, hb, hml, hown, hts⟩ (c_X5_findLive l dC dI cyI cyZ qm qmd qmw qmt qml qmk qmh H.size n on lf dn pl k mz nh (nI 0) w WL (HP0)) (cwV 0 hts gX5_told_X5_findLive rfl rfl rfl (by decide +kernel) ⟨Nat.le_of_ble_eq_true rfl, Nat.le_of_ble_eq_true rfl⟩) ⟨zz_blW, va_recv hKc hPc (ci := 4) (q0 := 0) rfl rfl, fun U hU hW => ⟨rfl, by rw [hU], by rw [hU]; exact hPc, va_K.moved hW.alike hKc, hDc.weaken (fun _ _ _ _ => trivial)⟩⟩ rfl rfl hl.1 rfl (lv_room (Nat.le_of_ble_eq_true rfl)) dX5_told_29 ⟨Nat.zero_le _, Nat.zero_le _⟩) hS (fun q _ h => hFc q h) hFc (fun r_29 uU tS H1 locs ht9 hvm9 hw9 hB9 hz1 hk1 hS => ?_)
    obtain ⟨WL1_29, rfl⟩ : ∃ z, z = uU := ⟨_, rfl⟩
    obtain ⟨hP1, hK1, hD1⟩ := hB9
    have hw9 : (r_29 = nI (fb_ct (kLive w) 64)) ∧ (∀ j, j < 64 → WL1_29 j = bI (kLive w j)) := hw9
    obtain ⟨hr_29, HWL_29⟩ := hw9
    have hr_29 := Eq.symm hr_29
    subst hr_29
    rw [ht9] at hP1
    have hK1 := va_K.moved hvm9.symm hK1
    obtain ⟨hP, hD⟩ := va_join (wr := []) (w1 := [(qm, .inr (4, [.ref qmd, .ref qmt, .int (nI n), .int (bI on), .int lf, .int (nI dn), .int pl, .ref qml, .int (nI k), .ref qmk, .int (nI mz), .ref qmh, .int (nI nh), .int (nI 0), .ref qmw])), (qmd, .inl (cyI, 512, .inl w)), (qmw, .inl (cyZ, 64, .inl WL1_29))]) hP hD [0, 1, 2] [] rfl rfl (by decide) (by decide) hk1 hFc hP1 hD1
    generalize H1 = H at hP hS ⊢
    have hP : va_P (dC, dI) vwCl [(qm, .inr (4, [.ref qmd, .ref qmt, .int (nI n), .int (bI on), .int lf, .int (nI dn), .int pl, .ref qml, .int (nI k), .ref qmk, .int (nI mz), .ref qmh, .int (nI nh), .int (nI 0), .ref qmw])), (qmd, .inl (cyI, 512, .inl w)), (qmw, .inl (cyZ, 64, .inl WL1_29))] H := hP
    have hD : va_D A [(qm, .inr (4, [.ref qmd, .ref qmt, .int (nI n), .int (bI on), .int lf, .int (nI dn), .int pl, .ref qml, .int (nI k), .ref qmk, .int (nI mz), .ref qmh, .int (nI nh), .int (nI 0), .ref qmw])), (qmd, .inl (cyI, 512, .inl w)), (qmw, .inl (cyZ, 64, .inl WL1_29))] := hD
    refine lv_istore_n (lv' := [(2, .int (nI (fb_ct (kLive w) 64))), (0, .ref qm), (1, .int (nI j))]) hx hb dX5_told_32 rfl hl (by decide) rfl (fun ls hl => ?_)
    refine lv_iconst (v := nI 0) hx hb dX5_told_33 (by decide) ?_
    refine lv_istore_n (lv' := [(3, .int (nI 0)), (2, .int (nI (fb_ct (kLive w) 64))), (0, .ref qm), (1, .int (nI j))]) hx hb dX5_told_34 rfl hl (by decide) rfl (fun ls hl => ?_)
    refine lv_iconst (v := nI 0) hx hb dX5_told_35 (by decide) ?_
    refine lv_istore (lv' := [(4, .int (nI 0)), (3, .int (nI 0)), (2, .int (nI (fb_ct (kLive w) 64))), (0, .ref qm), (1, .int (nI j))]) hx hb dX5_told_36 hl (by decide) rfl (fun ls hl => ?_)
    refine zz_loopW (pc := 38) (μ := fun (v : Nat) => 64 - v) (Inv := fun (v : Nat) (H : Heap) (locs : List Loc) (ls : Array Slot) => (v ≤ 64) ∧ va_P (dC, dI) vwCl [(qm, .inr (4, [.ref qmd, .ref qmt, .int (nI n), .int (bI on), .int lf, .int (nI dn), .int pl, .ref qml, .int (nI k), .ref qmk, .int (nI mz), .ref qmh, .int (nI nh), .int (nI 0), .ref qmw])), (qmd, .inl (cyI, 512, .inl w)), (qmw, .inl (cyZ, 64, .inl WL1_29))] H ∧ va_D A [(qm, .inr (4, [.ref qmd, .ref qmt, .int (nI n), .int (bI on), .int lf, .int (nI dn), .int pl, .ref qml, .int (nI k), .ref qmk, .int (nI mz), .ref qmh, .int (nI nh), .int (nI 0), .ref qmw])), (qmd, .inl (cyI, 512, .inl w)), (qmw, .inl (cyZ, 64, .inl WL1_29))] ∧ va_S A sS.heap H locs ∧ lv_has ls 5 [(0, .ref qm), (1, .int (nI j)), (2, .int (nI (fb_ct (kLive w) 64))), (3, .int (nI (fb_ct (kGrave (kLive w) w) v))), (4, .int (nI v))]) (x0 := (0)) ⟨by omega, hP, hD, hS, lv_sub hl [3, 4, 2, 1, 0] rfl⟩ ?_
    intro v H locs ls hI ih38
    obtain ⟨hv9, hP, hD, hS, hl⟩ := hI
    have hl : lv_has ls 5 [(0, .ref qm), (1, .int (nI j)), (2, .int (nI (fb_ct (kLive w) 64))), (3, .int (nI (fb_ct (kGrave (kLive w) w) v))), (4, .int (nI v))] := hl
    have hP : va_P (dC, dI) vwCl [(qm, .inr (4, [.ref qmd, .ref qmt, .int (nI n), .int (bI on), .int lf, .int (nI dn), .int pl, .ref qml, .int (nI k), .ref qmk, .int (nI mz), .ref qmh, .int (nI nh), .int (nI 0), .ref qmw])), (qmd, .inl (cyI, 512, .inl w)), (qmw, .inl (cyZ, 64, .inl WL1_29))] H := hP
    have hD : va_D A [(qm, .inr (4, [.ref qmd, .ref qmt, .int (nI n), .int (bI on), .int lf, .int (nI dn), .int pl, .ref qml, .int (nI k), .ref qmk, .int (nI mz), .ref qmh, .int (nI nh), .int (nI 0), .ref qmw])), (qmd, .inl (cyI, 512, .inl w)), (qmw, .inl (cyZ, 64, .inl WL1_29))] := hD
    have hv9 : v ≤ 64 := hv9
    refine lv_iload hx hb dX5_told_38 (lv_at hl 4 rfl) ?_
    refine lv_bipush (v := nI 64) hx hb dX5_told_40 (by decide) ?_
    refine zn_icmp_ge (tgt := 79) hx hb dX5_told_42 (by decide) (by omega) (by omega) (fun c_42 => ?_) (fun c_42 => ?_)
    ·
      refine lv_iload_n hx hb dX5_told_79 rfl (lv_at hl 1 rfl) ?_
      rcases (show j = 0 ∨ j = 1 ∨ j = 2 ∨ j = 3 ∨ j = 4 ∨ j = 5 ∨ j = 6 ∨ j = 7 by omega) with rfl | rfl | rfl | rfl | rfl | rfl | rfl | rfl
      ·
        refine lv_tableIn (tgt := 124) (off := 44) hx hb dX5_told_80 (by decide) (by decide) (by decide) (by decide) ?_
        refine lv_aload_n hx hb dX5_told_124 rfl (lv_at hl 0 rfl) ?_
        have hPc := hP.sub (ws' := [(qm, .inr (4, [.ref qmd, .ref qmt, .int (nI n), .int (bI on), .int lf, .int (nI dn), .int pl, .ref qml, .int (nI k), .ref qmk, .int (nI mz), .ref qmh, .int (nI nh), .int (nI 0), .ref qmw])), (qmd, .inl (cyI, 512, .inl w))]) [0, 1] rfl
        have hKc := hK.sub (tys' := [(cyI, .int), (cyZ, .boolean)]) [0, 1] rfl
        refine vp_callSi (va_Run.run (va_runV (As := []) (rest := []) ⟨hx, hb, hml, hown, hts⟩ (c_X5_texts l dC dI cyI cyZ qm qmd qmt qml qmk qmh qmw n on lf dn pl k mz nh (nI 0) w (HP0)) (cwV 0 hts gX5_told_X5_texts rfl rfl rfl (by decide +kernel) ⟨Nat.le_of_ble_eq_true rfl, Nat.le_of_ble_eq_true rfl⟩) ⟨zz_blR, va_recv hKc hPc (ci := 4) (q0 := 0) rfl rfl, fun U hU hW => ⟨rfl, by rw [hU]; exact hPc, va_K.moved hW.alike hKc⟩⟩ rfl rfl hl.1 rfl (lv_room (Nat.le_of_ble_eq_true rfl)) dX5_told_125 ⟨Nat.zero_le _, Nat.zero_le _⟩)) (fun r_125 hr_125 => ?_)
        have hr_125 : nI (fb_ct (kText (kLive w) w) 64) = r_125 := Eq.symm hr_125
        subst hr_125
        have ev : v = 64 := by omega
        subst ev
        have hP9 := hP.sub (ws' := [(qm, .inr (4, [.ref qmd, .ref qmt, .int (nI n), .int (bI on), .int lf, .int (nI dn), .int pl, .ref qml, .int (nI k), .ref qmk, .int (nI mz), .ref qmh, .int (nI nh), .int (nI 0), .ref qmw])), (qmd, .inl (cyI, 512, .inl w)), (qmw, .inl (cyZ, 64, .inl WL1_29))]) [0, 1, 2] rfl
        have hD9 := hD.sub (ws' := [(qm, .inr (4, [.ref qmd, .ref qmt, .int (nI n), .int (bI on), .int lf, .int (nI dn), .int pl, .ref qml, .int (nI k), .ref qmk, .int (nI mz), .ref qmh, .int (nI nh), .int (nI 0), .ref qmw])), (qmd, .inl (cyI, 512, .inl w)), (qmw, .inl (cyZ, 64, .inl WL1_29))]) [0, 1, 2] (by decide) rfl
        have hK9 := hK.sub (tys' := [(cyI, .int), (cyZ, .boolean)]) [0, 1] rfl
        have hret : (nI (fb_ct (kText (kLive w) w) 64) : Int32) = zTold w on dn n 0 := zTold_0.symm
        refine zz_top hret ?_
        exact W.iret hx hb hr (fun tS ht hW => ⟨⟨_, WL1_29, rfl, rfl, by rw [ht]; exact hP9, va_K.moved hW.alike hK9, hD9⟩, hS.F ht⟩) hS.2.2 dX5_told_128
      ·
        refine lv_tableIn (tgt := 129) (off := 49) hx hb dX5_told_80 (by decide) (by decide) (by decide) (by decide) ?_
        refine lv_iload_n hx hb dX5_told_129 rfl (lv_at hl 2 rfl) ?_
        have ev : v = 64 := by omega
        subst ev
        have hP9 := hP.sub (ws' := [(qm, .inr (4, [.ref qmd, .ref qmt, .int (nI n), .int (bI on), .int lf, .int (nI dn), .int pl, .ref qml, .int (nI k), .ref qmk, .int (nI mz), .ref qmh, .int (nI nh), .int (nI 0), .ref qmw])), (qmd, .inl (cyI, 512, .inl w)), (qmw, .inl (cyZ, 64, .inl WL1_29))]) [0, 1, 2] rfl
        have hD9 := hD.sub (ws' := [(qm, .inr (4, [.ref qmd, .ref qmt, .int (nI n), .int (bI on), .int lf, .int (nI dn), .int pl, .ref qml, .int (nI k), .ref qmk, .int (nI mz), .ref qmh, .int (nI nh), .int (nI 0), .ref qmw])), (qmd, .inl (cyI, 512, .inl w)), (qmw, .inl (cyZ, 64, .inl WL1_29))]) [0, 1, 2] (by decide) rfl
        have hK9 := hK.sub (tys' := [(cyI, .int), (cyZ, .boolean)]) [0, 1] rfl
        have hret : (nI (fb_ct (kLive w) 64) : Int32) = zTold w on dn n 1 := zTold_1.symm
        refine zz_top hret ?_
        exact W.iret hx hb hr (fun tS ht hW => ⟨⟨_, WL1_29, rfl, rfl, by rw [ht]; exact hP9, va_K.moved hW.alike hK9, hD9⟩, hS.F ht⟩) hS.2.2 dX5_told_130
      ·
        refine lv_tableIn (tgt := 131) (off := 51) hx hb dX5_told_80 (by decide) (by decide) (by decide) (by decide) ?_
        refine lv_bipush (v := nI 64) hx hb dX5_told_131 (by decide) ?_
        refine lv_iload_n hx hb dX5_told_133 rfl (lv_at hl 2 rfl) ?_
        refine lv_isub hx hb dX5_told_134 ?_
        refine zz_top (pk_sub (a := 64) (b := fb_ct (kLive w) 64) (by omega)) ?_
        have ev : v = 64 := by omega
        subst ev
        have hP9 := hP.sub (ws' := [(qm, .inr (4, [.ref qmd, .ref qmt, .int (nI n), .int (bI on), .int lf, .int (nI dn), .int pl, .ref qml, .int (nI k), .ref qmk, .int (nI mz), .ref qmh, .int (nI nh), .int (nI 0), .ref qmw])), (qmd, .inl (cyI, 512, .inl w)), (qmw, .inl (cyZ, 64, .inl WL1_29))]) [0, 1, 2] rfl
        have hD9 := hD.sub (ws' := [(qm, .inr (4, [.ref qmd, .ref qmt, .int (nI n), .int (bI on), .int lf, .int (nI dn), .int pl, .ref qml, .int (nI k), .ref qmk, .int (nI mz), .ref qmh, .int (nI nh), .int (nI 0), .ref qmw])), (qmd, .inl (cyI, 512, .inl w)), (qmw, .inl (cyZ, 64, .inl WL1_29))]) [0, 1, 2] (by decide) rfl
        have hK9 := hK.sub (tys' := [(cyI, .int), (cyZ, .boolean)]) [0, 1] rfl
        have hret : (nI (64 - (fb_ct (kLive w) 64)) : Int32) = zTold w on dn n 2 := zTold_2.symm
        refine zz_top hret ?_
        exact W.iret hx hb hr (fun tS ht hW => ⟨⟨_, WL1_29, rfl, rfl, by rw [ht]; exact hP9, va_K.moved hW.alike hK9, hD9⟩, hS.F ht⟩) hS.2.2 dX5_told_135
      ·
        refine lv_tableIn (tgt := 136) (off := 56) hx hb dX5_told_80 (by decide) (by decide) (by decide) (by decide) ?_
        refine lv_iload_n hx hb dX5_told_136 rfl (lv_at hl 3 rfl) ?_
        have ev : v = 64 := by omega
        subst ev
        have hP9 := hP.sub (ws' := [(qm, .inr (4, [.ref qmd, .ref qmt, .int (nI n), .int (bI on), .int lf, .int (nI dn), .int pl, .ref qml, .int (nI k), .ref qmk, .int (nI mz), .ref qmh, .int (nI nh), .int (nI 0), .ref qmw])), (qmd, .inl (cyI, 512, .inl w)), (qmw, .inl (cyZ, 64, .inl WL1_29))]) [0, 1, 2] rfl
        have hD9 := hD.sub (ws' := [(qm, .inr (4, [.ref qmd, .ref qmt, .int (nI n), .int (bI on), .int lf, .int (nI dn), .int pl, .ref qml, .int (nI k), .ref qmk, .int (nI mz), .ref qmh, .int (nI nh), .int (nI 0), .ref qmw])), (qmd, .inl (cyI, 512, .inl w)), (qmw, .inl (cyZ, 64, .inl WL1_29))]) [0, 1, 2] (by decide) rfl
        have hK9 := hK.sub (tys' := [(cyI, .int), (cyZ, .boolean)]) [0, 1] rfl
        have hret : (nI (fb_ct (kGrave (kLive w) w) 64) : Int32) = zTold w on dn n 3 := zTold_3.symm
        refine zz_top hret ?_
        exact W.iret hx hb hr (fun tS ht hW => ⟨⟨_, WL1_29, rfl, rfl, by rw [ht]; exact hP9, va_K.moved hW.alike hK9, hD9⟩, hS.F ht⟩) hS.2.2 dX5_told_137
      ·
        refine lv_tableIn (tgt := 138) (off := 58) hx hb dX5_told_80 (by decide) (by decide) (by decide) (by decide) ?_
        refine lv_aload_n hx hb dX5_told_138 rfl (lv_at hl 0 rfl) ?_
        have hPc := hP.sub (ws' := [(qm, .inr (4, [.ref qmd, .ref qmt, .int (nI n), .int (bI on), .int lf, .int (nI dn), .int pl, .ref qml, .int (nI k), .ref qmk, .int (nI mz), .ref qmh, .int (nI nh), .int (nI 0), .ref qmw])), (qmd, .inl (cyI, 512, .inl w))]) [0, 1] rfl
        have hKc := hK.sub (tys' := [(cyI, .int), (cyZ, .boolean)]) [0, 1] rfl
        refine vp_callSi (va_Run.run (va_runV (As := []) (rest := []) ⟨hx, hb, hml, hown, hts⟩ (c_X5_greatest l dC dI cyI cyZ qm qmd qmt qml qmk qmh qmw n on lf dn pl k mz nh (nI 0) w) (cwV 0 hts gX5_told_X5_greatest rfl rfl rfl (by decide +kernel) ⟨Nat.le_of_ble_eq_true rfl, Nat.le_of_ble_eq_true rfl⟩) ⟨zz_blR, va_recv hKc hPc (ci := 4) (q0 := 0) rfl rfl, fun U hU hW => ⟨rfl, by rw [hU]; exact hPc, va_K.moved hW.alike hKc⟩⟩ rfl rfl hl.1 rfl (lv_room (Nat.le_of_ble_eq_true rfl)) dX5_told_139 ⟨Nat.zero_le _, Nat.zero_le _⟩)) (fun r_139 hr_139 => ?_)
        have hr_139 : kGr w 64 = r_139 := Eq.symm hr_139
        subst hr_139
        have ev : v = 64 := by omega
        subst ev
        have hP9 := hP.sub (ws' := [(qm, .inr (4, [.ref qmd, .ref qmt, .int (nI n), .int (bI on), .int lf, .int (nI dn), .int pl, .ref qml, .int (nI k), .ref qmk, .int (nI mz), .ref qmh, .int (nI nh), .int (nI 0), .ref qmw])), (qmd, .inl (cyI, 512, .inl w)), (qmw, .inl (cyZ, 64, .inl WL1_29))]) [0, 1, 2] rfl
        have hD9 := hD.sub (ws' := [(qm, .inr (4, [.ref qmd, .ref qmt, .int (nI n), .int (bI on), .int lf, .int (nI dn), .int pl, .ref qml, .int (nI k), .ref qmk, .int (nI mz), .ref qmh, .int (nI nh), .int (nI 0), .ref qmw])), (qmd, .inl (cyI, 512, .inl w)), (qmw, .inl (cyZ, 64, .inl WL1_29))]) [0, 1, 2] (by decide) rfl
        have hK9 := hK.sub (tys' := [(cyI, .int), (cyZ, .boolean)]) [0, 1] rfl
        have hret : (kGr w 64 : Int32) = zTold w on dn n 4 := zTold_4.symm
        refine zz_top hret ?_
        exact W.iret hx hb hr (fun tS ht hW => ⟨⟨_, WL1_29, rfl, rfl, by rw [ht]; exact hP9, va_K.moved hW.alike hK9, hD9⟩, hS.F ht⟩) hS.2.2 dX5_told_142
      ·
        refine lv_tableIn (tgt := 143) (off := 63) hx hb dX5_told_80 (by decide) (by decide) (by decide) (by decide) ?_
        refine lv_aload_n hx hb dX5_told_143 rfl (lv_at hl 0 rfl) ?_
        refine va_get (D := (dC, dI)) (ci := 4) (v := .int (nI dn)) (C := RX5) (T := TX5) (N := 15) hx hb hts iwX5 hown hK hP 0 rfl rfl 5 (by decide) fk104 (fun _ h9 => h9) rfl dX5_told_144 ?_
        have ev : v = 64 := by omega
        subst ev
        have hP9 := hP.sub (ws' := [(qm, .inr (4, [.ref qmd, .ref qmt, .int (nI n), .int (bI on), .int lf, .int (nI dn), .int pl, .ref qml, .int (nI k), .ref qmk, .int (nI mz), .ref qmh, .int (nI nh), .int (nI 0), .ref qmw])), (qmd, .inl (cyI, 512, .inl w)), (qmw, .inl (cyZ, 64, .inl WL1_29))]) [0, 1, 2] rfl
        have hD9 := hD.sub (ws' := [(qm, .inr (4, [.ref qmd, .ref qmt, .int (nI n), .int (bI on), .int lf, .int (nI dn), .int pl, .ref qml, .int (nI k), .ref qmk, .int (nI mz), .ref qmh, .int (nI nh), .int (nI 0), .ref qmw])), (qmd, .inl (cyI, 512, .inl w)), (qmw, .inl (cyZ, 64, .inl WL1_29))]) [0, 1, 2] (by decide) rfl
        have hK9 := hK.sub (tys' := [(cyI, .int), (cyZ, .boolean)]) [0, 1] rfl
        have hret : (nI dn : Int32) = zTold w on dn n 5 := zTold_5.symm
        refine zz_top hret ?_
        exact W.iret hx hb hr (fun tS ht hW => ⟨⟨_, WL1_29, rfl, rfl, by rw [ht]; exact hP9, va_K.moved hW.alike hK9, hD9⟩, hS.F ht⟩) hS.2.2 dX5_told_147
      ·
        refine lv_tableIn (tgt := 148) (off := 68) hx hb dX5_told_80 (by decide) (by decide) (by decide) (by decide) ?_
        refine lv_aload_n hx hb dX5_told_148 rfl (lv_at hl 0 rfl) ?_
        refine va_get (D := (dC, dI)) (ci := 4) (v := .int (bI on)) (C := RX5) (T := TX5) (N := 15) hx hb hts iwX5 hown hK hP 0 rfl rfl 3 (by decide) fk16 (fun _ h9 => h9) rfl dX5_told_149 ?_
        refine zb_if_eq (tgt := 159) hx hb dX5_told_152 (by decide) (fun c_152 => ?_) (fun c_152 => ?_)
        ·
          refine lv_iconst (v := nI 0) hx hb dX5_told_159 (by decide) ?_
          have ev : v = 64 := by omega
          subst ev
          have hP9 := hP.sub (ws' := [(qm, .inr (4, [.ref qmd, .ref qmt, .int (nI n), .int (bI on), .int lf, .int (nI dn), .int pl, .ref qml, .int (nI k), .ref qmk, .int (nI mz), .ref qmh, .int (nI nh), .int (nI 0), .ref qmw])), (qmd, .inl (cyI, 512, .inl w)), (qmw, .inl (cyZ, 64, .inl WL1_29))]) [0, 1, 2] rfl
          have hD9 := hD.sub (ws' := [(qm, .inr (4, [.ref qmd, .ref qmt, .int (nI n), .int (bI on), .int lf, .int (nI dn), .int pl, .ref qml, .int (nI k), .ref qmk, .int (nI mz), .ref qmh, .int (nI nh), .int (nI 0), .ref qmw])), (qmd, .inl (cyI, 512, .inl w)), (qmw, .inl (cyZ, 64, .inl WL1_29))]) [0, 1, 2] (by decide) rfl
          have hK9 := hK.sub (tys' := [(cyI, .int), (cyZ, .boolean)]) [0, 1] rfl
          have hret : (nI 0 : Int32) = zTold w on dn n 6 := by rw [zTold_6]; first | exact bI_1 c_152 | exact bI_0 c_152
          refine zz_top hret ?_
          exact W.iret hx hb hr (fun tS ht hW => ⟨⟨_, WL1_29, rfl, rfl, by rw [ht]; exact hP9, va_K.moved hW.alike hK9, hD9⟩, hS.F ht⟩) hS.2.2 dX5_told_160
        ·
          refine lv_iconst (v := nI 1) hx hb dX5_told_155 (by decide) ?_
          refine lv_goto (tgt := 160) hx hb dX5_told_156 (by decide) ?_
          have ev : v = 64 := by omega
          subst ev
          have hP9 := hP.sub (ws' := [(qm, .inr (4, [.ref qmd, .ref qmt, .int (nI n), .int (bI on), .int lf, .int (nI dn), .int pl, .ref qml, .int (nI k), .ref qmk, .int (nI mz), .ref qmh, .int (nI nh), .int (nI 0), .ref qmw])), (qmd, .inl (cyI, 512, .inl w)), (qmw, .inl (cyZ, 64, .inl WL1_29))]) [0, 1, 2] rfl
          have hD9 := hD.sub (ws' := [(qm, .inr (4, [.ref qmd, .ref qmt, .int (nI n), .int (bI on), .int lf, .int (nI dn), .int pl, .ref qml, .int (nI k), .ref qmk, .int (nI mz), .ref qmh, .int (nI nh), .int (nI 0), .ref qmw])), (qmd, .inl (cyI, 512, .inl w)), (qmw, .inl (cyZ, 64, .inl WL1_29))]) [0, 1, 2] (by decide) rfl
          have hK9 := hK.sub (tys' := [(cyI, .int), (cyZ, .boolean)]) [0, 1] rfl
          have hret : (nI 1 : Int32) = zTold w on dn n 6 := by rw [zTold_6]; first | exact bI_1 c_152 | exact bI_0 c_152
          refine zz_top hret ?_
          exact W.iret hx hb hr (fun tS ht hW => ⟨⟨_, WL1_29, rfl, rfl, by rw [ht]; exact hP9, va_K.moved hW.alike hK9, hD9⟩, hS.F ht⟩) hS.2.2 dX5_told_160
      ·
        refine lv_tableOut (tgt := 161) hx hb dX5_told_80 (by decide) (by decide) ?_
        refine lv_aload_n hx hb dX5_told_161 rfl (lv_at hl 0 rfl) ?_
        refine va_get (D := (dC, dI)) (ci := 4) (v := .int (nI n)) (C := RX5) (T := TX5) (N := 15) hx hb hts iwX5 hown hK hP 0 rfl rfl 2 (by decide) fk40 (fun _ h9 => h9) rfl dX5_told_162 ?_
        have ev : v = 64 := by omega
        subst ev
        have hP9 := hP.sub (ws' := [(qm, .inr (4, [.ref qmd, .ref qmt, .int (nI n), .int (bI on), .int lf, .int (nI dn), .int pl, .ref qml, .int (nI k), .ref qmk, .int (nI mz), .ref qmh, .int (nI nh), .int (nI 0), .ref qmw])), (qmd, .inl (cyI, 512, .inl w)), (qmw, .inl (cyZ, 64, .inl WL1_29))]) [0, 1, 2] rfl
        have hD9 := hD.sub (ws' := [(qm, .inr (4, [.ref qmd, .ref qmt, .int (nI n), .int (bI on), .int lf, .int (nI dn), .int pl, .ref qml, .int (nI k), .ref qmk, .int (nI mz), .ref qmh, .int (nI nh), .int (nI 0), .ref qmw])), (qmd, .inl (cyI, 512, .inl w)), (qmw, .inl (cyZ, 64, .inl WL1_29))]) [0, 1, 2] (by decide) rfl
        have hK9 := hK.sub (tys' := [(cyI, .int), (cyZ, .boolean)]) [0, 1] rfl
        have hret : (nI n : Int32) = zTold w on dn n 7 := zTold_7.symm
        refine zz_top hret ?_
        exact W.iret hx hb hr (fun tS ht hW => ⟨⟨_, WL1_29, rfl, rfl, by rw [ht]; exact hP9, va_K.moved hW.alike hK9, hD9⟩, hS.F ht⟩) hS.2.2 dX5_told_165
    ·
      refine lv_iload_n hx hb dX5_told_45 rfl (lv_at hl 3 rfl) ?_
      refine lv_aload_n hx hb dX5_told_46 rfl (lv_at hl 0 rfl) ?_
      refine va_get (D := (dC, dI)) (ci := 4) (v := .ref qmw) (C := RX5) (T := TX5) (N := 15) hx hb hts iwX5 hown hK hP 0 rfl rfl 14 (by decide) fk36 (fun _ h9 => h9) rfl dX5_told_47 ?_
      refine lv_iload hx hb dX5_told_50 (lv_at hl 4 rfl) ?_
      refine va_zald hx hb hK hP 2 1 rfl rfl (vp_in_nI (n := v) (by omega) (by decide)) dX5_told_52 ?_
      refine zz_top (congrArg WL1_29 (nI_clamp (n := v) (by omega))) ?_
      refine zz_top (HWL_29 v (by omega)) ?_
      refine zb_if_eq (tgt := 70) hx hb dX5_told_53 (by decide) (fun c_53 => ?_) (fun c_53 => ?_)
      ·
        refine lv_iconst (v := nI 0) hx hb dX5_told_70 (by decide) ?_
        refine lv_iadd hx hb dX5_told_71 ?_
        refine zz_top (nI_add (fb_ct (kGrave (kLive w) w) v) 0) ?_
        refine lv_istore_n (lv' := [(3, .int (nI (fb_ct (kGrave (kLive w) w) v))), (0, .ref qm), (1, .int (nI j)), (2, .int (nI (fb_ct (kLive w) 64))), (4, .int (nI v))]) hx hb dX5_told_72 rfl hl (by decide) rfl (fun ls hl => ?_)
        refine lv_iinc (v := nI (v + 1)) (lv' := [(4, .int (nI (v + 1))), (3, .int (nI (fb_ct (kGrave (kLive w) w) v))), (0, .ref qm), (1, .int (nI j)), (2, .int (nI (fb_ct (kLive w) 64)))]) hx hb dX5_told_73 hl (k := 4) rfl (nI_add v 1) (by decide) rfl (fun ls hl => ?_)
        refine lv_goto (tgt := 38) hx hb dX5_told_76 (by decide) ?_
        rw [kct_n (q := kGrave (kLive w) w) (k := v) (by first | exact b_and_f1 c_53 | exact b_and_f2 (d_f c_63))] at hl
        -- local 3: .int (nI (fb_ct (kGrave (kLive w) w) v)) ~ .int (nI (fb_ct (kGrave (kLive w) w) (v + 1)))
        exact ih38 (v + 1) _ _ _ ⟨by omega, hP, hD, hS, lv_sub hl [2, 3, 4, 1, 0] rfl⟩ (by first | omega | (dsimp only; omega))
      ·
        refine lv_aload_n hx hb dX5_told_56 rfl (lv_at hl 0 rfl) ?_
        refine lv_iload hx hb dX5_told_57 (lv_at hl 4 rfl) ?_
        have hPc := hP.sub (ws' := [(qm, .inr (4, [.ref qmd, .ref qmt, .int (nI n), .int (bI on), .int lf, .int (nI dn), .int pl, .ref qml, .int (nI k), .ref qmk, .int (nI mz), .ref qmh, .int (nI nh), .int (nI 0), .ref qmw])), (qmd, .inl (cyI, 512, .inl w))]) [0, 1] rfl
        have hKc := hK.sub (tys' := [(cyI, .int), (cyZ, .boolean)]) [0, 1] rfl
        refine vp_callSi (va_Run.run (va_runV (As := [.int (nI v)]) (rest := [.int (nI (fb_ct (kGrave (kLive w) w) v))]) ⟨hx, hb, hml, hown, hts⟩ (c_X5_formOf l dC dI cyI cyZ qm qmd qmt qml qmk qmh qmw n on lf dn pl k mz nh (nI 0) w v (by omega)) (cwV 1 hts gX5_told_X5_formOf rfl rfl rfl (by decide +kernel) ⟨Nat.le_of_ble_eq_true rfl, Nat.le_of_ble_eq_true rfl⟩) ⟨zz_blR, va_recv hKc hPc (ci := 4) (q0 := 0) rfl rfl, fun U hU hW => ⟨rfl, by rw [hU]; exact hPc, va_K.moved hW.alike hKc⟩⟩ rfl rfl hl.1 rfl (lv_room (Nat.le_of_ble_eq_true rfl)) dX5_told_59 ⟨Nat.zero_le _, Nat.zero_le _⟩)) (fun r_59 hr_59 => ?_)
        have hr_59 : kForm w v = r_59 := Eq.symm hr_59
        subst hr_59
        refine lv_iconst (v := nI 2) hx hb dX5_told_62 (by decide) ?_
        refine lv_icmp_ne (tgt := 70) hx hb dX5_told_63 (by decide) (fun c_63 => ?_) (fun c_63 => ?_)
        ·
          refine lv_iconst (v := nI 0) hx hb dX5_told_70 (by decide) ?_
          refine lv_iadd hx hb dX5_told_71 ?_
          refine zz_top (nI_add (fb_ct (kGrave (kLive w) w) v) 0) ?_
          refine lv_istore_n (lv' := [(3, .int (nI (fb_ct (kGrave (kLive w) w) v))), (0, .ref qm), (1, .int (nI j)), (2, .int (nI (fb_ct (kLive w) 64))), (4, .int (nI v))]) hx hb dX5_told_72 rfl hl (by decide) rfl (fun ls hl => ?_)
          refine lv_iinc (v := nI (v + 1)) (lv' := [(4, .int (nI (v + 1))), (3, .int (nI (fb_ct (kGrave (kLive w) w) v))), (0, .ref qm), (1, .int (nI j)), (2, .int (nI (fb_ct (kLive w) 64)))]) hx hb dX5_told_73 hl (k := 4) rfl (nI_add v 1) (by decide) rfl (fun ls hl => ?_)
          refine lv_goto (tgt := 38) hx hb dX5_told_76 (by decide) ?_
          rw [kct_n (q := kGrave (kLive w) w) (k := v) (by first | exact b_and_f1 c_53 | exact b_and_f2 (d_f c_63))] at hl
          -- local 3: .int (nI (fb_ct (kGrave (kLive w) w) v)) ~ .int (nI (fb_ct (kGrave (kLive w) w) (v + 1)))
          exact ih38 (v + 1) _ _ _ ⟨by omega, hP, hD, hS, lv_sub hl [2, 3, 4, 1, 0] rfl⟩ (by first | omega | (dsimp only; omega))
        ·
          refine lv_iconst (v := nI 1) hx hb dX5_told_66 (by decide) ?_
          refine lv_goto (tgt := 71) hx hb dX5_told_67 (by decide) ?_
          refine lv_iadd hx hb dX5_told_71 ?_
          refine zz_top (nI_add (fb_ct (kGrave (kLive w) w) v) 1) ?_
          refine lv_istore_n (lv' := [(3, .int (nI (fb_ct (kGrave (kLive w) w) v + 1))), (0, .ref qm), (1, .int (nI j)), (2, .int (nI (fb_ct (kLive w) 64))), (4, .int (nI v))]) hx hb dX5_told_72 rfl hl (by decide) rfl (fun ls hl => ?_)
          refine lv_iinc (v := nI (v + 1)) (lv' := [(4, .int (nI (v + 1))), (3, .int (nI (fb_ct (kGrave (kLive w) w) v + 1))), (0, .ref qm), (1, .int (nI j)), (2, .int (nI (fb_ct (kLive w) 64)))]) hx hb dX5_told_73 hl (k := 4) rfl (nI_add v 1) (by decide) rfl (fun ls hl => ?_)
          refine lv_goto (tgt := 38) hx hb dX5_told_76 (by decide) ?_
          rw [kct_y (q := kGrave (kLive w) w) (k := v) (b_and_t c_53 (d_t c_63))] at hl
          -- local 3: .int (nI (fb_ct (kGrave (kLive w) w) v + 1)) ~ .int (nI (fb_ct (kGrave (kLive w) w) (v + 1)))
          exact ih38 (v + 1) _ _ _ ⟨by omega, hP, hD, hS, lv_sub hl [2, 3, 4, 1, 0] rfl⟩ (by first | omega | (dsimp only; omega))
  ·
    exfalso
    omega
set_option maxHeartbeats 4000000 in
set_option maxRecDepth 100000 in
theorem c_X5_word_bad (l : Launch) (dC : Nat → ClassId) (dI : Nat → Nat → Nat) (cyI cyZ : ClassId) (qm qmd qmt qml qmk qmh qmw : Nat) (sz : Nat) (n : Nat) (on : Bool) (lf : Int32) (dn : Nat) (pl : Int32) (k mz nh : Nat) (th : Int32) (w : Nat → Int32) (xx yy : Int32) (HBAD : ¬ ∃ b i : Nat, xx = nI b ∧ b < 64 ∧ yy = nI i ∧ i < 8) : Met l yX5_word wsX5_word ({ frames := 0, cells := 0, slots := 0, locals := 0 }) (va_Pc [.ref qm, .int xx, .int yy] (fun U => U.heap.size = sz ∧ va_P (dC, dI) vwCl [(qm, .inr (4, [.ref qmd, .ref qmt, .int (nI n), .int (bI on), .int lf, .int (nI dn), .int pl, .ref qml, .int (nI k), .ref qmk, .int (nI mz), .ref qmh, .int (nI nh), .int th, .ref qmw])), (qmd, .inl (cyI, 512, .inl w))] U.heap ∧ va_K (dC, dI) vwCl [(cyI, .int), (cyZ, .boolean)] U ∧ va_D (fun _ => True) [(qm, .inr (4, [.ref qmd, .ref qmt, .int (nI n), .int (bI on), .int lf, .int (nI dn), .int pl, .ref qml, .int (nI k), .ref qmk, .int (nI mz), .ref qmh, .int (nI nh), .int th, .ref qmw])), (qmd, .inl (cyI, 512, .inl w))])) (va_Qi (S := Unit) (fun (r : Int32) (_ : Unit) => r = nI 0) (fun (_ : Unit) tS => va_P (dC, dI) vwCl [(qm, .inr (4, [.ref qmd, .ref qmt, .int (nI n), .int (bI on), .int lf, .int (nI dn), .int pl, .ref qml, .int (nI k), .ref qmk, .int (nI mz), .ref qmh, .int (nI nh), .int (nI 1), .ref qmw])), (qmd, .inl (cyI, 512, .inl w))] tS.heap ∧ va_K (dC, dI) vwCl [(cyI, .int), (cyZ, .boolean)] tS ∧ va_D (va_A [(qm, .inr (4, [.ref qmd, .ref qmt, .int (nI n), .int (bI on), .int lf, .int (nI dn), .int pl, .ref qml, .int (nI k), .ref qmk, .int (nI mz), .ref qmh, .int (nI nh), .int th, .ref qmw])), (qmd, .inl (cyI, 512, .inl w))] sz) [(qm, .inr (4, [.ref qmd, .ref qmt, .int (nI n), .int (bI on), .int lf, .int (nI dn), .int pl, .ref qml, .int (nI k), .ref qmk, .int (nI mz), .ref qmh, .int (nI nh), .int (nI 1), .ref qmw])), (qmd, .inl (cyI, 512, .inl w))]) (va_A [(qm, .inr (4, [.ref qmd, .ref qmt, .int (nI n), .int (bI on), .int lf, .int (nI dn), .int pl, .ref qml, .int (nI k), .ref qmk, .int (nI mz), .ref qmh, .int (nI nh), .int th, .ref qmw])), (qmd, .inl (cyI, 512, .inl w))] sz)) 0 0 (va_A [(qm, .inr (4, [.ref qmd, .ref qmt, .int (nI n), .int (bI on), .int lf, .int (nI dn), .int pl, .ref qml, .int (nI k), .ref qmk, .int (nI mz), .ref qmh, .int (nI nh), .int th, .ref qmw])), (qmd, .inl (cyI, 512, .inl w))] sz) := by
  refine Met.ofW (cc := cX5_word) (maxL := 3) (ret := (some .int)) (by decide) rfl ?_
  intro pz ez sS mM args below meth cC s₁ B hml hv
  obtain ⟨rfl, hsz, hP, hK, hD0⟩ := hv
  have hx := B.exec
  have hb := B.bytes
  have hr := B.returns
  have hts := atoms_spec (ws := wsX5_word) B.pre
  have hown : sS.vm.findClass RX5 = some mM.cls := findClass_of_methodNamed B.named
  have hlocks := B.notSynchronized
  subst hsz
  have hD := hD0.self (sz := sS.heap.size)
  generalize hAe : va_A [(qm, .inr (4, [.ref qmd, .ref qmt, .int (nI n), .int (bI on), .int lf, .int (nI dn), .int pl, .ref qml, .int (nI k), .ref qmk, .int (nI mz), .ref qmh, .int (nI nh), .int th, .ref qmw])), (qmd, .inl (cyI, 512, .inl w))] sS.heap.size = A at hD ⊢
  have hA : ∀ q : Nat, sS.heap.size ≤ q → A q := fun q h => by rw [← hAe]; exact Or.inr h
  have hS : va_S A sS.heap sS.heap [] := va_S.rf
  have hP : va_P (dC, dI) vwCl [(qm, .inr (4, [.ref qmd, .ref qmt, .int (nI n), .int (bI on), .int lf, .int (nI dn), .int pl, .ref qml, .int (nI k), .ref qmk, .int (nI mz), .ref qmh, .int (nI nh), .int th, .ref qmw])), (qmd, .inl (cyI, 512, .inl w))] sS.heap := hP
  have iwX5 : ∀ w ∈ wsX50, w ∈ wsX5_word := by decide +kernel
  have fk43 := hts (.fieldLink RX5 43 "CodedStoreModel" "thrown" "I") (by decide +kernel)
  have hl := lv_entry ([.ref qm, .int xx, .int yy]) (n := 3) (Nat.le_of_ble_eq_true rfl)
  rw [lg_entry_eq]
  generalize (lg_sl ([.ref qm, .int xx, .int yy]) ++ List.replicate (3 - (lg_sl ([.ref qm, .int xx, .int yy])).length) Slot.unset).toArray = ls at hl ⊢
  have hl : lv_has ls 3 [(0, .ref qm), (1, .int xx), (2, .int yy)] := hl
  refine lv_aload_n hx hb dX5_word_0 rfl (lv_at hl 0 rfl) ?_
  refine lv_iload_n hx hb dX5_word_1 rfl (lv_at hl 1 rfl) ?_
  refine lv_if_lt (tgt := 21) hx hb dX5_word_2 (by decide) (fun c_2 => ?_) (fun c_2 => ?_)
  ·
    refine lv_iconst (v := nI 1) hx hb dX5_word_21 (by decide) ?_
    refine lv_goto (tgt := 26) hx hb dX5_word_22 (by decide) ?_
    refine va_put (D := (dC, dI)) (ci := 4) (v := .int (nI 1)) (ty := .int) (C := RX5) (T := TX5) (N := 15) hx hb hts iwX5 tyX5 tyX5_ok nmX5 hown hK hP hD hS 0 rfl rfl 13 (by decide) fk43 (fun _ h9 => h9) rfl (by decide +kernel) rfl rfl (Nat.le_of_ble_eq_true rfl) dX5_word_26 (fun H locs hP hD hS => ?_)
    have hP : va_P (dC, dI) vwCl [(qm, .inr (4, [.ref qmd, .ref qmt, .int (nI n), .int (bI on), .int lf, .int (nI dn), .int pl, .ref qml, .int (nI k), .ref qmk, .int (nI mz), .ref qmh, .int (nI nh), .int (nI 1), .ref qmw])), (qmd, .inl (cyI, 512, .inl w))] H := hP
    have hD : va_D A [(qm, .inr (4, [.ref qmd, .ref qmt, .int (nI n), .int (bI on), .int lf, .int (nI dn), .int pl, .ref qml, .int (nI k), .ref qmk, .int (nI mz), .ref qmh, .int (nI nh), .int (nI 1), .ref qmw])), (qmd, .inl (cyI, 512, .inl w))] := hD
    refine lv_aload_n hx hb dX5_word_29 rfl (lv_at hl 0 rfl) ?_
    refine va_get (D := (dC, dI)) (ci := 4) (v := .int (nI 1)) (C := RX5) (T := TX5) (N := 15) hx hb hts iwX5 hown hK hP 0 rfl rfl 13 (by decide) fk43 (fun _ h9 => h9) rfl dX5_word_30 ?_
    refine lv_if_le (tgt := 40) hx hb dX5_word_33 (by decide) (fun c_33 => absurd c_33 (by decide)) (fun c_33 => ?_)
    refine lv_iconst (v := nI 0) hx hb dX5_word_36 (by decide) ?_
    refine lv_goto (tgt := 51) hx hb dX5_word_37 (by decide) ?_
    have hP9 := hP.sub (ws' := [(qm, .inr (4, [.ref qmd, .ref qmt, .int (nI n), .int (bI on), .int lf, .int (nI dn), .int pl, .ref qml, .int (nI k), .ref qmk, .int (nI mz), .ref qmh, .int (nI nh), .int (nI 1), .ref qmw])), (qmd, .inl (cyI, 512, .inl w))]) [0, 1] rfl
    have hD9 := hD.sub (ws' := [(qm, .inr (4, [.ref qmd, .ref qmt, .int (nI n), .int (bI on), .int lf, .int (nI dn), .int pl, .ref qml, .int (nI k), .ref qmk, .int (nI mz), .ref qmh, .int (nI nh), .int (nI 1), .ref qmw])), (qmd, .inl (cyI, 512, .inl w))]) [0, 1] (by decide) rfl
    have hK9 := hK.sub (tys' := [(cyI, .int), (cyZ, .boolean)]) [0, 1] rfl
    exact W.iret hx hb hr (fun tS ht hW => ⟨⟨_, (), rfl, rfl, by rw [ht]; exact hP9, va_K.moved hW.alike hK9, hD9⟩, hS.F ht⟩) hS.2.2 dX5_word_51
  ·
    refine lv_iload_n hx hb dX5_word_5 rfl (lv_at hl 1 rfl) ?_
    refine lv_bipush (v := nI 64) hx hb dX5_word_6 (by decide) ?_
    refine lv_icmp_ge (tgt := 21) hx hb dX5_word_8 (by decide) (fun c_8 => ?_) (fun c_8 => ?_)
    ·
      refine lv_iconst (v := nI 1) hx hb dX5_word_21 (by decide) ?_
      refine lv_goto (tgt := 26) hx hb dX5_word_22 (by decide) ?_
      refine va_put (D := (dC, dI)) (ci := 4) (v := .int (nI 1)) (ty := .int) (C := RX5) (T := TX5) (N := 15) hx hb hts iwX5 tyX5 tyX5_ok nmX5 hown hK hP hD hS 0 rfl rfl 13 (by decide) fk43 (fun _ h9 => h9) rfl (by decide +kernel) rfl rfl (Nat.le_of_ble_eq_true rfl) dX5_word_26 (fun H locs hP hD hS => ?_)
      have hP : va_P (dC, dI) vwCl [(qm, .inr (4, [.ref qmd, .ref qmt, .int (nI n), .int (bI on), .int lf, .int (nI dn), .int pl, .ref qml, .int (nI k), .ref qmk, .int (nI mz), .ref qmh, .int (nI nh), .int (nI 1), .ref qmw])), (qmd, .inl (cyI, 512, .inl w))] H := hP
      have hD : va_D A [(qm, .inr (4, [.ref qmd, .ref qmt, .int (nI n), .int (bI on), .int lf, .int (nI dn), .int pl, .ref qml, .int (nI k), .ref qmk, .int (nI mz), .ref qmh, .int (nI nh), .int (nI 1), .ref qmw])), (qmd, .inl (cyI, 512, .inl w))] := hD
      refine lv_aload_n hx hb dX5_word_29 rfl (lv_at hl 0 rfl) ?_
      refine va_get (D := (dC, dI)) (ci := 4) (v := .int (nI 1)) (C := RX5) (T := TX5) (N := 15) hx hb hts iwX5 hown hK hP 0 rfl rfl 13 (by decide) fk43 (fun _ h9 => h9) rfl dX5_word_30 ?_
      refine lv_if_le (tgt := 40) hx hb dX5_word_33 (by decide) (fun c_33 => absurd c_33 (by decide)) (fun c_33 => ?_)
      refine lv_iconst (v := nI 0) hx hb dX5_word_36 (by decide) ?_
      refine lv_goto (tgt := 51) hx hb dX5_word_37 (by decide) ?_
      have hP9 := hP.sub (ws' := [(qm, .inr (4, [.ref qmd, .ref qmt, .int (nI n), .int (bI on), .int lf, .int (nI dn), .int pl, .ref qml, .int (nI k), .ref qmk, .int (nI mz), .ref qmh, .int (nI nh), .int (nI 1), .ref qmw])), (qmd, .inl (cyI, 512, .inl w))]) [0, 1] rfl
      have hD9 := hD.sub (ws' := [(qm, .inr (4, [.ref qmd, .ref qmt, .int (nI n), .int (bI on), .int lf, .int (nI dn), .int pl, .ref qml, .int (nI k), .ref qmk, .int (nI mz), .ref qmh, .int (nI nh), .int (nI 1), .ref qmw])), (qmd, .inl (cyI, 512, .inl w))]) [0, 1] (by decide) rfl
      have hK9 := hK.sub (tys' := [(cyI, .int), (cyZ, .boolean)]) [0, 1] rfl
      exact W.iret hx hb hr (fun tS ht hW => ⟨⟨_, (), rfl, rfl, by rw [ht]; exact hP9, va_K.moved hW.alike hK9, hD9⟩, hS.F ht⟩) hS.2.2 dX5_word_51
    ·
      refine lv_iload_n hx hb dX5_word_11 rfl (lv_at hl 2 rfl) ?_
      refine lv_if_lt (tgt := 21) hx hb dX5_word_12 (by decide) (fun c_12 => ?_) (fun c_12 => ?_)
      ·
        refine lv_iconst (v := nI 1) hx hb dX5_word_21 (by decide) ?_
        refine lv_goto (tgt := 26) hx hb dX5_word_22 (by decide) ?_
        refine va_put (D := (dC, dI)) (ci := 4) (v := .int (nI 1)) (ty := .int) (C := RX5) (T := TX5) (N := 15) hx hb hts iwX5 tyX5 tyX5_ok nmX5 hown hK hP hD hS 0 rfl rfl 13 (by decide) fk43 (fun _ h9 => h9) rfl (by decide +kernel) rfl rfl (Nat.le_of_ble_eq_true rfl) dX5_word_26 (fun H locs hP hD hS => ?_)
        have hP : va_P (dC, dI) vwCl [(qm, .inr (4, [.ref qmd, .ref qmt, .int (nI n), .int (bI on), .int lf, .int (nI dn), .int pl, .ref qml, .int (nI k), .ref qmk, .int (nI mz), .ref qmh, .int (nI nh), .int (nI 1), .ref qmw])), (qmd, .inl (cyI, 512, .inl w))] H := hP
        have hD : va_D A [(qm, .inr (4, [.ref qmd, .ref qmt, .int (nI n), .int (bI on), .int lf, .int (nI dn), .int pl, .ref qml, .int (nI k), .ref qmk, .int (nI mz), .ref qmh, .int (nI nh), .int (nI 1), .ref qmw])), (qmd, .inl (cyI, 512, .inl w))] := hD
        refine lv_aload_n hx hb dX5_word_29 rfl (lv_at hl 0 rfl) ?_
        refine va_get (D := (dC, dI)) (ci := 4) (v := .int (nI 1)) (C := RX5) (T := TX5) (N := 15) hx hb hts iwX5 hown hK hP 0 rfl rfl 13 (by decide) fk43 (fun _ h9 => h9) rfl dX5_word_30 ?_
        refine lv_if_le (tgt := 40) hx hb dX5_word_33 (by decide) (fun c_33 => absurd c_33 (by decide)) (fun c_33 => ?_)
        refine lv_iconst (v := nI 0) hx hb dX5_word_36 (by decide) ?_
        refine lv_goto (tgt := 51) hx hb dX5_word_37 (by decide) ?_
        have hP9 := hP.sub (ws' := [(qm, .inr (4, [.ref qmd, .ref qmt, .int (nI n), .int (bI on), .int lf, .int (nI dn), .int pl, .ref qml, .int (nI k), .ref qmk, .int (nI mz), .ref qmh, .int (nI nh), .int (nI 1), .ref qmw])), (qmd, .inl (cyI, 512, .inl w))]) [0, 1] rfl
        have hD9 := hD.sub (ws' := [(qm, .inr (4, [.ref qmd, .ref qmt, .int (nI n), .int (bI on), .int lf, .int (nI dn), .int pl, .ref qml, .int (nI k), .ref qmk, .int (nI mz), .ref qmh, .int (nI nh), .int (nI 1), .ref qmw])), (qmd, .inl (cyI, 512, .inl w))]) [0, 1] (by decide) rfl
        have hK9 := hK.sub (tys' := [(cyI, .int), (cyZ, .boolean)]) [0, 1] rfl
        exact W.iret hx hb hr (fun tS ht hW => ⟨⟨_, (), rfl, rfl, by rw [ht]; exact hP9, va_K.moved hW.alike hK9, hD9⟩, hS.F ht⟩) hS.2.2 dX5_word_51
      ·
        refine lv_iload_n hx hb dX5_word_15 rfl (lv_at hl 2 rfl) ?_
        refine lv_bipush (v := nI 8) hx hb dX5_word_16 (by decide) ?_
        refine lv_icmp_lt (tgt := 25) hx hb dX5_word_18 (by decide) (fun c_18 => ?_) (fun c_18 => ?_)
        ·
          exfalso
          obtain ⟨b, h1, h2⟩ := i_0lt (n := 64) (by decide) c_2 (Int32.not_le.mp c_8)
          obtain ⟨i, h3, h4⟩ := i_0lt (n := 8) (by decide) c_12 c_18
          exact HBAD ⟨b, i, h2, h1, h4, h3⟩
        ·
          refine lv_iconst (v := nI 1) hx hb dX5_word_21 (by decide) ?_
          refine lv_goto (tgt := 26) hx hb dX5_word_22 (by decide) ?_
          refine va_put (D := (dC, dI)) (ci := 4) (v := .int (nI 1)) (ty := .int) (C := RX5) (T := TX5) (N := 15) hx hb hts iwX5 tyX5 tyX5_ok nmX5 hown hK hP hD hS 0 rfl rfl 13 (by decide) fk43 (fun _ h9 => h9) rfl (by decide +kernel) rfl rfl (Nat.le_of_ble_eq_true rfl) dX5_word_26 (fun H locs hP hD hS => ?_)
          have hP : va_P (dC, dI) vwCl [(qm, .inr (4, [.ref qmd, .ref qmt, .int (nI n), .int (bI on), .int lf, .int (nI dn), .int pl, .ref qml, .int (nI k), .ref qmk, .int (nI mz), .ref qmh, .int (nI nh), .int (nI 1), .ref qmw])), (qmd, .inl (cyI, 512, .inl w))] H := hP
          have hD : va_D A [(qm, .inr (4, [.ref qmd, .ref qmt, .int (nI n), .int (bI on), .int lf, .int (nI dn), .int pl, .ref qml, .int (nI k), .ref qmk, .int (nI mz), .ref qmh, .int (nI nh), .int (nI 1), .ref qmw])), (qmd, .inl (cyI, 512, .inl w))] := hD
          refine lv_aload_n hx hb dX5_word_29 rfl (lv_at hl 0 rfl) ?_
          refine va_get (D := (dC, dI)) (ci := 4) (v := .int (nI 1)) (C := RX5) (T := TX5) (N := 15) hx hb hts iwX5 hown hK hP 0 rfl rfl 13 (by decide) fk43 (fun _ h9 => h9) rfl dX5_word_30 ?_
          refine lv_if_le (tgt := 40) hx hb dX5_word_33 (by decide) (fun c_33 => absurd c_33 (by decide)) (fun c_33 => ?_)
          refine lv_iconst (v := nI 0) hx hb dX5_word_36 (by decide) ?_
          refine lv_goto (tgt := 51) hx hb dX5_word_37 (by decide) ?_
          have hP9 := hP.sub (ws' := [(qm, .inr (4, [.ref qmd, .ref qmt, .int (nI n), .int (bI on), .int lf, .int (nI dn), .int pl, .ref qml, .int (nI k), .ref qmk, .int (nI mz), .ref qmh, .int (nI nh), .int (nI 1), .ref qmw])), (qmd, .inl (cyI, 512, .inl w))]) [0, 1] rfl
          have hD9 := hD.sub (ws' := [(qm, .inr (4, [.ref qmd, .ref qmt, .int (nI n), .int (bI on), .int lf, .int (nI dn), .int pl, .ref qml, .int (nI k), .ref qmk, .int (nI mz), .ref qmh, .int (nI nh), .int (nI 1), .ref qmw])), (qmd, .inl (cyI, 512, .inl w))]) [0, 1] (by decide) rfl
          have hK9 := hK.sub (tys' := [(cyI, .int), (cyZ, .boolean)]) [0, 1] rfl
          exact W.iret hx hb hr (fun tS ht hW => ⟨⟨_, (), rfl, rfl, by rw [ht]; exact hP9, va_K.moved hW.alike hK9, hD9⟩, hS.F ht⟩) hS.2.2 dX5_word_51
set_option maxHeartbeats 4000000 in
set_option maxRecDepth 100000 in
theorem c_X5_word_ok (l : Launch) (dC : Nat → ClassId) (dI : Nat → Nat → Nat) (cyI cyZ : ClassId) (qm qmd qmt qml qmk qmh qmw : Nat) (sz : Nat) (n : Nat) (on : Bool) (lf : Int32) (dn : Nat) (pl : Int32) (k mz nh : Nat) (th : Int32) (w : Nat → Int32) (b i : Nat) (hb9 : b < 64) (hi : i < 8) : Met l yX5_word wsX5_word ({ frames := 0, cells := 0, slots := 0, locals := 0 }) (va_Pc [.ref qm, .int (nI b), .int (nI i)] (fun U => U.heap.size = sz ∧ va_P (dC, dI) vwCl [(qm, .inr (4, [.ref qmd, .ref qmt, .int (nI n), .int (bI on), .int lf, .int (nI dn), .int pl, .ref qml, .int (nI k), .ref qmk, .int (nI mz), .ref qmh, .int (nI nh), .int th, .ref qmw])), (qmd, .inl (cyI, 512, .inl w))] U.heap ∧ va_K (dC, dI) vwCl [(cyI, .int), (cyZ, .boolean)] U ∧ va_D (fun _ => True) [(qm, .inr (4, [.ref qmd, .ref qmt, .int (nI n), .int (bI on), .int lf, .int (nI dn), .int pl, .ref qml, .int (nI k), .ref qmk, .int (nI mz), .ref qmh, .int (nI nh), .int th, .ref qmw])), (qmd, .inl (cyI, 512, .inl w))])) (va_Qi (S := Unit) (fun (r : Int32) (_ : Unit) => r = w (8 * b + i)) (fun (_ : Unit) tS => va_P (dC, dI) vwCl [(qm, .inr (4, [.ref qmd, .ref qmt, .int (nI n), .int (bI on), .int lf, .int (nI dn), .int pl, .ref qml, .int (nI k), .ref qmk, .int (nI mz), .ref qmh, .int (nI nh), .int (nI 0), .ref qmw])), (qmd, .inl (cyI, 512, .inl w))] tS.heap ∧ va_K (dC, dI) vwCl [(cyI, .int), (cyZ, .boolean)] tS ∧ va_D (va_A [(qm, .inr (4, [.ref qmd, .ref qmt, .int (nI n), .int (bI on), .int lf, .int (nI dn), .int pl, .ref qml, .int (nI k), .ref qmk, .int (nI mz), .ref qmh, .int (nI nh), .int th, .ref qmw])), (qmd, .inl (cyI, 512, .inl w))] sz) [(qm, .inr (4, [.ref qmd, .ref qmt, .int (nI n), .int (bI on), .int lf, .int (nI dn), .int pl, .ref qml, .int (nI k), .ref qmk, .int (nI mz), .ref qmh, .int (nI nh), .int (nI 0), .ref qmw])), (qmd, .inl (cyI, 512, .inl w))]) (va_A [(qm, .inr (4, [.ref qmd, .ref qmt, .int (nI n), .int (bI on), .int lf, .int (nI dn), .int pl, .ref qml, .int (nI k), .ref qmk, .int (nI mz), .ref qmh, .int (nI nh), .int th, .ref qmw])), (qmd, .inl (cyI, 512, .inl w))] sz)) 0 0 (va_A [(qm, .inr (4, [.ref qmd, .ref qmt, .int (nI n), .int (bI on), .int lf, .int (nI dn), .int pl, .ref qml, .int (nI k), .ref qmk, .int (nI mz), .ref qmh, .int (nI nh), .int th, .ref qmw])), (qmd, .inl (cyI, 512, .inl w))] sz) := by
  refine Met.ofW (cc := cX5_word) (maxL := 3) (ret := (some .int)) (by decide) rfl ?_
  intro pz ez sS mM args below meth cC s₁ B hml hv
  obtain ⟨rfl, hsz, hP, hK, hD0⟩ := hv
  have hx := B.exec
  have hb := B.bytes
  have hr := B.returns
  have hts := atoms_spec (ws := wsX5_word) B.pre
  have hown : sS.vm.findClass RX5 = some mM.cls := findClass_of_methodNamed B.named
  have hlocks := B.notSynchronized
  subst hsz
  have hD := hD0.self (sz := sS.heap.size)
  generalize hAe : va_A [(qm, .inr (4, [.ref qmd, .ref qmt, .int (nI n), .int (bI on), .int lf, .int (nI dn), .int pl, .ref qml, .int (nI k), .ref qmk, .int (nI mz), .ref qmh, .int (nI nh), .int th, .ref qmw])), (qmd, .inl (cyI, 512, .inl w))] sS.heap.size = A at hD ⊢
  have hA : ∀ q : Nat, sS.heap.size ≤ q → A q := fun q h => by rw [← hAe]; exact Or.inr h
  have hS : va_S A sS.heap sS.heap [] := va_S.rf
  have hP : va_P (dC, dI) vwCl [(qm, .inr (4, [.ref qmd, .ref qmt, .int (nI n), .int (bI on), .int lf, .int (nI dn), .int pl, .ref qml, .int (nI k), .ref qmk, .int (nI mz), .ref qmh, .int (nI nh), .int th, .ref qmw])), (qmd, .inl (cyI, 512, .inl w))] sS.heap := hP
  have iwX5 : ∀ w ∈ wsX50, w ∈ wsX5_word := by decide +kernel
  have fk7 := hts (.fieldLink RX5 7 "CodedStoreModel" "disk" "[I") (by decide +kernel)
  have fk43 := hts (.fieldLink RX5 43 "CodedStoreModel" "thrown" "I") (by decide +kernel)
  have hl := lv_entry ([.ref qm, .int (nI b), .int (nI i)]) (n := 3) (Nat.le_of_ble_eq_true rfl)
  rw [lg_entry_eq]
  generalize (lg_sl ([.ref qm, .int (nI b), .int (nI i)]) ++ List.replicate (3 - (lg_sl ([.ref qm, .int (nI b), .int (nI i)])).length) Slot.unset).toArray = ls at hl ⊢
  have hl : lv_has ls 3 [(0, .ref qm), (1, .int (nI b)), (2, .int (nI i))] := hl
  refine lv_aload_n hx hb dX5_word_0 rfl (lv_at hl 0 rfl) ?_
  refine lv_iload_n hx hb dX5_word_1 rfl (lv_at hl 1 rfl) ?_
  refine zn_if_lt (tgt := 21) hx hb dX5_word_2 (by decide) (by omega) ?_
  refine lv_iload_n hx hb dX5_word_5 rfl (lv_at hl 1 rfl) ?_
  refine lv_bipush (v := nI 64) hx hb dX5_word_6 (by decide) ?_
  refine zn_icmp_ge (tgt := 21) hx hb dX5_word_8 (by decide) (by omega) (by omega) (fun c_8 => ?_) (fun c_8 => ?_)
  ·
    exfalso
    omega
  ·
    refine lv_iload_n hx hb dX5_word_11 rfl (lv_at hl 2 rfl) ?_
    refine zn_if_lt (tgt := 21) hx hb dX5_word_12 (by decide) (by omega) ?_
    refine lv_iload_n hx hb dX5_word_15 rfl (lv_at hl 2 rfl) ?_
    refine lv_bipush (v := nI 8) hx hb dX5_word_16 (by decide) ?_
    refine zn_icmp_lt (tgt := 25) hx hb dX5_word_18 (by decide) (by omega) (by omega) (fun c_18 => ?_) (fun c_18 => ?_)
    ·
      refine lv_iconst (v := nI 0) hx hb dX5_word_25 (by decide) ?_
      refine va_put (D := (dC, dI)) (ci := 4) (v := .int (nI 0)) (ty := .int) (C := RX5) (T := TX5) (N := 15) hx hb hts iwX5 tyX5 tyX5_ok nmX5 hown hK hP hD hS 0 rfl rfl 13 (by decide) fk43 (fun _ h9 => h9) rfl (by decide +kernel) rfl rfl (Nat.le_of_ble_eq_true rfl) dX5_word_26 (fun H locs hP hD hS => ?_)
      have hP : va_P (dC, dI) vwCl [(qm, .inr (4, [.ref qmd, .ref qmt, .int (nI n), .int (bI on), .int lf, .int (nI dn), .int pl, .ref qml, .int (nI k), .ref qmk, .int (nI mz), .ref qmh, .int (nI nh), .int (nI 0), .ref qmw])), (qmd, .inl (cyI, 512, .inl w))] H := hP
      have hD : va_D A [(qm, .inr (4, [.ref qmd, .ref qmt, .int (nI n), .int (bI on), .int lf, .int (nI dn), .int pl, .ref qml, .int (nI k), .ref qmk, .int (nI mz), .ref qmh, .int (nI nh), .int (nI 0), .ref qmw])), (qmd, .inl (cyI, 512, .inl w))] := hD
      refine lv_aload_n hx hb dX5_word_29 rfl (lv_at hl 0 rfl) ?_
      refine va_get (D := (dC, dI)) (ci := 4) (v := .int (nI 0)) (C := RX5) (T := TX5) (N := 15) hx hb hts iwX5 hown hK hP 0 rfl rfl 13 (by decide) fk43 (fun _ h9 => h9) rfl dX5_word_30 ?_
      refine lv_if_le (tgt := 40) hx hb dX5_word_33 (by decide) (fun c_33 => ?_) (fun c_33 => absurd (by decide) c_33)
      refine lv_aload_n hx hb dX5_word_40 rfl (lv_at hl 0 rfl) ?_
      refine va_get (D := (dC, dI)) (ci := 4) (v := .ref qmd) (C := RX5) (T := TX5) (N := 15) hx hb hts iwX5 hown hK hP 0 rfl rfl 0 (by decide) fk7 (fun _ h9 => h9) rfl dX5_word_41 ?_
      refine lv_bipush (v := nI 8) hx hb dX5_word_44 (by decide) ?_
      refine lv_iload_n hx hb dX5_word_46 rfl (lv_at hl 1 rfl) ?_
      refine lv_imul hx hb dX5_word_47 ?_
      refine zz_top (pk_mul 8 b) ?_
      refine lv_iload_n hx hb dX5_word_48 rfl (lv_at hl 2 rfl) ?_
      refine lv_iadd hx hb dX5_word_49 ?_
      refine zz_top (nI_add (8 * b) i) ?_
      refine va_iald hx hb hK hP 1 0 rfl rfl (vp_in_nI (n := 8 * b + i) (by omega) (by decide)) dX5_word_50 ?_
      refine zz_top (congrArg w (nI_clamp (n := 8 * b + i) (by omega))) ?_
      have hP9 := hP.sub (ws' := [(qm, .inr (4, [.ref qmd, .ref qmt, .int (nI n), .int (bI on), .int lf, .int (nI dn), .int pl, .ref qml, .int (nI k), .ref qmk, .int (nI mz), .ref qmh, .int (nI nh), .int (nI 0), .ref qmw])), (qmd, .inl (cyI, 512, .inl w))]) [0, 1] rfl
      have hD9 := hD.sub (ws' := [(qm, .inr (4, [.ref qmd, .ref qmt, .int (nI n), .int (bI on), .int lf, .int (nI dn), .int pl, .ref qml, .int (nI k), .ref qmk, .int (nI mz), .ref qmh, .int (nI nh), .int (nI 0), .ref qmw])), (qmd, .inl (cyI, 512, .inl w))]) [0, 1] (by decide) rfl
      have hK9 := hK.sub (tys' := [(cyI, .int), (cyZ, .boolean)]) [0, 1] rfl
      exact W.iret hx hb hr (fun tS ht hW => ⟨⟨_, (), rfl, rfl, by rw [ht]; exact hP9, va_K.moved hW.alike hK9, hD9⟩, hS.F ht⟩) hS.2.2 dX5_word_51
    ·
      exfalso
      omega
set_option maxHeartbeats 4000000 in
set_option maxRecDepth 100000 in
theorem c_X5_power_bad (l : Launch) (dC : Nat → ClassId) (dI : Nat → Nat → Nat) (cyI cyZ : ClassId) (qm qmd qmt qml qmk qmh qmw : Nat) (sz : Nat) (n : Nat) (on : Bool) (lf : Int32) (dn : Nat) (pl : Int32) (k mz nh : Nat) (th : Int32) (xx : Int32) (HBAD : xx < (-1) ∨ nI 1000 < xx) : Met l yX5_power wsX5_power ({ frames := 0, cells := 0, slots := 0, locals := 0 }) (va_Pc [.ref qm, .int xx] (fun U => U.heap.size = sz ∧ va_P (dC, dI) vwCl [(qm, .inr (4, [.ref qmd, .ref qmt, .int (nI n), .int (bI on), .int lf, .int (nI dn), .int pl, .ref qml, .int (nI k), .ref qmk, .int (nI mz), .ref qmh, .int (nI nh), .int th, .ref qmw]))] U.heap ∧ va_K (dC, dI) vwCl [(cyI, .int), (cyZ, .boolean)] U ∧ va_D (fun _ => True) [(qm, .inr (4, [.ref qmd, .ref qmt, .int (nI n), .int (bI on), .int lf, .int (nI dn), .int pl, .ref qml, .int (nI k), .ref qmk, .int (nI mz), .ref qmh, .int (nI nh), .int th, .ref qmw]))])) (va_Qi (S := Unit) (fun (r : Int32) (_ : Unit) => r = nI 0) (fun (_ : Unit) tS => va_P (dC, dI) vwCl [(qm, .inr (4, [.ref qmd, .ref qmt, .int (nI n), .int (bI on), .int lf, .int (nI dn), .int pl, .ref qml, .int (nI k), .ref qmk, .int (nI mz), .ref qmh, .int (nI nh), .int (nI 1), .ref qmw]))] tS.heap ∧ va_K (dC, dI) vwCl [(cyI, .int), (cyZ, .boolean)] tS ∧ va_D (va_A [(qm, .inr (4, [.ref qmd, .ref qmt, .int (nI n), .int (bI on), .int lf, .int (nI dn), .int pl, .ref qml, .int (nI k), .ref qmk, .int (nI mz), .ref qmh, .int (nI nh), .int th, .ref qmw]))] sz) [(qm, .inr (4, [.ref qmd, .ref qmt, .int (nI n), .int (bI on), .int lf, .int (nI dn), .int pl, .ref qml, .int (nI k), .ref qmk, .int (nI mz), .ref qmh, .int (nI nh), .int (nI 1), .ref qmw]))]) (va_A [(qm, .inr (4, [.ref qmd, .ref qmt, .int (nI n), .int (bI on), .int lf, .int (nI dn), .int pl, .ref qml, .int (nI k), .ref qmk, .int (nI mz), .ref qmh, .int (nI nh), .int th, .ref qmw]))] sz)) 0 0 (va_A [(qm, .inr (4, [.ref qmd, .ref qmt, .int (nI n), .int (bI on), .int lf, .int (nI dn), .int pl, .ref qml, .int (nI k), .ref qmk, .int (nI mz), .ref qmh, .int (nI nh), .int th, .ref qmw]))] sz) := by
  refine Met.ofW (cc := cX5_power) (maxL := 3) (ret := (some .int)) (by decide) rfl ?_
  intro pz ez sS mM args below meth cC s₁ B hml hv
  obtain ⟨rfl, hsz, hP, hK, hD0⟩ := hv
  have hx := B.exec
  have hb := B.bytes
  have hr := B.returns
  have hts := atoms_spec (ws := wsX5_power) B.pre
  have hown : sS.vm.findClass RX5 = some mM.cls := findClass_of_methodNamed B.named
  have hlocks := B.notSynchronized
  subst hsz
  have hD := hD0.self (sz := sS.heap.size)
  generalize hAe : va_A [(qm, .inr (4, [.ref qmd, .ref qmt, .int (nI n), .int (bI on), .int lf, .int (nI dn), .int pl, .ref qml, .int (nI k), .ref qmk, .int (nI mz), .ref qmh, .int (nI nh), .int th, .ref qmw]))] sS.heap.size = A at hD ⊢
  have hA : ∀ q : Nat, sS.heap.size ≤ q → A q := fun q h => by rw [← hAe]; exact Or.inr h
  have hS : va_S A sS.heap sS.heap [] := va_S.rf
  have hP : va_P (dC, dI) vwCl [(qm, .inr (4, [.ref qmd, .ref qmt, .int (nI n), .int (bI on), .int lf, .int (nI dn), .int pl, .ref qml, .int (nI k), .ref qmk, .int (nI mz), .ref qmh, .int (nI nh), .int th, .ref qmw]))] sS.heap := hP
  have iwX5 : ∀ w ∈ wsX50, w ∈ wsX5_power := by decide +kernel
  have fk43 := hts (.fieldLink RX5 43 "CodedStoreModel" "thrown" "I") (by decide +kernel)
  have hl := lv_entry ([.ref qm, .int xx]) (n := 3) (Nat.le_of_ble_eq_true rfl)
  rw [lg_entry_eq]
  generalize (lg_sl ([.ref qm, .int xx]) ++ List.replicate (3 - (lg_sl ([.ref qm, .int xx])).length) Slot.unset).toArray = ls at hl ⊢
  have hl : lv_has ls 3 [(0, .ref qm), (1, .int xx)] := hl
  refine lv_aload_n hx hb dX5_power_0 rfl (lv_at hl 0 rfl) ?_
  refine lv_iload_n hx hb dX5_power_1 rfl (lv_at hl 1 rfl) ?_
  refine lv_iconst (v := (-1)) hx hb dX5_power_2 (by decide) ?_
  refine lv_icmp_lt (tgt := 13) hx hb dX5_power_3 (by decide) (fun c_3 => ?_) (fun c_3 => ?_)
  ·
    refine lv_iconst (v := nI 1) hx hb dX5_power_13 (by decide) ?_
    refine lv_goto (tgt := 29) hx hb dX5_power_14 (by decide) ?_
    refine va_put (D := (dC, dI)) (ci := 4) (v := .int (nI 1)) (ty := .int) (C := RX5) (T := TX5) (N := 15) hx hb hts iwX5 tyX5 tyX5_ok nmX5 hown hK hP hD hS 0 rfl rfl 13 (by decide) fk43 (fun _ h9 => h9) rfl (by decide +kernel) rfl rfl (Nat.le_of_ble_eq_true rfl) dX5_power_29 (fun H locs hP hD hS => ?_)
    have hP : va_P (dC, dI) vwCl [(qm, .inr (4, [.ref qmd, .ref qmt, .int (nI n), .int (bI on), .int lf, .int (nI dn), .int pl, .ref qml, .int (nI k), .ref qmk, .int (nI mz), .ref qmh, .int (nI nh), .int (nI 1), .ref qmw]))] H := hP
    have hD : va_D A [(qm, .inr (4, [.ref qmd, .ref qmt, .int (nI n), .int (bI on), .int lf, .int (nI dn), .int pl, .ref qml, .int (nI k), .ref qmk, .int (nI mz), .ref qmh, .int (nI nh), .int (nI 1), .ref qmw]))] := hD
    refine lv_aload_n hx hb dX5_power_32 rfl (lv_at hl 0 rfl) ?_
    refine va_get (D := (dC, dI)) (ci := 4) (v := .int (nI 1)) (C := RX5) (T := TX5) (N := 15) hx hb hts iwX5 hown hK hP 0 rfl rfl 13 (by decide) fk43 (fun _ h9 => h9) rfl dX5_power_33 ?_
    refine lv_if_le (tgt := 41) hx hb dX5_power_36 (by decide) (fun c_36 => absurd c_36 (by decide)) (fun c_36 => ?_)
    refine lv_iconst (v := nI 0) hx hb dX5_power_39 (by decide) ?_
    have hP9 := hP.sub (ws' := [(qm, .inr (4, [.ref qmd, .ref qmt, .int (nI n), .int (bI on), .int lf, .int (nI dn), .int pl, .ref qml, .int (nI k), .ref qmk, .int (nI mz), .ref qmh, .int (nI nh), .int (nI 1), .ref qmw]))]) [0] rfl
    have hD9 := hD.sub (ws' := [(qm, .inr (4, [.ref qmd, .ref qmt, .int (nI n), .int (bI on), .int lf, .int (nI dn), .int pl, .ref qml, .int (nI k), .ref qmk, .int (nI mz), .ref qmh, .int (nI nh), .int (nI 1), .ref qmw]))]) [0] (by decide) rfl
    have hK9 := hK.sub (tys' := [(cyI, .int), (cyZ, .boolean)]) [0, 1] rfl
    exact W.iret hx hb hr (fun tS ht hW => ⟨⟨_, (), rfl, rfl, by rw [ht]; exact hP9, va_K.moved hW.alike hK9, hD9⟩, hS.F ht⟩) hS.2.2 dX5_power_40
  ·
    refine lv_iload_n hx hb dX5_power_6 rfl (lv_at hl 1 rfl) ?_
    refine lv_sipush (v := nI 1000) hx hb dX5_power_7 (by decide) ?_
    refine lv_icmp_le (tgt := 17) hx hb dX5_power_10 (by decide) (fun c_10 => ?_) (fun c_10 => ?_)
    ·
      exfalso
      exact HBAD.elim (fun h => c_3 h) (fun h => (Int32.not_lt.mpr c_10) h)
    ·
      refine lv_iconst (v := nI 1) hx hb dX5_power_13 (by decide) ?_
      refine lv_goto (tgt := 29) hx hb dX5_power_14 (by decide) ?_
      refine va_put (D := (dC, dI)) (ci := 4) (v := .int (nI 1)) (ty := .int) (C := RX5) (T := TX5) (N := 15) hx hb hts iwX5 tyX5 tyX5_ok nmX5 hown hK hP hD hS 0 rfl rfl 13 (by decide) fk43 (fun _ h9 => h9) rfl (by decide +kernel) rfl rfl (Nat.le_of_ble_eq_true rfl) dX5_power_29 (fun H locs hP hD hS => ?_)
      have hP : va_P (dC, dI) vwCl [(qm, .inr (4, [.ref qmd, .ref qmt, .int (nI n), .int (bI on), .int lf, .int (nI dn), .int pl, .ref qml, .int (nI k), .ref qmk, .int (nI mz), .ref qmh, .int (nI nh), .int (nI 1), .ref qmw]))] H := hP
      have hD : va_D A [(qm, .inr (4, [.ref qmd, .ref qmt, .int (nI n), .int (bI on), .int lf, .int (nI dn), .int pl, .ref qml, .int (nI k), .ref qmk, .int (nI mz), .ref qmh, .int (nI nh), .int (nI 1), .ref qmw]))] := hD
      refine lv_aload_n hx hb dX5_power_32 rfl (lv_at hl 0 rfl) ?_
      refine va_get (D := (dC, dI)) (ci := 4) (v := .int (nI 1)) (C := RX5) (T := TX5) (N := 15) hx hb hts iwX5 hown hK hP 0 rfl rfl 13 (by decide) fk43 (fun _ h9 => h9) rfl dX5_power_33 ?_
      refine lv_if_le (tgt := 41) hx hb dX5_power_36 (by decide) (fun c_36 => absurd c_36 (by decide)) (fun c_36 => ?_)
      refine lv_iconst (v := nI 0) hx hb dX5_power_39 (by decide) ?_
      have hP9 := hP.sub (ws' := [(qm, .inr (4, [.ref qmd, .ref qmt, .int (nI n), .int (bI on), .int lf, .int (nI dn), .int pl, .ref qml, .int (nI k), .ref qmk, .int (nI mz), .ref qmh, .int (nI nh), .int (nI 1), .ref qmw]))]) [0] rfl
      have hD9 := hD.sub (ws' := [(qm, .inr (4, [.ref qmd, .ref qmt, .int (nI n), .int (bI on), .int lf, .int (nI dn), .int pl, .ref qml, .int (nI k), .ref qmk, .int (nI mz), .ref qmh, .int (nI nh), .int (nI 1), .ref qmw]))]) [0] (by decide) rfl
      have hK9 := hK.sub (tys' := [(cyI, .int), (cyZ, .boolean)]) [0, 1] rfl
      exact W.iret hx hb hr (fun tS ht hW => ⟨⟨_, (), rfl, rfl, by rw [ht]; exact hP9, va_K.moved hW.alike hK9, hD9⟩, hS.F ht⟩) hS.2.2 dX5_power_40
set_option maxHeartbeats 4000000 in
set_option maxRecDepth 100000 in
theorem c_X5_power_off (l : Launch) (dC : Nat → ClassId) (dI : Nat → Nat → Nat) (cyI cyZ : ClassId) (qm qmd qmt qml qmk qmh qmw : Nat) (sz : Nat) (n : Nat) (lf : Int32) (dn : Nat) (pl : Int32) (k mz nh : Nat) (th : Int32) (xx : Int32) (HOK : ¬ (xx < (-1) ∨ nI 1000 < xx)) : Met l yX5_power wsX5_power ({ frames := 0, cells := 0, slots := 0, locals := 0 }) (va_Pc [.ref qm, .int xx] (fun U => U.heap.size = sz ∧ va_P (dC, dI) vwCl [(qm, .inr (4, [.ref qmd, .ref qmt, .int (nI n), .int (bI false), .int lf, .int (nI dn), .int pl, .ref qml, .int (nI k), .ref qmk, .int (nI mz), .ref qmh, .int (nI nh), .int th, .ref qmw]))] U.heap ∧ va_K (dC, dI) vwCl [(cyI, .int), (cyZ, .boolean)] U ∧ va_D (fun _ => True) [(qm, .inr (4, [.ref qmd, .ref qmt, .int (nI n), .int (bI false), .int lf, .int (nI dn), .int pl, .ref qml, .int (nI k), .ref qmk, .int (nI mz), .ref qmh, .int (nI nh), .int th, .ref qmw]))])) (va_Qi (S := Unit) (fun (r : Int32) (_ : Unit) => r = nI 0) (fun (_ : Unit) tS => va_P (dC, dI) vwCl [(qm, .inr (4, [.ref qmd, .ref qmt, .int (nI n), .int (bI false), .int lf, .int (nI dn), .int pl, .ref qml, .int (nI k), .ref qmk, .int (nI mz), .ref qmh, .int (nI nh), .int (nI 2), .ref qmw]))] tS.heap ∧ va_K (dC, dI) vwCl [(cyI, .int), (cyZ, .boolean)] tS ∧ va_D (va_A [(qm, .inr (4, [.ref qmd, .ref qmt, .int (nI n), .int (bI false), .int lf, .int (nI dn), .int pl, .ref qml, .int (nI k), .ref qmk, .int (nI mz), .ref qmh, .int (nI nh), .int th, .ref qmw]))] sz) [(qm, .inr (4, [.ref qmd, .ref qmt, .int (nI n), .int (bI false), .int lf, .int (nI dn), .int pl, .ref qml, .int (nI k), .ref qmk, .int (nI mz), .ref qmh, .int (nI nh), .int (nI 2), .ref qmw]))]) (va_A [(qm, .inr (4, [.ref qmd, .ref qmt, .int (nI n), .int (bI false), .int lf, .int (nI dn), .int pl, .ref qml, .int (nI k), .ref qmk, .int (nI mz), .ref qmh, .int (nI nh), .int th, .ref qmw]))] sz)) 0 0 (va_A [(qm, .inr (4, [.ref qmd, .ref qmt, .int (nI n), .int (bI false), .int lf, .int (nI dn), .int pl, .ref qml, .int (nI k), .ref qmk, .int (nI mz), .ref qmh, .int (nI nh), .int th, .ref qmw]))] sz) := by
  refine Met.ofW (cc := cX5_power) (maxL := 3) (ret := (some .int)) (by decide) rfl ?_
  intro pz ez sS mM args below meth cC s₁ B hml hv
  obtain ⟨rfl, hsz, hP, hK, hD0⟩ := hv
  have hx := B.exec
  have hb := B.bytes
  have hr := B.returns
  have hts := atoms_spec (ws := wsX5_power) B.pre
  have hown : sS.vm.findClass RX5 = some mM.cls := findClass_of_methodNamed B.named
  have hlocks := B.notSynchronized
  subst hsz
  have hD := hD0.self (sz := sS.heap.size)
  generalize hAe : va_A [(qm, .inr (4, [.ref qmd, .ref qmt, .int (nI n), .int (bI false), .int lf, .int (nI dn), .int pl, .ref qml, .int (nI k), .ref qmk, .int (nI mz), .ref qmh, .int (nI nh), .int th, .ref qmw]))] sS.heap.size = A at hD ⊢
  have hA : ∀ q : Nat, sS.heap.size ≤ q → A q := fun q h => by rw [← hAe]; exact Or.inr h
  have hS : va_S A sS.heap sS.heap [] := va_S.rf
  have hP : va_P (dC, dI) vwCl [(qm, .inr (4, [.ref qmd, .ref qmt, .int (nI n), .int (bI false), .int lf, .int (nI dn), .int pl, .ref qml, .int (nI k), .ref qmk, .int (nI mz), .ref qmh, .int (nI nh), .int th, .ref qmw]))] sS.heap := hP
  have iwX5 : ∀ w ∈ wsX50, w ∈ wsX5_power := by decide +kernel
  have fk16 := hts (.fieldLink RX5 16 "CodedStoreModel" "on" "Z") (by decide +kernel)
  have fk43 := hts (.fieldLink RX5 43 "CodedStoreModel" "thrown" "I") (by decide +kernel)
  have hl := lv_entry ([.ref qm, .int xx]) (n := 3) (Nat.le_of_ble_eq_true rfl)
  rw [lg_entry_eq]
  generalize (lg_sl ([.ref qm, .int xx]) ++ List.replicate (3 - (lg_sl ([.ref qm, .int xx])).length) Slot.unset).toArray = ls at hl ⊢
  have hl : lv_has ls 3 [(0, .ref qm), (1, .int xx)] := hl
  refine lv_aload_n hx hb dX5_power_0 rfl (lv_at hl 0 rfl) ?_
  refine lv_iload_n hx hb dX5_power_1 rfl (lv_at hl 1 rfl) ?_
  refine lv_iconst (v := (-1)) hx hb dX5_power_2 (by decide) ?_
  refine lv_icmp_lt (tgt := 13) hx hb dX5_power_3 (by decide) (fun c_3 => ?_) (fun c_3 => ?_)
  ·
    exfalso
    exact HOK (Or.inl c_3)
  ·
    refine lv_iload_n hx hb dX5_power_6 rfl (lv_at hl 1 rfl) ?_
    refine lv_sipush (v := nI 1000) hx hb dX5_power_7 (by decide) ?_
    refine lv_icmp_le (tgt := 17) hx hb dX5_power_10 (by decide) (fun c_10 => ?_) (fun c_10 => ?_)
    ·
      refine lv_aload_n hx hb dX5_power_17 rfl (lv_at hl 0 rfl) ?_
      refine va_get (D := (dC, dI)) (ci := 4) (v := .int (bI false)) (C := RX5) (T := TX5) (N := 15) hx hb hts iwX5 hown hK hP 0 rfl rfl 3 (by decide) fk16 (fun _ h9 => h9) rfl dX5_power_18 ?_
      refine lv_if_ne (tgt := 28) hx hb dX5_power_21 (by decide) (fun c_21 => absurd (by decide) c_21) (fun c_21 => ?_)
      refine lv_iconst (v := nI 2) hx hb dX5_power_24 (by decide) ?_
      refine lv_goto (tgt := 29) hx hb dX5_power_25 (by decide) ?_
      refine va_put (D := (dC, dI)) (ci := 4) (v := .int (nI 2)) (ty := .int) (C := RX5) (T := TX5) (N := 15) hx hb hts iwX5 tyX5 tyX5_ok nmX5 hown hK hP hD hS 0 rfl rfl 13 (by decide) fk43 (fun _ h9 => h9) rfl (by decide +kernel) rfl rfl (Nat.le_of_ble_eq_true rfl) dX5_power_29 (fun H locs hP hD hS => ?_)
      have hP : va_P (dC, dI) vwCl [(qm, .inr (4, [.ref qmd, .ref qmt, .int (nI n), .int (bI false), .int lf, .int (nI dn), .int pl, .ref qml, .int (nI k), .ref qmk, .int (nI mz), .ref qmh, .int (nI nh), .int (nI 2), .ref qmw]))] H := hP
      have hD : va_D A [(qm, .inr (4, [.ref qmd, .ref qmt, .int (nI n), .int (bI false), .int lf, .int (nI dn), .int pl, .ref qml, .int (nI k), .ref qmk, .int (nI mz), .ref qmh, .int (nI nh), .int (nI 2), .ref qmw]))] := hD
      refine lv_aload_n hx hb dX5_power_32 rfl (lv_at hl 0 rfl) ?_
      refine va_get (D := (dC, dI)) (ci := 4) (v := .int (nI 2)) (C := RX5) (T := TX5) (N := 15) hx hb hts iwX5 hown hK hP 0 rfl rfl 13 (by decide) fk43 (fun _ h9 => h9) rfl dX5_power_33 ?_
      refine lv_if_le (tgt := 41) hx hb dX5_power_36 (by decide) (fun c_36 => absurd c_36 (by decide)) (fun c_36 => ?_)
      refine lv_iconst (v := nI 0) hx hb dX5_power_39 (by decide) ?_
      have hP9 := hP.sub (ws' := [(qm, .inr (4, [.ref qmd, .ref qmt, .int (nI n), .int (bI false), .int lf, .int (nI dn), .int pl, .ref qml, .int (nI k), .ref qmk, .int (nI mz), .ref qmh, .int (nI nh), .int (nI 2), .ref qmw]))]) [0] rfl
      have hD9 := hD.sub (ws' := [(qm, .inr (4, [.ref qmd, .ref qmt, .int (nI n), .int (bI false), .int lf, .int (nI dn), .int pl, .ref qml, .int (nI k), .ref qmk, .int (nI mz), .ref qmh, .int (nI nh), .int (nI 2), .ref qmw]))]) [0] (by decide) rfl
      have hK9 := hK.sub (tys' := [(cyI, .int), (cyZ, .boolean)]) [0, 1] rfl
      exact W.iret hx hb hr (fun tS ht hW => ⟨⟨_, (), rfl, rfl, by rw [ht]; exact hP9, va_K.moved hW.alike hK9, hD9⟩, hS.F ht⟩) hS.2.2 dX5_power_40
    ·
      exfalso
      exact HOK (Or.inr (Int32.not_le.mp c_10))
set_option maxHeartbeats 4000000 in
set_option maxRecDepth 100000 in
theorem c_X5_power_ok (l : Launch) (dC : Nat → ClassId) (dI : Nat → Nat → Nat) (cyI cyZ : ClassId) (qm qmd qmt qml qmk qmh qmw : Nat) (sz : Nat) (n : Nat) (lf : Int32) (dn : Nat) (pl : Int32) (k mz nh : Nat) (th : Int32) (xx : Int32) (HOK : ¬ (xx < (-1) ∨ nI 1000 < xx)) : Met l yX5_power wsX5_power ({ frames := 0, cells := 0, slots := 0, locals := 0 }) (va_Pc [.ref qm, .int xx] (fun U => U.heap.size = sz ∧ va_P (dC, dI) vwCl [(qm, .inr (4, [.ref qmd, .ref qmt, .int (nI n), .int (bI true), .int lf, .int (nI dn), .int pl, .ref qml, .int (nI k), .ref qmk, .int (nI mz), .ref qmh, .int (nI nh), .int th, .ref qmw]))] U.heap ∧ va_K (dC, dI) vwCl [(cyI, .int), (cyZ, .boolean)] U ∧ va_D (fun _ => True) [(qm, .inr (4, [.ref qmd, .ref qmt, .int (nI n), .int (bI true), .int lf, .int (nI dn), .int pl, .ref qml, .int (nI k), .ref qmk, .int (nI mz), .ref qmh, .int (nI nh), .int th, .ref qmw]))])) (va_Qi (S := Unit) (fun (r : Int32) (_ : Unit) => r = lf) (fun (_ : Unit) tS => va_P (dC, dI) vwCl [(qm, .inr (4, [.ref qmd, .ref qmt, .int (nI n), .int (bI true), .int xx, .int (nI dn), .int pl, .ref qml, .int (nI k), .ref qmk, .int (nI mz), .ref qmh, .int (nI nh), .int (nI 0), .ref qmw]))] tS.heap ∧ va_K (dC, dI) vwCl [(cyI, .int), (cyZ, .boolean)] tS ∧ va_D (va_A [(qm, .inr (4, [.ref qmd, .ref qmt, .int (nI n), .int (bI true), .int lf, .int (nI dn), .int pl, .ref qml, .int (nI k), .ref qmk, .int (nI mz), .ref qmh, .int (nI nh), .int th, .ref qmw]))] sz) [(qm, .inr (4, [.ref qmd, .ref qmt, .int (nI n), .int (bI true), .int xx, .int (nI dn), .int pl, .ref qml, .int (nI k), .ref qmk, .int (nI mz), .ref qmh, .int (nI nh), .int (nI 0), .ref qmw]))]) (va_A [(qm, .inr (4, [.ref qmd, .ref qmt, .int (nI n), .int (bI true), .int lf, .int (nI dn), .int pl, .ref qml, .int (nI k), .ref qmk, .int (nI mz), .ref qmh, .int (nI nh), .int th, .ref qmw]))] sz)) 0 0 (va_A [(qm, .inr (4, [.ref qmd, .ref qmt, .int (nI n), .int (bI true), .int lf, .int (nI dn), .int pl, .ref qml, .int (nI k), .ref qmk, .int (nI mz), .ref qmh, .int (nI nh), .int th, .ref qmw]))] sz) := by
  refine Met.ofW (cc := cX5_power) (maxL := 3) (ret := (some .int)) (by decide) rfl ?_
  intro pz ez sS mM args below meth cC s₁ B hml hv
  obtain ⟨rfl, hsz, hP, hK, hD0⟩ := hv
  have hx := B.exec
  have hb := B.bytes
  have hr := B.returns
  have hts := atoms_spec (ws := wsX5_power) B.pre
  have hown : sS.vm.findClass RX5 = some mM.cls := findClass_of_methodNamed B.named
  have hlocks := B.notSynchronized
  subst hsz
  have hD := hD0.self (sz := sS.heap.size)
  generalize hAe : va_A [(qm, .inr (4, [.ref qmd, .ref qmt, .int (nI n), .int (bI true), .int lf, .int (nI dn), .int pl, .ref qml, .int (nI k), .ref qmk, .int (nI mz), .ref qmh, .int (nI nh), .int th, .ref qmw]))] sS.heap.size = A at hD ⊢
  have hA : ∀ q : Nat, sS.heap.size ≤ q → A q := fun q h => by rw [← hAe]; exact Or.inr h
  have hS : va_S A sS.heap sS.heap [] := va_S.rf
  have hP : va_P (dC, dI) vwCl [(qm, .inr (4, [.ref qmd, .ref qmt, .int (nI n), .int (bI true), .int lf, .int (nI dn), .int pl, .ref qml, .int (nI k), .ref qmk, .int (nI mz), .ref qmh, .int (nI nh), .int th, .ref qmw]))] sS.heap := hP
  have iwX5 : ∀ w ∈ wsX50, w ∈ wsX5_power := by decide +kernel
  have fk16 := hts (.fieldLink RX5 16 "CodedStoreModel" "on" "Z") (by decide +kernel)
  have fk20 := hts (.fieldLink RX5 20 "CodedStoreModel" "until" "I") (by decide +kernel)
  have fk43 := hts (.fieldLink RX5 43 "CodedStoreModel" "thrown" "I") (by decide +kernel)
  have hl := lv_entry ([.ref qm, .int xx]) (n := 3) (Nat.le_of_ble_eq_true rfl)
  rw [lg_entry_eq]
  generalize (lg_sl ([.ref qm, .int xx]) ++ List.replicate (3 - (lg_sl ([.ref qm, .int xx])).length) Slot.unset).toArray = ls at hl ⊢
  have hl : lv_has ls 3 [(0, .ref qm), (1, .int xx)] := hl
  refine lv_aload_n hx hb dX5_power_0 rfl (lv_at hl 0 rfl) ?_
  refine lv_iload_n hx hb dX5_power_1 rfl (lv_at hl 1 rfl) ?_
  refine lv_iconst (v := (-1)) hx hb dX5_power_2 (by decide) ?_
  refine lv_icmp_lt (tgt := 13) hx hb dX5_power_3 (by decide) (fun c_3 => ?_) (fun c_3 => ?_)
  ·
    exfalso
    exact HOK (Or.inl c_3)
  ·
    refine lv_iload_n hx hb dX5_power_6 rfl (lv_at hl 1 rfl) ?_
    refine lv_sipush (v := nI 1000) hx hb dX5_power_7 (by decide) ?_
    refine lv_icmp_le (tgt := 17) hx hb dX5_power_10 (by decide) (fun c_10 => ?_) (fun c_10 => ?_)
    ·
      refine lv_aload_n hx hb dX5_power_17 rfl (lv_at hl 0 rfl) ?_
      refine va_get (D := (dC, dI)) (ci := 4) (v := .int (bI true)) (C := RX5) (T := TX5) (N := 15) hx hb hts iwX5 hown hK hP 0 rfl rfl 3 (by decide) fk16 (fun _ h9 => h9) rfl dX5_power_18 ?_
      refine lv_if_ne (tgt := 28) hx hb dX5_power_21 (by decide) (fun c_21 => ?_) (fun c_21 => absurd c_21 (by decide))
      refine lv_iconst (v := nI 0) hx hb dX5_power_28 (by decide) ?_
      refine va_put (D := (dC, dI)) (ci := 4) (v := .int (nI 0)) (ty := .int) (C := RX5) (T := TX5) (N := 15) hx hb hts iwX5 tyX5 tyX5_ok nmX5 hown hK hP hD hS 0 rfl rfl 13 (by decide) fk43 (fun _ h9 => h9) rfl (by decide +kernel) rfl rfl (Nat.le_of_ble_eq_true rfl) dX5_power_29 (fun H locs hP hD hS => ?_)
      have hP : va_P (dC, dI) vwCl [(qm, .inr (4, [.ref qmd, .ref qmt, .int (nI n), .int (bI true), .int lf, .int (nI dn), .int pl, .ref qml, .int (nI k), .ref qmk, .int (nI mz), .ref qmh, .int (nI nh), .int (nI 0), .ref qmw]))] H := hP
      have hD : va_D A [(qm, .inr (4, [.ref qmd, .ref qmt, .int (nI n), .int (bI true), .int lf, .int (nI dn), .int pl, .ref qml, .int (nI k), .ref qmk, .int (nI mz), .ref qmh, .int (nI nh), .int (nI 0), .ref qmw]))] := hD
      refine lv_aload_n hx hb dX5_power_32 rfl (lv_at hl 0 rfl) ?_
      refine va_get (D := (dC, dI)) (ci := 4) (v := .int (nI 0)) (C := RX5) (T := TX5) (N := 15) hx hb hts iwX5 hown hK hP 0 rfl rfl 13 (by decide) fk43 (fun _ h9 => h9) rfl dX5_power_33 ?_
      refine lv_if_le (tgt := 41) hx hb dX5_power_36 (by decide) (fun c_36 => ?_) (fun c_36 => absurd (by decide) c_36)
      refine lv_aload_n hx hb dX5_power_41 rfl (lv_at hl 0 rfl) ?_
      refine va_get (D := (dC, dI)) (ci := 4) (v := .int lf) (C := RX5) (T := TX5) (N := 15) hx hb hts iwX5 hown hK hP 0 rfl rfl 4 (by decide) fk20 (fun _ h9 => h9) rfl dX5_power_42 ?_
      refine lv_istore_n (lv' := [(2, .int lf), (0, .ref qm), (1, .int xx)]) hx hb dX5_power_45 rfl hl (by decide) rfl (fun ls hl => ?_)
      refine lv_aload_n hx hb dX5_power_46 rfl (lv_at hl 1 rfl) ?_
      refine lv_iload_n hx hb dX5_power_47 rfl (lv_at hl 2 rfl) ?_
      refine va_put (D := (dC, dI)) (ci := 4) (v := .int xx) (ty := .int) (C := RX5) (T := TX5) (N := 15) hx hb hts iwX5 tyX5 tyX5_ok nmX5 hown hK hP hD hS 0 rfl rfl 4 (by decide) fk20 (fun _ h9 => h9) rfl (by decide +kernel) rfl rfl (Nat.le_of_ble_eq_true rfl) dX5_power_48 (fun H locs hP hD hS => ?_)
      have hP : va_P (dC, dI) vwCl [(qm, .inr (4, [.ref qmd, .ref qmt, .int (nI n), .int (bI true), .int xx, .int (nI dn), .int pl, .ref qml, .int (nI k), .ref qmk, .int (nI mz), .ref qmh, .int (nI nh), .int (nI 0), .ref qmw]))] H := hP
      have hD : va_D A [(qm, .inr (4, [.ref qmd, .ref qmt, .int (nI n), .int (bI true), .int xx, .int (nI dn), .int pl, .ref qml, .int (nI k), .ref qmk, .int (nI mz), .ref qmh, .int (nI nh), .int (nI 0), .ref qmw]))] := hD
      refine lv_iload_n hx hb dX5_power_51 rfl (lv_at hl 0 rfl) ?_
      have hP9 := hP.sub (ws' := [(qm, .inr (4, [.ref qmd, .ref qmt, .int (nI n), .int (bI true), .int xx, .int (nI dn), .int pl, .ref qml, .int (nI k), .ref qmk, .int (nI mz), .ref qmh, .int (nI nh), .int (nI 0), .ref qmw]))]) [0] rfl
      have hD9 := hD.sub (ws' := [(qm, .inr (4, [.ref qmd, .ref qmt, .int (nI n), .int (bI true), .int xx, .int (nI dn), .int pl, .ref qml, .int (nI k), .ref qmk, .int (nI mz), .ref qmh, .int (nI nh), .int (nI 0), .ref qmw]))]) [0] (by decide) rfl
      have hK9 := hK.sub (tys' := [(cyI, .int), (cyZ, .boolean)]) [0, 1] rfl
      exact W.iret hx hb hr (fun tS ht hW => ⟨⟨_, (), rfl, rfl, by rw [ht]; exact hP9, va_K.moved hW.alike hK9, hD9⟩, hS.F ht⟩) hS.2.2 dX5_power_52
    ·
      exfalso
      exact HOK (Or.inr (Int32.not_le.mp c_10))
set_option maxHeartbeats 4000000 in
set_option maxRecDepth 100000 in
theorem c_X5_feed_bad (l : Launch) (dC : Nat → ClassId) (dI : Nat → Nat → Nat) (cyI cyZ : ClassId) (qm qmt qmd qml qmk qmh qmw : Nat) (sz : Nat) (n : Nat) (on : Bool) (lf : Int32) (dn : Nat) (pl : Int32) (k mz nh : Nat) (th : Int32) (T : Nat → Int32) (xx : Int32) (o9 : Int64) (hn : n ≤ 400) (HBAD : ¬ ∃ q : Nat, xx = nI q ∧ 1 ≤ q ∧ q ≤ 8 ∧ n + q ≤ 400) : Met l yX5_feed wsX5_feed ({ frames := 0, cells := 0, slots := 0, locals := 0 }) (va_Pc [.ref qm, .int xx, .long o9] (fun U => U.heap.size = sz ∧ va_P (dC, dI) vwCl [(qm, .inr (4, [.ref qmd, .ref qmt, .int (nI n), .int (bI on), .int lf, .int (nI dn), .int pl, .ref qml, .int (nI k), .ref qmk, .int (nI mz), .ref qmh, .int (nI nh), .int th, .ref qmw])), (qmt, .inl (cyI, 400, .inl T))] U.heap ∧ va_K (dC, dI) vwCl [(cyI, .int), (cyZ, .boolean)] U ∧ va_D (fun _ => True) [(qm, .inr (4, [.ref qmd, .ref qmt, .int (nI n), .int (bI on), .int lf, .int (nI dn), .int pl, .ref qml, .int (nI k), .ref qmk, .int (nI mz), .ref qmh, .int (nI nh), .int th, .ref qmw])), (qmt, .inl (cyI, 400, .inl T))])) (va_Qi (S := Unit) (fun (r : Int32) (_ : Unit) => r = nI 0) (fun (_ : Unit) tS => va_P (dC, dI) vwCl [(qm, .inr (4, [.ref qmd, .ref qmt, .int (nI n), .int (bI on), .int lf, .int (nI dn), .int pl, .ref qml, .int (nI k), .ref qmk, .int (nI mz), .ref qmh, .int (nI nh), .int (nI 1), .ref qmw])), (qmt, .inl (cyI, 400, .inl T))] tS.heap ∧ va_K (dC, dI) vwCl [(cyI, .int), (cyZ, .boolean)] tS ∧ va_D (va_A [(qm, .inr (4, [.ref qmd, .ref qmt, .int (nI n), .int (bI on), .int lf, .int (nI dn), .int pl, .ref qml, .int (nI k), .ref qmk, .int (nI mz), .ref qmh, .int (nI nh), .int th, .ref qmw])), (qmt, .inl (cyI, 400, .inl T))] sz) [(qm, .inr (4, [.ref qmd, .ref qmt, .int (nI n), .int (bI on), .int lf, .int (nI dn), .int pl, .ref qml, .int (nI k), .ref qmk, .int (nI mz), .ref qmh, .int (nI nh), .int (nI 1), .ref qmw])), (qmt, .inl (cyI, 400, .inl T))]) (va_A [(qm, .inr (4, [.ref qmd, .ref qmt, .int (nI n), .int (bI on), .int lf, .int (nI dn), .int pl, .ref qml, .int (nI k), .ref qmk, .int (nI mz), .ref qmh, .int (nI nh), .int th, .ref qmw])), (qmt, .inl (cyI, 400, .inl T))] sz)) 0 0 (va_A [(qm, .inr (4, [.ref qmd, .ref qmt, .int (nI n), .int (bI on), .int lf, .int (nI dn), .int pl, .ref qml, .int (nI k), .ref qmk, .int (nI mz), .ref qmh, .int (nI nh), .int th, .ref qmw])), (qmt, .inl (cyI, 400, .inl T))] sz) := by
  refine Met.ofW (cc := cX5_feed) (maxL := 5) (ret := (some .int)) (by decide) rfl ?_
  intro pz ez sS mM args below meth cC s₁ B hml hv
  obtain ⟨rfl, hsz, hP, hK, hD0⟩ := hv
  have hx := B.exec
  have hb := B.bytes
  have hr := B.returns
  have hts := atoms_spec (ws := wsX5_feed) B.pre
  have hown : sS.vm.findClass RX5 = some mM.cls := findClass_of_methodNamed B.named
  have hlocks := B.notSynchronized
  subst hsz
  have hD := hD0.self (sz := sS.heap.size)
  generalize hAe : va_A [(qm, .inr (4, [.ref qmd, .ref qmt, .int (nI n), .int (bI on), .int lf, .int (nI dn), .int pl, .ref qml, .int (nI k), .ref qmk, .int (nI mz), .ref qmh, .int (nI nh), .int th, .ref qmw])), (qmt, .inl (cyI, 400, .inl T))] sS.heap.size = A at hD ⊢
  have hA : ∀ q : Nat, sS.heap.size ≤ q → A q := fun q h => by rw [← hAe]; exact Or.inr h
  have hS : va_S A sS.heap sS.heap [] := va_S.rf
  have hP : va_P (dC, dI) vwCl [(qm, .inr (4, [.ref qmd, .ref qmt, .int (nI n), .int (bI on), .int lf, .int (nI dn), .int pl, .ref qml, .int (nI k), .ref qmk, .int (nI mz), .ref qmh, .int (nI nh), .int th, .ref qmw])), (qmt, .inl (cyI, 400, .inl T))] sS.heap := hP
  have iwX5 : ∀ w ∈ wsX50, w ∈ wsX5_feed := by decide +kernel
  have fk40 := hts (.fieldLink RX5 40 "CodedStoreModel" "size" "I") (by decide +kernel)
  have fk43 := hts (.fieldLink RX5 43 "CodedStoreModel" "thrown" "I") (by decide +kernel)
  have hl := lv_entry ([.ref qm, .int xx, .long o9]) (n := 5) (Nat.le_of_ble_eq_true rfl)
  rw [lg_entry_eq]
  generalize (lg_sl ([.ref qm, .int xx, .long o9]) ++ List.replicate (5 - (lg_sl ([.ref qm, .int xx, .long o9])).length) Slot.unset).toArray = ls at hl ⊢
  have hl : lv_has ls 5 [(0, .ref qm), (1, .int xx), (2, .long o9)] := hl
  refine lv_aload_n hx hb dX5_feed_0 rfl (lv_at hl 0 rfl) ?_
  refine lv_iload_n hx hb dX5_feed_1 rfl (lv_at hl 1 rfl) ?_
  refine lv_iconst (v := nI 1) hx hb dX5_feed_2 (by decide) ?_
  refine lv_icmp_lt (tgt := 24) hx hb dX5_feed_3 (by decide) (fun c_3 => ?_) (fun c_3 => ?_)
  ·
    refine lv_iconst (v := nI 1) hx hb dX5_feed_24 (by decide) ?_
    refine lv_goto (tgt := 29) hx hb dX5_feed_25 (by decide) ?_
    refine va_put (D := (dC, dI)) (ci := 4) (v := .int (nI 1)) (ty := .int) (C := RX5) (T := TX5) (N := 15) hx hb hts iwX5 tyX5 tyX5_ok nmX5 hown hK hP hD hS 0 rfl rfl 13 (by decide) fk43 (fun _ h9 => h9) rfl (by decide +kernel) rfl rfl (Nat.le_of_ble_eq_true rfl) dX5_feed_29 (fun H locs hP hD hS => ?_)
    have hP : va_P (dC, dI) vwCl [(qm, .inr (4, [.ref qmd, .ref qmt, .int (nI n), .int (bI on), .int lf, .int (nI dn), .int pl, .ref qml, .int (nI k), .ref qmk, .int (nI mz), .ref qmh, .int (nI nh), .int (nI 1), .ref qmw])), (qmt, .inl (cyI, 400, .inl T))] H := hP
    have hD : va_D A [(qm, .inr (4, [.ref qmd, .ref qmt, .int (nI n), .int (bI on), .int lf, .int (nI dn), .int pl, .ref qml, .int (nI k), .ref qmk, .int (nI mz), .ref qmh, .int (nI nh), .int (nI 1), .ref qmw])), (qmt, .inl (cyI, 400, .inl T))] := hD
    refine lv_aload_n hx hb dX5_feed_32 rfl (lv_at hl 0 rfl) ?_
    refine va_get (D := (dC, dI)) (ci := 4) (v := .int (nI 1)) (C := RX5) (T := TX5) (N := 15) hx hb hts iwX5 hown hK hP 0 rfl rfl 13 (by decide) fk43 (fun _ h9 => h9) rfl dX5_feed_33 ?_
    refine lv_if_le (tgt := 41) hx hb dX5_feed_36 (by decide) (fun c_36 => absurd c_36 (by decide)) (fun c_36 => ?_)
    refine lv_iconst (v := nI 0) hx hb dX5_feed_39 (by decide) ?_
    have hP9 := hP.sub (ws' := [(qm, .inr (4, [.ref qmd, .ref qmt, .int (nI n), .int (bI on), .int lf, .int (nI dn), .int pl, .ref qml, .int (nI k), .ref qmk, .int (nI mz), .ref qmh, .int (nI nh), .int (nI 1), .ref qmw])), (qmt, .inl (cyI, 400, .inl T))]) [0, 1] rfl
    have hD9 := hD.sub (ws' := [(qm, .inr (4, [.ref qmd, .ref qmt, .int (nI n), .int (bI on), .int lf, .int (nI dn), .int pl, .ref qml, .int (nI k), .ref qmk, .int (nI mz), .ref qmh, .int (nI nh), .int (nI 1), .ref qmw])), (qmt, .inl (cyI, 400, .inl T))]) [0, 1] (by decide) rfl
    have hK9 := hK.sub (tys' := [(cyI, .int), (cyZ, .boolean)]) [0, 1] rfl
    exact W.iret hx hb hr (fun tS ht hW => ⟨⟨_, (), rfl, rfl, by rw [ht]; exact hP9, va_K.moved hW.alike hK9, hD9⟩, hS.F ht⟩) hS.2.2 dX5_feed_40
  ·
    refine lv_iload_n hx hb dX5_feed_6 rfl (lv_at hl 1 rfl) ?_
    refine lv_bipush (v := nI 8) hx hb dX5_feed_7 (by decide) ?_
    refine lv_icmp_gt (tgt := 24) hx hb dX5_feed_9 (by decide) (fun c_9 => ?_) (fun c_9 => ?_)
    ·
      refine lv_iconst (v := nI 1) hx hb dX5_feed_24 (by decide) ?_
      refine lv_goto (tgt := 29) hx hb dX5_feed_25 (by decide) ?_
      refine va_put (D := (dC, dI)) (ci := 4) (v := .int (nI 1)) (ty := .int) (C := RX5) (T := TX5) (N := 15) hx hb hts iwX5 tyX5 tyX5_ok nmX5 hown hK hP hD hS 0 rfl rfl 13 (by decide) fk43 (fun _ h9 => h9) rfl (by decide +kernel) rfl rfl (Nat.le_of_ble_eq_true rfl) dX5_feed_29 (fun H locs hP hD hS => ?_)
      have hP : va_P (dC, dI) vwCl [(qm, .inr (4, [.ref qmd, .ref qmt, .int (nI n), .int (bI on), .int lf, .int (nI dn), .int pl, .ref qml, .int (nI k), .ref qmk, .int (nI mz), .ref qmh, .int (nI nh), .int (nI 1), .ref qmw])), (qmt, .inl (cyI, 400, .inl T))] H := hP
      have hD : va_D A [(qm, .inr (4, [.ref qmd, .ref qmt, .int (nI n), .int (bI on), .int lf, .int (nI dn), .int pl, .ref qml, .int (nI k), .ref qmk, .int (nI mz), .ref qmh, .int (nI nh), .int (nI 1), .ref qmw])), (qmt, .inl (cyI, 400, .inl T))] := hD
      refine lv_aload_n hx hb dX5_feed_32 rfl (lv_at hl 0 rfl) ?_
      refine va_get (D := (dC, dI)) (ci := 4) (v := .int (nI 1)) (C := RX5) (T := TX5) (N := 15) hx hb hts iwX5 hown hK hP 0 rfl rfl 13 (by decide) fk43 (fun _ h9 => h9) rfl dX5_feed_33 ?_
      refine lv_if_le (tgt := 41) hx hb dX5_feed_36 (by decide) (fun c_36 => absurd c_36 (by decide)) (fun c_36 => ?_)
      refine lv_iconst (v := nI 0) hx hb dX5_feed_39 (by decide) ?_
      have hP9 := hP.sub (ws' := [(qm, .inr (4, [.ref qmd, .ref qmt, .int (nI n), .int (bI on), .int lf, .int (nI dn), .int pl, .ref qml, .int (nI k), .ref qmk, .int (nI mz), .ref qmh, .int (nI nh), .int (nI 1), .ref qmw])), (qmt, .inl (cyI, 400, .inl T))]) [0, 1] rfl
      have hD9 := hD.sub (ws' := [(qm, .inr (4, [.ref qmd, .ref qmt, .int (nI n), .int (bI on), .int lf, .int (nI dn), .int pl, .ref qml, .int (nI k), .ref qmk, .int (nI mz), .ref qmh, .int (nI nh), .int (nI 1), .ref qmw])), (qmt, .inl (cyI, 400, .inl T))]) [0, 1] (by decide) rfl
      have hK9 := hK.sub (tys' := [(cyI, .int), (cyZ, .boolean)]) [0, 1] rfl
      exact W.iret hx hb hr (fun tS ht hW => ⟨⟨_, (), rfl, rfl, by rw [ht]; exact hP9, va_K.moved hW.alike hK9, hD9⟩, hS.F ht⟩) hS.2.2 dX5_feed_40
    ·
      obtain ⟨q, h1, h8, eq9⟩ := i_1to8 c_3 c_9
      subst eq9
      refine lv_aload_n hx hb dX5_feed_12 rfl (lv_at hl 0 rfl) ?_
      refine va_get (D := (dC, dI)) (ci := 4) (v := .int (nI n)) (C := RX5) (T := TX5) (N := 15) hx hb hts iwX5 hown hK hP 0 rfl rfl 2 (by decide) fk40 (fun _ h9 => h9) rfl dX5_feed_13 ?_
      refine lv_iload_n hx hb dX5_feed_16 rfl (lv_at hl 1 rfl) ?_
      refine lv_iadd hx hb dX5_feed_17 ?_
      refine zz_top (nI_add n q) ?_
      refine lv_sipush (v := nI 400) hx hb dX5_feed_18 (by decide) ?_
      refine zn_icmp_le (tgt := 28) hx hb dX5_feed_21 (by decide) (by omega) (by omega) (fun c_21 => ?_) (fun c_21 => ?_)
      ·
        exfalso
        exact HBAD ⟨q, rfl, h1, h8, c_21⟩
      ·
        refine lv_iconst (v := nI 1) hx hb dX5_feed_24 (by decide) ?_
        refine lv_goto (tgt := 29) hx hb dX5_feed_25 (by decide) ?_
        refine va_put (D := (dC, dI)) (ci := 4) (v := .int (nI 1)) (ty := .int) (C := RX5) (T := TX5) (N := 15) hx hb hts iwX5 tyX5 tyX5_ok nmX5 hown hK hP hD hS 0 rfl rfl 13 (by decide) fk43 (fun _ h9 => h9) rfl (by decide +kernel) rfl rfl (Nat.le_of_ble_eq_true rfl) dX5_feed_29 (fun H locs hP hD hS => ?_)
        have hP : va_P (dC, dI) vwCl [(qm, .inr (4, [.ref qmd, .ref qmt, .int (nI n), .int (bI on), .int lf, .int (nI dn), .int pl, .ref qml, .int (nI k), .ref qmk, .int (nI mz), .ref qmh, .int (nI nh), .int (nI 1), .ref qmw])), (qmt, .inl (cyI, 400, .inl T))] H := hP
        have hD : va_D A [(qm, .inr (4, [.ref qmd, .ref qmt, .int (nI n), .int (bI on), .int lf, .int (nI dn), .int pl, .ref qml, .int (nI k), .ref qmk, .int (nI mz), .ref qmh, .int (nI nh), .int (nI 1), .ref qmw])), (qmt, .inl (cyI, 400, .inl T))] := hD
        refine lv_aload_n hx hb dX5_feed_32 rfl (lv_at hl 0 rfl) ?_
        refine va_get (D := (dC, dI)) (ci := 4) (v := .int (nI 1)) (C := RX5) (T := TX5) (N := 15) hx hb hts iwX5 hown hK hP 0 rfl rfl 13 (by decide) fk43 (fun _ h9 => h9) rfl dX5_feed_33 ?_
        refine lv_if_le (tgt := 41) hx hb dX5_feed_36 (by decide) (fun c_36 => absurd c_36 (by decide)) (fun c_36 => ?_)
        refine lv_iconst (v := nI 0) hx hb dX5_feed_39 (by decide) ?_
        have hP9 := hP.sub (ws' := [(qm, .inr (4, [.ref qmd, .ref qmt, .int (nI n), .int (bI on), .int lf, .int (nI dn), .int pl, .ref qml, .int (nI k), .ref qmk, .int (nI mz), .ref qmh, .int (nI nh), .int (nI 1), .ref qmw])), (qmt, .inl (cyI, 400, .inl T))]) [0, 1] rfl
        have hD9 := hD.sub (ws' := [(qm, .inr (4, [.ref qmd, .ref qmt, .int (nI n), .int (bI on), .int lf, .int (nI dn), .int pl, .ref qml, .int (nI k), .ref qmk, .int (nI mz), .ref qmh, .int (nI nh), .int (nI 1), .ref qmw])), (qmt, .inl (cyI, 400, .inl T))]) [0, 1] (by decide) rfl
        have hK9 := hK.sub (tys' := [(cyI, .int), (cyZ, .boolean)]) [0, 1] rfl
        exact W.iret hx hb hr (fun tS ht hW => ⟨⟨_, (), rfl, rfl, by rw [ht]; exact hP9, va_K.moved hW.alike hK9, hD9⟩, hS.F ht⟩) hS.2.2 dX5_feed_40
set_option maxHeartbeats 4000000 in
set_option maxRecDepth 100000 in
theorem c_X5_feed_ok (l : Launch) (dC : Nat → ClassId) (dI : Nat → Nat → Nat) (cyI cyZ : ClassId) (qm qmt qmd qml qmk qmh qmw : Nat) (sz : Nat) (n : Nat) (on : Bool) (lf : Int32) (dn : Nat) (pl : Int32) (k mz nh : Nat) (th : Int32) (T : Nat → Int32) (q : Nat) (o9 : Int64) (hq1 : 1 ≤ q) (hq8 : q ≤ 8) (hn : n + q ≤ 400) : Met l yX5_feed wsX5_feed ({ frames := 0, cells := 0, slots := 0, locals := 0 }) (va_Pc [.ref qm, .int (nI q), .long o9] (fun U => U.heap.size = sz ∧ va_P (dC, dI) vwCl [(qm, .inr (4, [.ref qmd, .ref qmt, .int (nI n), .int (bI on), .int lf, .int (nI dn), .int pl, .ref qml, .int (nI k), .ref qmk, .int (nI mz), .ref qmh, .int (nI nh), .int th, .ref qmw])), (qmt, .inl (cyI, 400, .inl T))] U.heap ∧ va_K (dC, dI) vwCl [(cyI, .int), (cyZ, .boolean)] U ∧ va_D (fun _ => True) [(qm, .inr (4, [.ref qmd, .ref qmt, .int (nI n), .int (bI on), .int lf, .int (nI dn), .int pl, .ref qml, .int (nI k), .ref qmk, .int (nI mz), .ref qmh, .int (nI nh), .int th, .ref qmw])), (qmt, .inl (cyI, 400, .inl T))])) (va_Qi (S := Unit) (fun (r : Int32) (_ : Unit) => r = nI (n + q)) (fun (_ : Unit) tS => va_P (dC, dI) vwCl [(qm, .inr (4, [.ref qmd, .ref qmt, .int (nI (n + q)), .int (bI on), .int lf, .int (nI dn), .int pl, .ref qml, .int (nI k), .ref qmk, .int (nI mz), .ref qmh, .int (nI nh), .int (nI 0), .ref qmw])), (qmt, .inl (cyI, 400, .inl (zFeed T n o9 q)))] tS.heap ∧ va_K (dC, dI) vwCl [(cyI, .int), (cyZ, .boolean)] tS ∧ va_D (va_A [(qm, .inr (4, [.ref qmd, .ref qmt, .int (nI n), .int (bI on), .int lf, .int (nI dn), .int pl, .ref qml, .int (nI k), .ref qmk, .int (nI mz), .ref qmh, .int (nI nh), .int th, .ref qmw])), (qmt, .inl (cyI, 400, .inl T))] sz) [(qm, .inr (4, [.ref qmd, .ref qmt, .int (nI (n + q)), .int (bI on), .int lf, .int (nI dn), .int pl, .ref qml, .int (nI k), .ref qmk, .int (nI mz), .ref qmh, .int (nI nh), .int (nI 0), .ref qmw])), (qmt, .inl (cyI, 400, .inl (zFeed T n o9 q)))]) (va_A [(qm, .inr (4, [.ref qmd, .ref qmt, .int (nI n), .int (bI on), .int lf, .int (nI dn), .int pl, .ref qml, .int (nI k), .ref qmk, .int (nI mz), .ref qmh, .int (nI nh), .int th, .ref qmw])), (qmt, .inl (cyI, 400, .inl T))] sz)) 0 0 (va_A [(qm, .inr (4, [.ref qmd, .ref qmt, .int (nI n), .int (bI on), .int lf, .int (nI dn), .int pl, .ref qml, .int (nI k), .ref qmk, .int (nI mz), .ref qmh, .int (nI nh), .int th, .ref qmw])), (qmt, .inl (cyI, 400, .inl T))] sz) := by
  refine Met.ofW (cc := cX5_feed) (maxL := 5) (ret := (some .int)) (by decide) rfl ?_
  intro pz ez sS mM args below meth cC s₁ B hml hv
  obtain ⟨rfl, hsz, hP, hK, hD0⟩ := hv
  have hx := B.exec
  have hb := B.bytes
  have hr := B.returns
  have hts := atoms_spec (ws := wsX5_feed) B.pre
  have hown : sS.vm.findClass RX5 = some mM.cls := findClass_of_methodNamed B.named
  have hlocks := B.notSynchronized
  subst hsz
  have hD := hD0.self (sz := sS.heap.size)
  generalize hAe : va_A [(qm, .inr (4, [.ref qmd, .ref qmt, .int (nI n), .int (bI on), .int lf, .int (nI dn), .int pl, .ref qml, .int (nI k), .ref qmk, .int (nI mz), .ref qmh, .int (nI nh), .int th, .ref qmw])), (qmt, .inl (cyI, 400, .inl T))] sS.heap.size = A at hD ⊢
  have hA : ∀ q : Nat, sS.heap.size ≤ q → A q := fun q h => by rw [← hAe]; exact Or.inr h
  have hS : va_S A sS.heap sS.heap [] := va_S.rf
  have hP : va_P (dC, dI) vwCl [(qm, .inr (4, [.ref qmd, .ref qmt, .int (nI n), .int (bI on), .int lf, .int (nI dn), .int pl, .ref qml, .int (nI k), .ref qmk, .int (nI mz), .ref qmh, .int (nI nh), .int th, .ref qmw])), (qmt, .inl (cyI, 400, .inl T))] sS.heap := hP
  have iwX5 : ∀ w ∈ wsX50, w ∈ wsX5_feed := by decide +kernel
  have fk13 := hts (.fieldLink RX5 13 "CodedStoreModel" "tape" "[I") (by decide +kernel)
  have fk40 := hts (.fieldLink RX5 40 "CodedStoreModel" "size" "I") (by decide +kernel)
  have fk43 := hts (.fieldLink RX5 43 "CodedStoreModel" "thrown" "I") (by decide +kernel)
  have hl := lv_entry ([.ref qm, .int (nI q), .long o9]) (n := 5) (Nat.le_of_ble_eq_true rfl)
  rw [lg_entry_eq]
  generalize (lg_sl ([.ref qm, .int (nI q), .long o9]) ++ List.replicate (5 - (lg_sl ([.ref qm, .int (nI q), .long o9])).length) Slot.unset).toArray = ls at hl ⊢
  have hl : lv_has ls 5 [(0, .ref qm), (1, .int (nI q)), (2, .long o9)] := hl
  refine lv_aload_n hx hb dX5_feed_0 rfl (lv_at hl 0 rfl) ?_
  refine lv_iload_n hx hb dX5_feed_1 rfl (lv_at hl 1 rfl) ?_
  refine lv_iconst (v := nI 1) hx hb dX5_feed_2 (by decide) ?_
  refine zn_icmp_lt (tgt := 24) hx hb dX5_feed_3 (by decide) (by omega) (by omega) (fun c_3 => ?_) (fun c_3 => ?_)
  ·
    exfalso
    omega
  ·
    refine lv_iload_n hx hb dX5_feed_6 rfl (lv_at hl 1 rfl) ?_
    refine lv_bipush (v := nI 8) hx hb dX5_feed_7 (by decide) ?_
    refine zn_icmp_gt (tgt := 24) hx hb dX5_feed_9 (by decide) (by omega) (by omega) (fun c_9 => ?_) (fun c_9 => ?_)
    ·
      exfalso
      omega
    ·
      refine lv_aload_n hx hb dX5_feed_12 rfl (lv_at hl 0 rfl) ?_
      refine va_get (D := (dC, dI)) (ci := 4) (v := .int (nI n)) (C := RX5) (T := TX5) (N := 15) hx hb hts iwX5 hown hK hP 0 rfl rfl 2 (by decide) fk40 (fun _ h9 => h9) rfl dX5_feed_13 ?_
      refine lv_iload_n hx hb dX5_feed_16 rfl (lv_at hl 1 rfl) ?_
      refine lv_iadd hx hb dX5_feed_17 ?_
      refine zz_top (nI_add n q) ?_
      refine lv_sipush (v := nI 400) hx hb dX5_feed_18 (by decide) ?_
      refine zn_icmp_le (tgt := 28) hx hb dX5_feed_21 (by decide) (by omega) (by omega) (fun c_21 => ?_) (fun c_21 => ?_)
      ·
        refine lv_iconst (v := nI 0) hx hb dX5_feed_28 (by decide) ?_
        refine va_put (D := (dC, dI)) (ci := 4) (v := .int (nI 0)) (ty := .int) (C := RX5) (T := TX5) (N := 15) hx hb hts iwX5 tyX5 tyX5_ok nmX5 hown hK hP hD hS 0 rfl rfl 13 (by decide) fk43 (fun _ h9 => h9) rfl (by decide +kernel) rfl rfl (Nat.le_of_ble_eq_true rfl) dX5_feed_29 (fun H locs hP hD hS => ?_)
        have hP : va_P (dC, dI) vwCl [(qm, .inr (4, [.ref qmd, .ref qmt, .int (nI n), .int (bI on), .int lf, .int (nI dn), .int pl, .ref qml, .int (nI k), .ref qmk, .int (nI mz), .ref qmh, .int (nI nh), .int (nI 0), .ref qmw])), (qmt, .inl (cyI, 400, .inl T))] H := hP
        have hD : va_D A [(qm, .inr (4, [.ref qmd, .ref qmt, .int (nI n), .int (bI on), .int lf, .int (nI dn), .int pl, .ref qml, .int (nI k), .ref qmk, .int (nI mz), .ref qmh, .int (nI nh), .int (nI 0), .ref qmw])), (qmt, .inl (cyI, 400, .inl T))] := hD
        refine lv_aload_n hx hb dX5_feed_32 rfl (lv_at hl 0 rfl) ?_
        refine va_get (D := (dC, dI)) (ci := 4) (v := .int (nI 0)) (C := RX5) (T := TX5) (N := 15) hx hb hts iwX5 hown hK hP 0 rfl rfl 13 (by decide) fk43 (fun _ h9 => h9) rfl dX5_feed_33 ?_
        refine lv_if_le (tgt := 41) hx hb dX5_feed_36 (by decide) (fun c_36 => ?_) (fun c_36 => absurd (by decide) c_36)
        refine lv_iconst (v := nI 0) hx hb dX5_feed_41 (by decide) ?_
        refine lv_istore (lv' := [(4, .int (nI 0)), (0, .ref qm), (1, .int (nI q)), (2, .long o9)]) hx hb dX5_feed_42 hl (by decide) rfl (fun ls hl => ?_)
        refine zz_loopW (pc := 44) (μ := fun (i : Nat) => q - i) (Inv := fun (i : Nat) (H : Heap) (locs : List Loc) (ls : Array Slot) => (i ≤ q) ∧ va_P (dC, dI) vwCl [(qm, .inr (4, [.ref qmd, .ref qmt, .int (nI n), .int (bI on), .int lf, .int (nI dn), .int pl, .ref qml, .int (nI k), .ref qmk, .int (nI mz), .ref qmh, .int (nI nh), .int (nI 0), .ref qmw])), (qmt, .inl (cyI, 400, .inl (zFeed T n o9 i)))] H ∧ va_D A [(qm, .inr (4, [.ref qmd, .ref qmt, .int (nI n), .int (bI on), .int lf, .int (nI dn), .int pl, .ref qml, .int (nI k), .ref qmk, .int (nI mz), .ref qmh, .int (nI nh), .int (nI 0), .ref qmw])), (qmt, .inl (cyI, 400, .inl (zFeed T n o9 i)))] ∧ va_S A sS.heap H locs ∧ lv_has ls 5 [(0, .ref qm), (1, .int (nI q)), (2, .long o9), (4, .int (nI i))]) (x0 := (0)) ⟨by omega, hP, hD, hS, lv_sub hl [1, 2, 3, 0] rfl⟩ ?_
        intro i H locs ls hI ih44
        obtain ⟨hi, hP, hD, hS, hl⟩ := hI
        have hl : lv_has ls 5 [(0, .ref qm), (1, .int (nI q)), (2, .long o9), (4, .int (nI i))] := hl
        have hP : va_P (dC, dI) vwCl [(qm, .inr (4, [.ref qmd, .ref qmt, .int (nI n), .int (bI on), .int lf, .int (nI dn), .int pl, .ref qml, .int (nI k), .ref qmk, .int (nI mz), .ref qmh, .int (nI nh), .int (nI 0), .ref qmw])), (qmt, .inl (cyI, 400, .inl (zFeed T n o9 i)))] H := hP
        have hD : va_D A [(qm, .inr (4, [.ref qmd, .ref qmt, .int (nI n), .int (bI on), .int lf, .int (nI dn), .int pl, .ref qml, .int (nI k), .ref qmk, .int (nI mz), .ref qmh, .int (nI nh), .int (nI 0), .ref qmw])), (qmt, .inl (cyI, 400, .inl (zFeed T n o9 i)))] := hD
        have hi : i ≤ q := hi
        refine lv_iload hx hb dX5_feed_44 (lv_at hl 3 rfl) ?_
        refine lv_iload_n hx hb dX5_feed_46 rfl (lv_at hl 1 rfl) ?_
        refine zn_icmp_ge (tgt := 80) hx hb dX5_feed_47 (by decide) (by omega) (by omega) (fun c_47 => ?_) (fun c_47 => ?_)
        ·
          refine lv_aload_n hx hb dX5_feed_80 rfl (lv_at hl 0 rfl) ?_
          refine lv_dup hx hb dX5_feed_81 rfl ?_
          refine va_get (D := (dC, dI)) (ci := 4) (v := .int (nI n)) (C := RX5) (T := TX5) (N := 15) hx hb hts iwX5 hown hK hP 0 rfl rfl 2 (by decide) fk40 (fun _ h9 => h9) rfl dX5_feed_82 ?_
          refine lv_iload_n hx hb dX5_feed_85 rfl (lv_at hl 1 rfl) ?_
          refine lv_iadd hx hb dX5_feed_86 ?_
          refine zz_top (nI_add n q) ?_
          refine va_put (D := (dC, dI)) (ci := 4) (v := .int (nI (n + q))) (ty := .int) (C := RX5) (T := TX5) (N := 15) hx hb hts iwX5 tyX5 tyX5_ok nmX5 hown hK hP hD hS 0 rfl rfl 2 (by decide) fk40 (fun _ h9 => h9) rfl (by decide +kernel) rfl rfl (Nat.le_of_ble_eq_true rfl) dX5_feed_87 (fun H locs hP hD hS => ?_)
          have hP : va_P (dC, dI) vwCl [(qm, .inr (4, [.ref qmd, .ref qmt, .int (nI (n + q)), .int (bI on), .int lf, .int (nI dn), .int pl, .ref qml, .int (nI k), .ref qmk, .int (nI mz), .ref qmh, .int (nI nh), .int (nI 0), .ref qmw])), (qmt, .inl (cyI, 400, .inl (zFeed T n o9 i)))] H := hP
          have hD : va_D A [(qm, .inr (4, [.ref qmd, .ref qmt, .int (nI (n + q)), .int (bI on), .int lf, .int (nI dn), .int pl, .ref qml, .int (nI k), .ref qmk, .int (nI mz), .ref qmh, .int (nI nh), .int (nI 0), .ref qmw])), (qmt, .inl (cyI, 400, .inl (zFeed T n o9 i)))] := hD
          refine lv_aload_n hx hb dX5_feed_90 rfl (lv_at hl 0 rfl) ?_
          refine va_get (D := (dC, dI)) (ci := 4) (v := .int (nI (n + q))) (C := RX5) (T := TX5) (N := 15) hx hb hts iwX5 hown hK hP 0 rfl rfl 2 (by decide) fk40 (fun _ h9 => h9) rfl dX5_feed_91 ?_
          have eq9 : q = i := by omega
          subst eq9
          -- qmt : .inl (cyI, 400, .inl (zFeed T n o9 i))  ~  .inl (cyI, 400, .inl (zFeed T n o9 q))
          have hP9 := hP.sub (ws' := [(qm, .inr (4, [.ref qmd, .ref qmt, .int (nI (n + q)), .int (bI on), .int lf, .int (nI dn), .int pl, .ref qml, .int (nI k), .ref qmk, .int (nI mz), .ref qmh, .int (nI nh), .int (nI 0), .ref qmw])), (qmt, .inl (cyI, 400, .inl (zFeed T n o9 q)))]) [0, 1] rfl
          have hD9 := hD.sub (ws' := [(qm, .inr (4, [.ref qmd, .ref qmt, .int (nI (n + q)), .int (bI on), .int lf, .int (nI dn), .int pl, .ref qml, .int (nI k), .ref qmk, .int (nI mz), .ref qmh, .int (nI nh), .int (nI 0), .ref qmw])), (qmt, .inl (cyI, 400, .inl (zFeed T n o9 q)))]) [0, 1] (by decide) rfl
          have hK9 := hK.sub (tys' := [(cyI, .int), (cyZ, .boolean)]) [0, 1] rfl
          exact W.iret hx hb hr (fun tS ht hW => ⟨⟨_, (), rfl, rfl, by rw [ht]; exact hP9, va_K.moved hW.alike hK9, hD9⟩, hS.F ht⟩) hS.2.2 dX5_feed_94
        ·
          refine lv_aload_n hx hb dX5_feed_50 rfl (lv_at hl 0 rfl) ?_
          refine va_get (D := (dC, dI)) (ci := 4) (v := .ref qmt) (C := RX5) (T := TX5) (N := 15) hx hb hts iwX5 hown hK hP 0 rfl rfl 1 (by decide) fk13 (fun _ h9 => h9) rfl dX5_feed_51 ?_
          refine lv_aload_n hx hb dX5_feed_54 rfl (lv_at hl 0 rfl) ?_
          refine va_get (D := (dC, dI)) (ci := 4) (v := .int (nI n)) (C := RX5) (T := TX5) (N := 15) hx hb hts iwX5 hown hK hP 0 rfl rfl 2 (by decide) fk40 (fun _ h9 => h9) rfl dX5_feed_55 ?_
          refine lv_iload hx hb dX5_feed_58 (lv_at hl 3 rfl) ?_
          refine lv_iadd hx hb dX5_feed_60 ?_
          refine zz_top (nI_add n i) ?_
          refine lv_lload_n hx hb dX5_feed_61 rfl (lv_at hl 2 rfl) ?_
          refine lv_bipush (v := nI 8) hx hb dX5_feed_62 (by decide) ?_
          refine lv_iload hx hb dX5_feed_64 (lv_at hl 3 rfl) ?_
          refine lv_imul hx hb dX5_feed_66 ?_
          refine zz_top (pk_mul 8 i) ?_
          refine lv_lshr (v := o9 >>> ((nI (8 * i)).toInt64 &&& 63)) hx hb dX5_feed_67 rfl ?_
          refine lv_ldc2 (v := 255) hx hb hown (hts (.constantLong RX5 46 255) (by decide +kernel)) dX5_feed_68 ?_
          refine lv_land hx hb dX5_feed_71 ?_
          refine lv_l2i (v := ((o9 >>> ((nI (8 * i)).toInt64 &&& 63)) &&& 255).toInt32) hx hb dX5_feed_72 rfl ?_
          refine zz_top (show ((o9 >>> ((nI (8 * i)).toInt64 &&& 63)) &&& 255).toInt32 = zOc o9 i from zOc_m o9 (by omega)) ?_
          refine va_iast hx hb hK hP hD hS 1 0 rfl rfl (vp_in_nI (n := n + i) (by omega) (by decide)) dX5_feed_73 (fun H locs hP hD hS => ?_)
          rw [nI_clamp (n := n + i) (by omega)] at hP hD
          have hP : va_P (dC, dI) vwCl [(qm, .inr (4, [.ref qmd, .ref qmt, .int (nI n), .int (bI on), .int lf, .int (nI dn), .int pl, .ref qml, .int (nI k), .ref qmk, .int (nI mz), .ref qmh, .int (nI nh), .int (nI 0), .ref qmw])), (qmt, .inl (cyI, 400, .inl (upd (zFeed T n o9 i) (n + i) (zOc o9 i))))] H := hP
          have hD : va_D A [(qm, .inr (4, [.ref qmd, .ref qmt, .int (nI n), .int (bI on), .int lf, .int (nI dn), .int pl, .ref qml, .int (nI k), .ref qmk, .int (nI mz), .ref qmh, .int (nI nh), .int (nI 0), .ref qmw])), (qmt, .inl (cyI, 400, .inl (upd (zFeed T n o9 i) (n + i) (zOc o9 i))))] := hD
          refine lv_iinc (v := nI (i + 1)) (lv' := [(4, .int (nI (i + 1))), (0, .ref qm), (1, .int (nI q)), (2, .long o9)]) hx hb dX5_feed_74 hl (k := 3) rfl (nI_add i 1) (by decide) rfl (fun ls hl => ?_)
          refine lv_goto (tgt := 44) hx hb dX5_feed_77 (by decide) ?_
          -- cell qmt: .inl (cyI, 400, .inl (upd (zFeed T n o9 i) (n + i) (zOc o9 i))) ~ .inl (cyI, 400, .inl (zFeed T n o9 (i + 1)))
          exact ih44 (i + 1) _ _ _ ⟨by omega, hP, hD, hS, lv_sub hl [1, 2, 3, 0] rfl⟩ (by first | omega | (dsimp only; omega))
      ·
        exfalso
        omega
