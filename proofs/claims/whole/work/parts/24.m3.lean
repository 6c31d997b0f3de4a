set_option maxHeartbeats 4000000 in
set_option maxRecDepth 100000 in
theorem c_X5_zero_off (l : Launch) (dC : Nat → ClassId) (dI : Nat → Nat → Nat) (cyI cyZ : ClassId) (qm qmd qmt qml qmk qmh qmw : Nat) (sz : Nat) (n : Nat) (on : Bool) (lf : Int32) (dn : Nat) (pl : Int32) (k mz nh : Nat) (th : Int32) (w : Nat → Int32) (b : Nat) (hb9 : b < 64) (hz : lf = nI 0) : Met l yX5_zero wsX5_zero ({ frames := 1, cells := 0, slots := 0, locals := 20 }) (va_Pc [.ref qm, .int (nI b)] (fun U => U.heap.size = sz ∧ va_P (dC, dI) vwCl [(qm, .inr (4, [.ref qmd, .ref qmt, .int (nI n), .int (bI on), .int lf, .int (nI dn), .int pl, .ref qml, .int (nI k), .ref qmk, .int (nI mz), .ref qmh, .int (nI nh), .int th, .ref qmw])), (qmd, .inl (cyI, 512, .inl w))] U.heap ∧ va_K (dC, dI) vwCl [(cyI, .int), (cyZ, .boolean)] U ∧ va_D (fun _ => True) [(qm, .inr (4, [.ref qmd, .ref qmt, .int (nI n), .int (bI on), .int lf, .int (nI dn), .int pl, .ref qml, .int (nI k), .ref qmk, .int (nI mz), .ref qmh, .int (nI nh), .int th, .ref qmw])), (qmd, .inl (cyI, 512, .inl w))])) (va_Qi (S := Unit) (fun (r : Int32) (_ : Unit) => r = bI false) (fun (_ : Unit) tS => va_P (dC, dI) vwCl [(qm, .inr (4, [.ref qmd, .ref qmt, .int (nI n), .int (bI false), .int (-1), .int (nI dn), .int pl, .ref qml, .int (nI k), .ref qmk, .int (nI mz), .ref qmh, .int (nI nh), .int th, .ref qmw])), (qmd, .inl (cyI, 512, .inl w))] tS.heap ∧ va_K (dC, dI) vwCl [(cyI, .int), (cyZ, .boolean)] tS ∧ va_D (va_A [(qm, .inr (4, [.ref qmd, .ref qmt, .int (nI n), .int (bI on), .int lf, .int (nI dn), .int pl, .ref qml, .int (nI k), .ref qmk, .int (nI mz), .ref qmh, .int (nI nh), .int th, .ref qmw])), (qmd, .inl (cyI, 512, .inl w))] sz) [(qm, .inr (4, [.ref qmd, .ref qmt, .int (nI n), .int (bI false), .int (-1), .int (nI dn), .int pl, .ref qml, .int (nI k), .ref qmk, .int (nI mz), .ref qmh, .int (nI nh), .int th, .ref qmw])), (qmd, .inl (cyI, 512, .inl w))]) (va_A [(qm, .inr (4, [.ref qmd, .ref qmt, .int (nI n), .int (bI on), .int lf, .int (nI dn), .int pl, .ref qml, .int (nI k), .ref qmk, .int (nI mz), .ref qmh, .int (nI nh), .int th, .ref qmw])), (qmd, .inl (cyI, 512, .inl w))] sz)) 0 0 (va_A [(qm, .inr (4, [.ref qmd, .ref qmt, .int (nI n), .int (bI on), .int lf, .int (nI dn), .int pl, .ref qml, .int (nI k), .ref qmk, .int (nI mz), .ref qmh, .int (nI nh), .int th, .ref qmw])), (qmd, .inl (cyI, 512, .inl w))] sz) := by
  refine Met.ofW (cc := cX5_zero) (maxL := 3) (ret := (some .boolean)) (by decide) rfl ?_
  intro pz ez sS mM args below meth cC s₁ B hml hv
  obtain ⟨rfl, hsz, hP, hK, hD0⟩ := hv
  have hx := B.exec
  have hb := B.bytes
  have hr := B.returns
  have hts := atoms_spec (ws := wsX5_zero) B.pre
  have hown : sS.vm.findClass RX5 = some mM.cls := findClass_of_methodNamed B.named
  have hlocks := B.notSynchronized
  subst hsz
  have hD := hD0.self (sz := sS.heap.size)
  generalize hAe : va_A [(qm, .inr (4, [.ref qmd, .ref qmt, .int (nI n), .int (bI on), .int lf, .int (nI dn), .int pl, .ref qml, .int (nI k), .ref qmk, .int (nI mz), .ref qmh, .int (nI nh), .int th, .ref qmw])), (qmd, .inl (cyI, 512, .inl w))] sS.heap.size = A at hD ⊢
  have hA : ∀ q : Nat, sS.heap.size ≤ q → A q := fun q h => by rw [← hAe]; exact Or.inr h
  have hS : va_S A sS.heap sS.heap [] := va_S.rf
  have hP : va_P (dC, dI) vwCl [(qm, .inr (4, [.ref qmd, .ref qmt, .int (nI n), .int (bI on), .int lf, .int (nI dn), .int pl, .ref qml, .int (nI k), .ref qmk, .int (nI mz), .ref qmh, .int (nI nh), .int th, .ref qmw])), (qmd, .inl (cyI, 512, .inl w))] sS.heap := hP
  have hl := lv_entry ([.ref qm, .int (nI b)]) (n := 3) (Nat.le_of_ble_eq_true rfl)
  rw [lg_entry_eq]
  generalize (lg_sl ([.ref qm, .int (nI b)]) ++ List.replicate (3 - (lg_sl ([.ref qm, .int (nI b)])).length) Slot.unset).toArray = ls at hl ⊢
  have hl : lv_has ls 3 [(0, .ref qm), (1, .int (nI b))] := hl
  refine lv_aload_n hx hb dX5_zero_0 rfl (lv_at hl 0 rfl) ?_
  have hPc := hP.sub (ws' := [(qm, .inr (4, [.ref qmd, .ref qmt, .int (nI n), .int (bI on), .int lf, .int (nI dn), .int pl, .ref qml, .int (nI k), .ref qmk, .int (nI mz), .ref qmh, .int (nI nh), .int th, .ref qmw]))]) [0] rfl
  have hKc := hK.sub (tys' := [(cyI, .int), (cyZ, .boolean)]) [0, 1] rfl
  have hDc := hD.sub (ws' := [(qm, .inr (4, [.ref qmd, .ref qmt, .int (nI n), .int (bI on), .int lf, .int (nI dn), .int pl, .ref qml, .int (nI k), .ref qmk, .int (nI mz), .ref qmh, .int (nI nh), .int th, .ref qmw]))]) [0] (by decide) rfl
  have hFc := va_free (wc := [(qm, .inr (4, [.ref qmd, .ref qmt, .int (nI n), .int (bI on), .int lf, .int (nI dn), .int pl, .ref qml, .int (nI k), .ref qmk, .int (nI mz), .ref qmh, .int (nI nh), .int th, .ref qmw]))]) hD hS hA [0] rfl
  refine va_calli (va_runV (As := []) (rest := []) ⟨hx, hb, hml, hown, hts⟩ (c_X5_may_off l dC dI cyI cyZ qm qmd qmt qml qmk qmh qmw sS.heap.size n on lf dn pl k mz nh th (hz)) (cwV 0 hts gX5_zero_X5_mayWrite rfl rfl rfl (by decide +kernel) ⟨Nat.le_of_ble_eq_true rfl, Nat.le_of_ble_eq_true rfl⟩) ⟨zz_blW, va_recv hKc hPc (ci := 4) (q0 := 0) rfl rfl, fun U hU hW => ⟨rfl, by rw [hU], by rw [hU]; exact hPc, va_K.moved hW.alike hKc, hDc.weaken (fun _ _ _ _ => trivial)⟩⟩ rfl rfl hl.1 rfl (lv_room (Nat.le_of_ble_eq_true rfl)) dX5_zero_1 ⟨Nat.zero_le _, Nat.zero_le _⟩) hS (fun q _ h => hFc q h) hFc (fun r_1 uU tS H1 locs ht9 hvm9 hw9 hB9 hz1 hk1 hS => ?_)
  obtain ⟨hP1, hK1, hD1⟩ := hB9
  have hw9 : (r_1 = bI false) := hw9
  have hr_1 := hw9
  have hr_1 := Eq.symm hr_1
  subst hr_1
  rw [ht9] at hP1
  have hK1 := va_K.moved hvm9.symm hK1
  obtain ⟨hP, hD⟩ := va_join (wr := [(qmd, .inl (cyI, 512, .inl w))]) (w1 := [(qm, .inr (4, [.ref qmd, .ref qmt, .int (nI n), .int (bI false), .int (-1), .int (nI dn), .int pl, .ref qml, .int (nI k), .ref qmk, .int (nI mz), .ref qmh, .int (nI nh), .int th, .ref qmw]))]) hP hD [0] [1] rfl rfl (by decide) (by decide) hk1 hFc hP1 hD1
  generalize H1 = H at hP hS ⊢
  have hP : va_P (dC, dI) vwCl [(qmd, .inl (cyI, 512, .inl w)), (qm, .inr (4, [.ref qmd, .ref qmt, .int (nI n), .int (bI false), .int (-1), .int (nI dn), .int pl, .ref qml, .int (nI k), .ref qmk, .int (nI mz), .ref qmh, .int (nI nh), .int th, .ref qmw]))] H := hP
  have hD : va_D A [(qmd, .inl (cyI, 512, .inl w)), (qm, .inr (4, [.ref qmd, .ref qmt, .int (nI n), .int (bI false), .int (-1), .int (nI dn), .int pl, .ref qml, .int (nI k), .ref qmk, .int (nI mz), .ref qmh, .int (nI nh), .int th, .ref qmw]))] := hD
  refine lv_if_ne (tgt := 9) hx hb dX5_zero_4 (by decide) (fun c_4 => absurd (by decide) c_4) (fun c_4 => ?_)
  refine lv_iconst (v := nI 0) hx hb dX5_zero_7 (by decide) ?_
  have hP9 := hP.sub (ws' := [(qm, .inr (4, [.ref qmd, .ref qmt, .int (nI n), .int (bI false), .int (-1), .int (nI dn), .int pl, .ref qml, .int (nI k), .ref qmk, .int (nI mz), .ref qmh, .int (nI nh), .int th, .ref qmw])), (qmd, .inl (cyI, 512, .inl w))]) [1, 0] rfl
  have hD9 := hD.sub (ws' := [(qm, .inr (4, [.ref qmd, .ref qmt, .int (nI n), .int (bI false), .int (-1), .int (nI dn), .int pl, .ref qml, .int (nI k), .ref qmk, .int (nI mz), .ref qmh, .int (nI nh), .int th, .ref qmw])), (qmd, .inl (cyI, 512, .inl w))]) [1, 0] (by decide) rfl
  have hK9 := hK.sub (tys' := [(cyI, .int), (cyZ, .boolean)]) [0, 1] rfl
  have hret : (nI 0 : Int32) = bI false := rfl
  refine zz_top hret ?_
  exact W.zret hx hb hr (zz_narZ (by first | exact zz_zb _ | exact zz_z0 | exact zz_z1)) (fun tS ht hW => ⟨⟨_, (), rfl, rfl, by rw [ht]; exact hP9, va_K.moved hW.alike hK9, hD9⟩, hS.F ht⟩) hS.2.2 dX5_zero_8
set_option maxHeartbeats 4000000 in
set_option maxRecDepth 100000 in
theorem c_X5_zero_on (l : Launch) (dC : Nat → ClassId) (dI : Nat → Nat → Nat) (cyI cyZ : ClassId) (qm qmd qmt qml qmk qmh qmw : Nat) (sz : Nat) (n : Nat) (on : Bool) (lf : Int32) (dn : Nat) (pl : Int32) (k mz nh : Nat) (th : Int32) (w : Nat → Int32) (b : Nat) (hb9 : b < 64) (hz : ¬ lf = nI 0) : Met l yX5_zero wsX5_zero ({ frames := 1, cells := 0, slots := 0, locals := 20 }) (va_Pc [.ref qm, .int (nI b)] (fun U => U.heap.size = sz ∧ va_P (dC, dI) vwCl [(qm, .inr (4, [.ref qmd, .ref qmt, .int (nI n), .int (bI on), .int lf, .int (nI dn), .int pl, .ref qml, .int (nI k), .ref qmk, .int (nI mz), .ref qmh, .int (nI nh), .int th, .ref qmw])), (qmd, .inl (cyI, 512, .inl w))] U.heap ∧ va_K (dC, dI) vwCl [(cyI, .int), (cyZ, .boolean)] U ∧ va_D (fun _ => True) [(qm, .inr (4, [.ref qmd, .ref qmt, .int (nI n), .int (bI on), .int lf, .int (nI dn), .int pl, .ref qml, .int (nI k), .ref qmk, .int (nI mz), .ref qmh, .int (nI nh), .int th, .ref qmw])), (qmd, .inl (cyI, 512, .inl w))])) (va_Qi (S := Unit) (fun (r : Int32) (_ : Unit) => r = bI true) (fun (_ : Unit) tS => va_P (dC, dI) vwCl [(qm, .inr (4, [.ref qmd, .ref qmt, .int (nI n), .int (bI on), .int (kDec lf), .int (nI (dn + 1)), .int pl, .ref qml, .int (nI k), .ref qmk, .int (nI mz), .ref qmh, .int (nI nh), .int th, .ref qmw])), (qmd, .inl (cyI, 512, .inl (fb_put w (fun _ => nI 0) (8 * b) 8)))] tS.heap ∧ va_K (dC, dI) vwCl [(cyI, .int), (cyZ, .boolean)] tS ∧ va_D (va_A [(qm, .inr (4, [.ref qmd, .ref qmt, .int (nI n), .int (bI on), .int lf, .int (nI dn), .int pl, .ref qml, .int (nI k), .ref qmk, .int (nI mz), .ref qmh, .int (nI nh), .int th, .ref qmw])), (qmd, .inl (cyI, 512, .inl w))] sz) [(qm, .inr (4, [.ref qmd, .ref qmt, .int (nI n), .int (bI on), .int (kDec lf), .int (nI (dn + 1)), .int pl, .ref qml, .int (nI k), .ref qmk, .int (nI mz), .ref qmh, .int (nI nh), .int th, .ref qmw])), (qmd, .inl (cyI, 512, .inl (fb_put w (fun _ => nI 0) (8 * b) 8)))]) (va_A [(qm, .inr (4, [.ref qmd, .ref qmt, .int (nI n), .int (bI on), .int lf, .int (nI dn), .int pl, .ref qml, .int (nI k), .ref qmk, .int (nI mz), .ref qmh, .int (nI nh), .int th, .ref qmw])), (qmd, .inl (cyI, 512, .inl w))] sz)) 0 0 (va_A [(qm, .inr (4, [.ref qmd, .ref qmt, .int (nI n), .int (bI on), .int lf, .int (nI dn), .int pl, .ref qml, .int (nI k), .ref qmk, .int (nI mz), .ref qmh, .int (nI nh), .int th, .ref qmw])), (qmd, .inl (cyI, 512, .inl w))] sz) := by
  refine Met.ofW (cc := cX5_zero) (maxL := 3) (ret := (some .boolean)) (by decide) rfl ?_
  intro pz ez sS mM args below meth cC s₁ B hml hv
  obtain ⟨rfl, hsz, hP, hK, hD0⟩ := hv
  have hx := B.exec
  have hb := B.bytes
  have hr := B.returns
  have hts := atoms_spec (ws := wsX5_zero) B.pre
  have hown : sS.vm.findClass RX5 = some mM.cls := findClass_of_methodNamed B.named
  have hlocks := B.notSynchronized
  subst hsz
  have hD := hD0.self (sz := sS.heap.size)
  generalize hAe : va_A [(qm, .inr (4, [.ref qmd, .ref qmt, .int (nI n), .int (bI on), .int lf, .int (nI dn), .int pl, .ref qml, .int (nI k), .ref qmk, .int (nI mz), .ref qmh, .int (nI nh), .int th, .ref qmw])), (qmd, .inl (cyI, 512, .inl w))] sS.heap.size = A at hD ⊢
  have hA : ∀ q : Nat, sS.heap.size ≤ q → A q := fun q h => by rw [← hAe]; exact Or.inr h
  have hS : va_S A sS.heap sS.heap [] := va_S.rf
  have hP : va_P (dC, dI) vwCl [(qm, .inr (4, [.ref qmd, .ref qmt, .int (nI n), .int (bI on), .int lf, .int (nI dn), .int pl, .ref qml, .int (nI k), .ref qmk, .int (nI mz), .ref qmh, .int (nI nh), .int th, .ref qmw])), (qmd, .inl (cyI, 512, .inl w))] sS.heap := hP
  have iwX5 : ∀ w ∈ wsX50, w ∈ wsX5_zero := by decide +kernel
  have fk7 := hts (.fieldLink RX5 7 "CodedStoreModel" "disk" "[I") (by decide +kernel)
  have hl := lv_entry ([.ref qm, .int (nI b)]) (n := 3) (Nat.le_of_ble_eq_true rfl)
  rw [lg_entry_eq]
  generalize (lg_sl ([.ref qm, .int (nI b)]) ++ List.replicate (3 - (lg_sl ([.ref qm, .int (nI b)])).length) Slot.unset).toArray = ls at hl ⊢
  have hl : lv_has ls 3 [(0, .ref qm), (1, .int (nI b))] := hl
  refine lv_aload_n hx hb dX5_zero_0 rfl (lv_at hl 0 rfl) ?_
  have hPc := hP.sub (ws' := [(qm, .inr (4, [.ref qmd, .ref qmt, .int (nI n), .int (bI on), .int lf, .int (nI dn), .int pl, .ref qml, .int (nI k), .ref qmk, .int (nI mz), .ref qmh, .int (nI nh), .int th, .ref qmw]))]) [0] rfl
  have hKc := hK.sub (tys' := [(cyI, .int), (cyZ, .boolean)]) [0, 1] rfl
  have hDc := hD.sub (ws' := [(qm, .inr (4, [.ref qmd, .ref qmt, .int (nI n), .int (bI on), .int lf, .int (nI dn), .int pl, .ref qml, .int (nI k), .ref qmk, .int (nI mz), .ref qmh, .int (nI nh), .int th, .ref qmw]))]) [0] (by decide) rfl
  have hFc := va_free (wc := [(qm, .inr (4, [.ref qmd, .ref qmt, .int (nI n), .int (bI on), .int lf, .int (nI dn), .int pl, .ref qml, .int (nI k), .ref qmk, .int (nI mz), .ref qmh, .int (nI nh), .int th, .ref qmw]))]) hD hS hA [0] rfl
  refine va_calli (va_runV (As := []) (rest := []) ⟨hx, hb, hml, hown, hts⟩ (c_X5_may_on l dC dI cyI cyZ qm qmd qmt qml qmk qmh qmw sS.heap.size n on lf dn pl k mz nh th (hz)) (cwV 0 hts gX5_zero_X5_mayWrite rfl rfl rfl (by decide +kernel) ⟨Nat.le_of_ble_eq_true rfl, Nat.le_of_ble_eq_true rfl⟩) ⟨zz_blW, va_recv hKc hPc (ci := 4) (q0 := 0) rfl rfl, fun U hU hW => ⟨rfl, by rw [hU], by rw [hU]; exact hPc, va_K.moved hW.alike hKc, hDc.weaken (fun _ _ _ _ => trivial)⟩⟩ rfl rfl hl.1 rfl (lv_room (Nat.le_of_ble_eq_true rfl)) dX5_zero_1 ⟨Nat.zero_le _, Nat.zero_le _⟩) hS (fun q _ h => hFc q h) hFc (fun r_1 uU tS H1 locs ht9 hvm9 hw9 hB9 hz1 hk1 hS => ?_)
  obtain ⟨hP1, hK1, hD1⟩ := hB9
  have hw9 : (r_1 = bI true) := hw9
  have hr_1 := hw9
  have hr_1 := Eq.symm hr_1
  subst hr_1
  rw [ht9] at hP1
  have hK1 := va_K.moved hvm9.symm hK1
  obtain ⟨hP, hD⟩ := va_join (wr := [(qmd, .inl (cyI, 512, .inl w))]) (w1 := [(qm, .inr (4, [.ref qmd, .ref qmt, .int (nI n), .int (bI on), .int (kDec lf), .int (nI (dn + 1)), .int pl, .ref qml, .int (nI k), .ref qmk, .int (nI mz), .ref qmh, .int (nI nh), .int th, .ref qmw]))]) hP hD [0] [1] rfl rfl (by decide) (by decide) hk1 hFc hP1 hD1
  generalize H1 = H at hP hS ⊢
  have hP : va_P (dC, dI) vwCl [(qmd, .inl (cyI, 512, .inl w)), (qm, .inr (4, [.ref qmd, .ref qmt, .int (nI n), .int (bI on), .int (kDec lf), .int (nI (dn + 1)), .int pl, .ref qml, .int (nI k), .ref qmk, .int (nI mz), .ref qmh, .int (nI nh), .int th, .ref qmw]))] H := hP
  have hD : va_D A [(qmd, .inl (cyI, 512, .inl w)), (qm, .inr (4, [.ref qmd, .ref qmt, .int (nI n), .int (bI on), .int (kDec lf), .int (nI (dn + 1)), .int pl, .ref qml, .int (nI k), .ref qmk, .int (nI mz), .ref qmh, .int (nI nh), .int th, .ref qmw]))] := hD
  refine lv_if_ne (tgt := 9) hx hb dX5_zero_4 (by decide) (fun c_4 => ?_) (fun c_4 => absurd c_4 (by decide))
  refine lv_bipush (v := nI 8) hx hb dX5_zero_9 (by decide) ?_
  refine lv_iload_n hx hb dX5_zero_11 rfl (lv_at hl 1 rfl) ?_
  refine lv_imul hx hb dX5_zero_12 ?_
  refine zz_top (pk_mul 8 b) ?_
  refine lv_istore_n (lv' := [(2, .int (nI (8 * b))), (0, .ref qm), (1, .int (nI b))]) hx hb dX5_zero_13 rfl hl (by decide) rfl (fun ls hl => ?_)
  refine zz_loopW (pc := 14) (μ := fun (x : Nat × (Nat → Int32)) => match x with | (j, w1) => 8 - j) (Inv := fun (x : Nat × (Nat → Int32)) (H : Heap) (locs : List Loc) (ls : Array Slot) => match x with | (j, w1) => (j ≤ 8) ∧ (w1 = fb_put w (fun _ => nI 0) (8 * b) j) ∧ va_P (dC, dI) vwCl [(qmd, .inl (cyI, 512, .inl w1)), (qm, .inr (4, [.ref qmd, .ref qmt, .int (nI n), .int (bI on), .int (kDec lf), .int (nI (dn + 1)), .int pl, .ref qml, .int (nI k), .ref qmk, .int (nI mz), .ref qmh, .int (nI nh), .int th, .ref qmw]))] H ∧ va_D A [(qmd, .inl (cyI, 512, .inl w1)), (qm, .inr (4, [.ref qmd, .ref qmt, .int (nI n), .int (bI on), .int (kDec lf), .int (nI (dn + 1)), .int pl, .ref qml, .int (nI k), .ref qmk, .int (nI mz), .ref qmh, .int (nI nh), .int th, .ref qmw]))] ∧ va_S A sS.heap H locs ∧ lv_has ls 3 [(0, .ref qm), (1, .int (nI b)), (2, .int (nI (8 * b + j)))]) (x0 := (0, w)) ⟨by omega, (fb_put_0 w _ (8 * b)).symm, hP, hD, hS, lv_sub hl [1, 2, 0] rfl⟩ ?_
  intro ⟨j, w1⟩ H locs ls hI ih14
  obtain ⟨hj9, hw1, hP, hD, hS, hl⟩ := hI
  have hl : lv_has ls 3 [(0, .ref qm), (1, .int (nI b)), (2, .int (nI (8 * b + j)))] := hl
  have hP : va_P (dC, dI) vwCl [(qmd, .inl (cyI, 512, .inl w1)), (qm, .inr (4, [.ref qmd, .ref qmt, .int (nI n), .int (bI on), .int (kDec lf), .int (nI (dn + 1)), .int pl, .ref qml, .int (nI k), .ref qmk, .int (nI mz), .ref qmh, .int (nI nh), .int th, .ref qmw]))] H := hP
  have hD : va_D A [(qmd, .inl (cyI, 512, .inl w1)), (qm, .inr (4, [.ref qmd, .ref qmt, .int (nI n), .int (bI on), .int (kDec lf), .int (nI (dn + 1)), .int pl, .ref qml, .int (nI k), .ref qmk, .int (nI mz), .ref qmh, .int (nI nh), .int th, .ref qmw]))] := hD
  have hj9 : j ≤ 8 := hj9
  have hw1 : w1 = fb_put w (fun _ => nI 0) (8 * b) j := hw1
  refine lv_iload_n hx hb dX5_zero_14 rfl (lv_at hl 2 rfl) ?_
  refine lv_bipush (v := nI 8) hx hb dX5_zero_15 (by decide) ?_
  refine lv_iload_n hx hb dX5_zero_17 rfl (lv_at hl 1 rfl) ?_
  refine lv_imul hx hb dX5_zero_18 ?_
  refine zz_top (pk_mul 8 b) ?_
  refine lv_bipush (v := nI 8) hx hb dX5_zero_19 (by decide) ?_
  refine lv_iadd hx hb dX5_zero_21 ?_
  refine zz_top (nI_add (8 * b) 8) ?_
  refine zn_icmp_ge (tgt := 38) hx hb dX5_zero_22 (by decide) (by omega) (by omega) (fun c_22 => ?_) (fun c_22 => ?_)
  ·
    refine lv_iconst (v := nI 1) hx hb dX5_zero_38 (by decide) ?_
    have e8 : j = 8 := by omega
    subst e8
    subst hw1
    -- qmd : .inl (cyI, 512, .inl w1)  ~  .inl (cyI, 512, .inl (fb_put w (fun _ => nI 0) (8 * b) 8))
    have hP9 := hP.sub (ws' := [(qm, .inr (4, [.ref qmd, .ref qmt, .int (nI n), .int (bI on), .int (kDec lf), .int (nI (dn + 1)), .int pl, .ref qml, .int (nI k), .ref qmk, .int (nI mz), .ref qmh, .int (nI nh), .int th, .ref qmw])), (qmd, .inl (cyI, 512, .inl (fb_put w (fun _ => nI 0) (8 * b) 8)))]) [1, 0] rfl
    have hD9 := hD.sub (ws' := [(qm, .inr (4, [.ref qmd, .ref qmt, .int (nI n), .int (bI on), .int (kDec lf), .int (nI (dn + 1)), .int pl, .ref qml, .int (nI k), .ref qmk, .int (nI mz), .ref qmh, .int (nI nh), .int th, .ref qmw])), (qmd, .inl (cyI, 512, .inl (fb_put w (fun _ => nI 0) (8 * b) 8)))]) [1, 0] (by decide) rfl
    have hK9 := hK.sub (tys' := [(cyI, .int), (cyZ, .boolean)]) [0, 1] rfl
    have hret : (nI 1 : Int32) = bI true := rfl
    refine zz_top hret ?_
    exact W.zret hx hb hr (zz_narZ (by first | exact zz_zb _ | exact zz_z0 | exact zz_z1)) (fun tS ht hW => ⟨⟨_, (), rfl, rfl, by rw [ht]; exact hP9, va_K.moved hW.alike hK9, hD9⟩, hS.F ht⟩) hS.2.2 dX5_zero_39
  ·
    refine lv_aload_n hx hb dX5_zero_25 rfl (lv_at hl 0 rfl) ?_
    refine va_get (D := (dC, dI)) (ci := 4) (v := .ref qmd) (C := RX5) (T := TX5) (N := 15) hx hb hts iwX5 hown hK hP 1 rfl rfl 0 (by decide) fk7 (fun _ h9 => h9) rfl dX5_zero_26 ?_
    refine lv_iload_n hx hb dX5_zero_29 rfl (lv_at hl 2 rfl) ?_
    refine lv_iconst (v := nI 0) hx hb dX5_zero_30 (by decide) ?_
    refine va_iast hx hb hK hP hD hS 0 0 rfl rfl (vp_in_nI (n := 8 * b + j) (by omega) (by decide)) dX5_zero_31 (fun H locs hP hD hS => ?_)
    rw [nI_clamp (n := 8 * b + j) (by omega)] at hP hD
    have hP : va_P (dC, dI) vwCl [(qmd, .inl (cyI, 512, .inl (upd w1 (8 * b + j) (nI 0)))), (qm, .inr (4, [.ref qmd, .ref qmt, .int (nI n), .int (bI on), .int (kDec lf), .int (nI (dn + 1)), .int pl, .ref qml, .int (nI k), .ref qmk, .int (nI mz), .ref qmh, .int (nI nh), .int th, .ref qmw]))] H := hP
    have hD : va_D A [(qmd, .inl (cyI, 512, .inl (upd w1 (8 * b + j) (nI 0)))), (qm, .inr (4, [.ref qmd, .ref qmt, .int (nI n), .int (bI on), .int (kDec lf), .int (nI (dn + 1)), .int pl, .ref qml, .int (nI k), .ref qmk, .int (nI mz), .ref qmh, .int (nI nh), .int th, .ref qmw]))] := hD
    refine lv_iinc (v := nI (8 * b + j + 1)) (lv' := [(2, .int (nI (8 * b + j + 1))), (0, .ref qm), (1, .int (nI b))]) hx hb dX5_zero_32 hl (k := 2) rfl (nI_add (8 * b + j) 1) (by decide) rfl (fun ls hl => ?_)
    refine lv_goto (tgt := 14) hx hb dX5_zero_35 (by decide) ?_
    -- local 2: .int (nI (8 * b + j + 1)) ~ .int (nI (8 * b + (j + 1)))
    exact ih14 (j + 1, upd w1 (8 * b + j) (nI 0)) _ _ _ ⟨by omega, by rw [hw1]; exact fb_put_succ w (fun _ => nI 0) (8 * b) j, hP, hD, hS, lv_sub hl [1, 2, 0] rfl⟩ (by first | omega | (dsimp only; omega))
set_option maxHeartbeats 4000000 in
set_option maxRecDepth 100000 in
theorem c_X5_putRecord (l : Launch) (dC : Nat → ClassId) (dI : Nat → Nat → Nat) (cyI cyZ : ClassId) (qm qmd qmk qmw qmt qml qmh : Nat) (sz : Nat) (n : Nat) (lf : Int32) (dn : Nat) (pl : Int32) (k mz nh : Nat) (th : Int32) (w : Nat → Int32) (M : Nat → Int32) (WL : Nat → Int32) (ky : Int32) (fm : Nat) (hmz : mz ≤ 450) (hdn0 : dn < 1000000) (HP0 : kPos w) : Met l yX5_putRecord wsX5_putRecord ({ frames := 4, cells := 0, slots := 0, locals := 88 }) (va_Pc [.ref qm, .int ky, .int (nI fm)] (fun U => U.heap.size = sz ∧ va_P (dC, dI) vwCl [(qm, .inr (4, [.ref qmd, .ref qmt, .int (nI n), .int (bI true), .int lf, .int (nI dn), .int pl, .ref qml, .int (nI k), .ref qmk, .int (nI mz), .ref qmh, .int (nI nh), .int th, .ref qmw])), (qmd, .inl (cyI, 512, .inl w)), (qmk, .inl (cyI, 460, .inl M)), (qmw, .inl (cyZ, 64, .inl WL))] U.heap ∧ va_K (dC, dI) vwCl [(cyI, .int), (cyZ, .boolean)] U ∧ va_D (fun _ => True) [(qm, .inr (4, [.ref qmd, .ref qmt, .int (nI n), .int (bI true), .int lf, .int (nI dn), .int pl, .ref qml, .int (nI k), .ref qmk, .int (nI mz), .ref qmh, .int (nI nh), .int th, .ref qmw])), (qmd, .inl (cyI, 512, .inl w)), (qmk, .inl (cyI, 460, .inl M)), (qmw, .inl (cyZ, 64, .inl WL))])) (va_Qi (S := Bool × (Nat → Int32) × Int32 × Nat × (Nat → Int32)) (fun (r : Int32) (uU : Bool × (Nat → Int32) × Int32 × Nat × (Nat → Int32)) => match uU with | (on1, w1, lf1, dn1, WL1) => ((r, on1, w1, lf1, dn1) = kPut w lf dn ky fm mz M) ∧ (dn ≤ dn1 ∧ dn1 ≤ dn + 64)) (fun (uU : Bool × (Nat → Int32) × Int32 × Nat × (Nat → Int32)) tS => match uU with | (on1, w1, lf1, dn1, WL1) => va_P (dC, dI) vwCl [(qm, .inr (4, [.ref qmd, .ref qmt, .int (nI n), .int (bI on1), .int (kUn on1 lf1), .int (nI dn1), .int pl, .ref qml, .int (nI k), .ref qmk, .int (nI mz), .ref qmh, .int (nI nh), .int th, .ref qmw])), (qmd, .inl (cyI, 512, .inl w1)), (qmk, .inl (cyI, 460, .inl M)), (qmw, .inl (cyZ, 64, .inl WL1))] tS.heap ∧ va_K (dC, dI) vwCl [(cyI, .int), (cyZ, .boolean)] tS ∧ va_D (va_A [(qm, .inr (4, [.ref qmd, .ref qmt, .int (nI n), .int (bI true), .int lf, .int (nI dn), .int pl, .ref qml, .int (nI k), .ref qmk, .int (nI mz), .ref qmh, .int (nI nh), .int th, .ref qmw])), (qmd, .inl (cyI, 512, .inl w)), (qmk, .inl (cyI, 460, .inl M)), (qmw, .inl (cyZ, 64, .inl WL))] sz) [(qm, .inr (4, [.ref qmd, .ref qmt, .int (nI n), .int (bI on1), .int (kUn on1 lf1), .int (nI dn1), .int pl, .ref qml, .int (nI k), .ref qmk, .int (nI mz), .ref qmh, .int (nI nh), .int th, .ref qmw])), (qmd, .inl (cyI, 512, .inl w1)), (qmk, .inl (cyI, 460, .inl M)), (qmw, .inl (cyZ, 64, .inl WL1))]) (va_A [(qm, .inr (4, [.ref qmd, .ref qmt, .int (nI n), .int (bI true), .int lf, .int (nI dn), .int pl, .ref qml, .int (nI k), .ref qmk, .int (nI mz), .ref qmh, .int (nI nh), .int th, .ref qmw])), (qmd, .inl (cyI, 512, .inl w)), (qmk, .inl (cyI, 460, .inl M)), (qmw, .inl (cyZ, 64, .inl WL))] sz)) 0 0 (va_A [(qm, .inr (4, [.ref qmd, .ref qmt, .int (nI n), .int (bI true), .int lf, .int (nI dn), .int pl, .ref qml, .int (nI k), .ref qmk, .int (nI mz), .ref qmh, .int (nI nh), .int th, .ref qmw])), (qmd, .inl (cyI, 512, .inl w)), (qmk, .inl (cyI, 460, .inl M)), (qmw, .inl (cyZ, 64, .inl WL))] sz) := by
  refine Met.ofW (cc := cX5_putRecord) (maxL := 10) (ret := (some .int)) (by decide) rfl ?_
  intro pz ez sS mM args below meth cC s₁ B hml hv
  obtain ⟨rfl, hsz, hP, hK, hD0⟩ := hv
  have hx := B.exec
  have hb := B.bytes
  have hr := B.returns
  have hts := atoms_spec (ws := wsX5_putRecord) B.pre
  have hown : sS.vm.findClass RX5 = some mM.cls := findClass_of_methodNamed B.named
  have hlocks := B.notSynchronized
  subst hsz
  have hD := hD0.self (sz := sS.heap.size)
  generalize hAe : va_A [(qm, .inr (4, [.ref qmd, .ref qmt, .int (nI n), .int (bI true), .int lf, .int (nI dn), .int pl, .ref qml, .int (nI k), .ref qmk, .int (nI mz), .ref qmh, .int (nI nh), .int th, .ref qmw])), (qmd, .inl (cyI, 512, .inl w)), (qmk, .inl (cyI, 460, .inl M)), (qmw, .inl (cyZ, 64, .inl WL))] sS.heap.size = A at hD ⊢
  have hA : ∀ q : Nat, sS.heap.size ≤ q → A q := fun q h => by rw [← hAe]; exact Or.inr h
  have hS : va_S A sS.heap sS.heap [] := va_S.rf
  have hP : va_P (dC, dI) vwCl [(qm, .inr (4, [.ref qmd, .ref qmt, .int (nI n), .int (bI true), .int lf, .int (nI dn), .int pl, .ref qml, .int (nI k), .ref qmk, .int (nI mz), .ref qmh, .int (nI nh), .int th, .ref qmw])), (qmd, .inl (cyI, 512, .inl w)), (qmk, .inl (cyI, 460, .inl M)), (qmw, .inl (cyZ, 64, .inl WL))] sS.heap := hP
  have iwX5 : ∀ w ∈ wsX50, w ∈ wsX5_putRecord := by decide +kernel
  have fk7 := hts (.fieldLink RX5 7 "CodedStoreModel" "disk" "[I") (by decide +kernel)
  have fk36 := hts (.fieldLink RX5 36 "CodedStoreModel" "wasLive" "[Z") (by decide +kernel)
  have fk51 := hts (.fieldLink RX5 51 "CodedStoreModel" "madeSize" "I") (by decide +kernel)
  have hl := lv_entry ([.ref qm, .int ky, .int (nI fm)]) (n := 10) (Nat.le_of_ble_eq_true rfl)
  rw [lg_entry_eq]
  generalize (lg_sl ([.ref qm, .int ky, .int (nI fm)]) ++ List.replicate (10 - (lg_sl ([.ref qm, .int ky, .int (nI fm)])).length) Slot.unset).toArray = ls at hl ⊢
  have hl : lv_has ls 10 [(0, .ref qm), (1, .int ky), (2, .int (nI fm))] := hl
  have hct := fb_ct_le (kLive w) 64
  have hps : zParts mz ≤ 30 := by unfold zParts; split <;> omega
  obtain ⟨Z0, hZ0⟩ : ∃ Z, Z = kPutF (kLive w) (zRow (kGr w 64 + nI 1) (zParts mz) fm ky mz M) (zParts mz) 64 0 0 w lf dn := ⟨_, rfl⟩
  refine lv_aload_n hx hb dX5_putRecord_0 rfl (lv_at hl 0 rfl) ?_
  refine va_get (D := (dC, dI)) (ci := 4) (v := .int (nI mz)) (C := RX5) (T := TX5) (N := 15) hx hb hts iwX5 hown hK hP 0 rfl rfl 10 (by decide) fk51 (fun _ h9 => h9) rfl dX5_putRecord_1 ?_
  refine zn_if_ne (tgt := 11) hx hb dX5_putRecord_4 (by decide) (by omega) (fun c_4 => ?_) (fun c_4 => ?_)
  ·
    refine lv_aload_n hx hb dX5_putRecord_11 rfl (lv_at hl 0 rfl) ?_
    refine va_get (D := (dC, dI)) (ci := 4) (v := .int (nI mz)) (C := RX5) (T := TX5) (N := 15) hx hb hts iwX5 hown hK hP 0 rfl rfl 10 (by decide) fk51 (fun _ h9 => h9) rfl dX5_putRecord_12 ?_
    refine lv_bipush (v := nI 15) hx hb dX5_putRecord_15 (by decide) ?_
    refine lv_iadd hx hb dX5_putRecord_17 ?_
    refine zz_top (nI_add mz 15) ?_
    refine lv_bipush (v := nI 16) hx hb dX5_putRecord_18 (by decide) ?_
    refine lv_idiv hx hb dX5_putRecord_20 (by decide) ?_
    refine zz_top (pk_div (a := mz + 15) (d := 16) (by omega) (by decide) (by decide)) ?_
    refine zz_top (show nI ((mz + 15) / 16) = nI (zParts mz) from congrArg nI (by unfold zParts; split <;> omega)) ?_
    refine lv_istore_n (lv' := [(3, .int (nI (zParts mz))), (0, .ref qm), (1, .int ky), (2, .int (nI fm))]) hx hb dX5_putRecord_21 rfl hl (by decide) rfl (fun ls hl => ?_)
    refine lv_aload_n hx hb dX5_putRecord_22 rfl (lv_at hl 1 rfl) ?_
    have hPc := hP.sub (ws' := [(qm, .inr (4, [.ref qmd, .ref qmt, .int (nI n), .int (bI true), .int lf, .int (nI dn), .int pl, .ref qml, .int (nI k), .ref qmk, .int (nI mz), .ref qmh, .int (nI nh), .int th, .ref qmw])), (qmd, .inl (cyI, 512, .inl w))]) [0, 1] rfl
    have hKc := hK.sub (tys' := [(cyI, .int), (cyZ, .boolean)]) [0, 1] rfl
    refine vp_callSi (va_Run.run (va_runV (As := []) (rest := []) ⟨hx, hb, hml, hown, hts⟩ (c_X5_greatest l dC dI cyI cyZ qm qmd qmt qml qmk qmh qmw n true lf dn pl k mz nh th w) (cwV 0 hts gX5_putRecord_X5_greatest rfl rfl rfl (by decide +kernel) ⟨Nat.le_of_ble_eq_true rfl, Nat.le_of_ble_eq_true rfl⟩) ⟨zz_blR, va_recv hKc hPc (ci := 4) (q0 := 0) rfl rfl, fun U hU hW => ⟨rfl, by rw [hU]; exact hPc, va_K.moved hW.alike hKc⟩⟩ rfl rfl hl.1 rfl (lv_room (Nat.le_of_ble_eq_true rfl)) dX5_putRecord_23 ⟨Nat.zero_le _, Nat.zero_le _⟩)) (fun r_23 hr_23 => ?_)
    have hr_23 : kGr w 64 = r_23 := Eq.symm hr_23
    subst hr_23
    refine lv_iconst (v := nI 1) hx hb dX5_putRecord_26 (by decide) ?_
    refine lv_iadd hx hb dX5_putRecord_27 ?_
    refine lv_istore (lv' := [(4, .int ((kGr w 64) + (nI 1))), (3, .int (nI (zParts mz))), (0, .ref qm), (1, .int ky), (2, .int (nI fm))]) hx hb dX5_putRecord_28 hl (by decide) rfl (fun ls hl => ?_)
    refine lv_aload_n hx hb dX5_putRecord_30 rfl (lv_at hl 2 rfl) ?_
    have hPc := hP.sub (ws' := [(qm, .inr (4, [.ref qmd, .ref qmt, .int (nI n), .int (bI true), .int lf, .int (nI dn), .int pl, .ref qml, .int (nI k), .ref qmk, .int (nI mz), .ref qmh, .int (nI nh), .int th, .ref qmw])), (qmd, .inl (cyI, 512, .inl w)), (qmw, .inl (cyZ, 64, .inl WL))]) [0, 1, 3] rfl
    have hKc := hK.sub (tys' := [(cyI, .int), (cyZ, .boolean)]) [0, 1] rfl
    have hDc := hD.sub (ws' := [(qm, .inr (4, [.ref qmd, .ref qmt, .int (nI n), .int (bI true), .int lf, .int (nI dn), .int pl, .ref qml, .int (nI k), .ref qmk, .int (nI mz), .ref qmh, .int (nI nh), .int th, .ref qmw])), (qmd, .inl (cyI, 512, .inl w)), (qmw, .inl (cyZ, 64, .inl WL))]) [0, 1, 3] (by decide) rfl
    have hFc := va_free (wc := [(qm, .inr (4, [.ref qmd, .ref qmt, .int (nI n), .int (bI true), .int lf, .int (nI dn), .int pl, .ref qml, .int (nI k), .ref qmk, .int (nI mz), .ref qmh, .int (nI nh), .int th, .ref qmw])), (qmd, .inl (cyI, 512, .inl w)), (qmw, .inl (cyZ, 64, .inl WL))]) hD hS hA [0, 1, 3] rfl
    refine va_calli (va_runV (As := []) (rest := []) ⟨hx, hb, hml, hown, hts⟩ (c_X5_findLive l dC dI cyI cyZ qm qmd qmw qmt qml qmk qmh sS.heap.size n true lf dn pl k mz nh th w WL (HP0)) (cwV 0 hts gX5_putRecord_X5_findLive rfl rfl rfl (by decide +kernel) ⟨Nat.le_of_ble_eq_true rfl, Nat.le_of_ble_eq_true rfl⟩) ⟨zz_blW, va_recv hKc hPc (ci := 4) (q0 := 0) rfl rfl, fun U hU hW => ⟨rfl, by rw [hU], by rw [hU]; exact hPc, va_K.moved hW.alike hKc, hDc.weaken (fun _ _ _ _ => trivial)⟩⟩ rfl rfl hl.1 rfl (lv_room (Nat.le_of_ble_eq_true rfl)) dX5_putRecord_31 ⟨Nat.zero_le _, Nat.zero_le _⟩) hS (fun q _ h => hFc q h) hFc (fun r_31 uU tS H1 locs ht9 hvm9 hw9 hB9 hz1 hk1 hS => ?_)
    obtain ⟨WL1_31, rfl⟩ : ∃ z, z = uU := ⟨_, rfl⟩
    obtain ⟨hP1, hK1, hD1⟩ := hB9
    have hw9 : (r_31 = nI (fb_ct (kLive w) 64)) ∧ (∀ j, j < 64 → WL1_31 j = bI (kLive w j)) := hw9
    obtain ⟨hr_31, HWL_31⟩ := hw9
    have hr_31 := Eq.symm hr_31
    subst hr_31
    rw [ht9] at hP1
    have hK1 := va_K.moved hvm9.symm hK1
    obtain ⟨hP, hD⟩ := va_join (wr := [(qmk, .inl (cyI, 460, .inl M))]) (w1 := [(qm, .inr (4, [.ref qmd, .ref qmt, .int (nI n), .int (bI true), .int lf, .int (nI dn), .int pl, .ref qml, .int (nI k), .ref qmk, .int (nI mz), .ref qmh, .int (nI nh), .int th, .ref qmw])), (qmd, .inl (cyI, 512, .inl w)), (qmw, .inl (cyZ, 64, .inl WL1_31))]) hP hD [0, 1, 3] [2] rfl rfl (by decide) (by decide) hk1 hFc hP1 hD1
    generalize H1 = H at hP hS ⊢
    have hP : va_P (dC, dI) vwCl [(qmk, .inl (cyI, 460, .inl M)), (qm, .inr (4, [.ref qmd, .ref qmt, .int (nI n), .int (bI true), .int lf, .int (nI dn), .int pl, .ref qml, .int (nI k), .ref qmk, .int (nI mz), .ref qmh, .int (nI nh), .int th, .ref qmw])), (qmd, .inl (cyI, 512, .inl w)), (qmw, .inl (cyZ, 64, .inl WL1_31))] H := hP
    have hD : va_D A [(qmk, .inl (cyI, 460, .inl M)), (qm, .inr (4, [.ref qmd, .ref qmt, .int (nI n), .int (bI true), .int lf, .int (nI dn), .int pl, .ref qml, .int (nI k), .ref qmk, .int (nI mz), .ref qmh, .int (nI nh), .int th, .ref qmw])), (qmd, .inl (cyI, 512, .inl w)), (qmw, .inl (cyZ, 64, .inl WL1_31))] := hD
    refine lv_istore (lv' := [(5, .int (nI (fb_ct (kLive w) 64))), (4, .int ((kGr w 64) + (nI 1))), (3, .int (nI (zParts mz))), (0, .ref qm), (1, .int ky), (2, .int (nI fm))]) hx hb dX5_putRecord_34 hl (by decide) rfl (fun ls hl => ?_)
    refine lv_bipush (v := nI 64) hx hb dX5_putRecord_36 (by decide) ?_
    refine lv_iload hx hb dX5_putRecord_38 (lv_at hl 0 rfl) ?_
    refine lv_isub hx hb dX5_putRecord_40 ?_
    refine zz_top (pk_sub (a := 64) (b := fb_ct (kLive w) 64) (by omega)) ?_
    refine lv_iload_n hx hb dX5_putRecord_41 rfl (lv_at hl 2 rfl) ?_
    refine zn_icmp_ge (tgt := 48) hx hb dX5_putRecord_42 (by decide) (by omega) (by omega) (fun c_42 => ?_) (fun c_42 => ?_)
    ·
      refine lv_iconst (v := nI 0) hx hb dX5_putRecord_48 (by decide) ?_
      refine lv_istore (lv' := [(6, .int (nI 0)), (5, .int (nI (fb_ct (kLive w) 64))), (4, .int ((kGr w 64) + (nI 1))), (3, .int (nI (zParts mz))), (0, .ref qm), (1, .int ky), (2, .int (nI fm))]) hx hb dX5_putRecord_49 hl (by decide) rfl (fun ls hl => ?_)
      refine lv_iconst (v := nI 0) hx hb dX5_putRecord_51 (by decide) ?_
      refine lv_istore (lv' := [(7, .int (nI 0)), (6, .int (nI 0)), (5, .int (nI (fb_ct (kLive w) 64))), (4, .int ((kGr w 64) + (nI 1))), (3, .int (nI (zParts mz))), (0, .ref qm), (1, .int ky), (2, .int (nI fm))]) hx hb dX5_putRecord_52 hl (by decide) rfl (fun ls hl => ?_)
      refine zz_loopW (pc := 54) (μ := fun (x : Nat × Nat × Nat × (Nat → Int32) × Int32 × Nat) => match x with | (b, q, f, w1, lf1, dn1) => 64 - q) (Inv := fun (x : Nat × Nat × Nat × (Nat → Int32) × Int32 × Nat) (H : Heap) (locs : List Loc) (ls : Array Slot) => match x with | (b, q, f, w1, lf1, dn1) => (b ≤ 64) ∧ (b + f = 64) ∧ (q ≤ b) ∧ (zParts mz + (b - fb_ct (kLive w) b) ≤ (64 - fb_ct (kLive w) 64) + q) ∧ (dn ≤ dn1) ∧ (dn1 ≤ dn + b) ∧ (kPutF (kLive w) (zRow (kGr w 64 + nI 1) (zParts mz) fm ky mz M) (zParts mz) f b q w1 lf1 dn1 = Z0) ∧ va_P (dC, dI) vwCl [(qmk, .inl (cyI, 460, .inl M)), (qm, .inr (4, [.ref qmd, .ref qmt, .int (nI n), .int (bI true), .int lf1, .int (nI dn1), .int pl, .ref qml, .int (nI k), .ref qmk, .int (nI mz), .ref qmh, .int (nI nh), .int th, .ref qmw])), (qmd, .inl (cyI, 512, .inl w1)), (qmw, .inl (cyZ, 64, .inl WL1_31))] H ∧ va_D A [(qmk, .inl (cyI, 460, .inl M)), (qm, .inr (4, [.ref qmd, .ref qmt, .int (nI n), .int (bI true), .int lf1, .int (nI dn1), .int pl, .ref qml, .int (nI k), .ref qmk, .int (nI mz), .ref qmh, .int (nI nh), .int th, .ref qmw])), (qmd, .inl (cyI, 512, .inl w1)), (qmw, .inl (cyZ, 64, .inl WL1_31))] ∧ va_S A sS.heap H locs ∧ lv_has ls 10 [(0, .ref qm), (1, .int ky), (2, .int (nI fm)), (3, .int (nI (zParts mz))), (4, .int ((kGr w 64) + (nI 1))), (5, .int (nI (fb_ct (kLive w) 64))), (6, .int (nI b)), (7, .int (nI q))]) (x0 := (0, 0, 64, w, lf, dn)) ⟨by omega, by omega, by omega, by show zParts mz + (0 - 0) ≤ _; omega, by omega, by omega, hZ0.symm, hP, hD, hS, lv_sub hl [5, 6, 7, 4, 3, 2, 1, 0] rfl⟩ ?_
      intro ⟨b, q, f, w1, lf1, dn1⟩ H locs ls hI ih54
      obtain ⟨hb9, hf, hq9, hfr, hd1, hd2, hE, hP, hD, hS, hl⟩ := hI
      have hl : lv_has ls 10 [(0, .ref qm), (1, .int ky), (2, .int (nI fm)), (3, .int (nI (zParts mz))), (4, .int ((kGr w 64) + (nI 1))), (5, .int (nI (fb_ct (kLive w) 64))), (6, .int (nI b)), (7, .int (nI q))] := hl
      have hP : va_P (dC, dI) vwCl [(qmk, .inl (cyI, 460, .inl M)), (qm, .inr (4, [.ref qmd, .ref qmt, .int (nI n), .int (bI true), .int lf1, .int (nI dn1), .int pl, .ref qml, .int (nI k), .ref qmk, .int (nI mz), .ref qmh, .int (nI nh), .int th, .ref qmw])), (qmd, .inl (cyI, 512, .inl w1)), (qmw, .inl (cyZ, 64, .inl WL1_31))] H := hP
      have hD : va_D A [(qmk, .inl (cyI, 460, .inl M)), (qm, .inr (4, [.ref qmd, .ref qmt, .int (nI n), .int (bI true), .int lf1, .int (nI dn1), .int pl, .ref qml, .int (nI k), .ref qmk, .int (nI mz), .ref qmh, .int (nI nh), .int th, .ref qmw])), (qmd, .inl (cyI, 512, .inl w1)), (qmw, .inl (cyZ, 64, .inl WL1_31))] := hD
      have hb9 : b ≤ 64 := hb9
      have hf : b + f = 64 := hf
      have hq9 : q ≤ b := hq9
      have hfr : zParts mz + (b - fb_ct (kLive w) b) ≤ (64 - fb_ct (kLive w) 64) + q := hfr
      have hd1 : dn ≤ dn1 := hd1
      have hd2 : dn1 ≤ dn + b := hd2
      have hE : kPutF (kLive w) (zRow (kGr w 64 + nI 1) (zParts mz) fm ky mz M) (zParts mz) f b q w1 lf1 dn1 = Z0 := hE
      refine lv_iload hx hb dX5_putRecord_54 (lv_at hl 7 rfl) ?_
      refine lv_iload_n hx hb dX5_putRecord_56 rfl (lv_at hl 3 rfl) ?_
      refine zn_icmp_ge (tgt := 197) hx hb dX5_putRecord_57 (by decide) (by omega) (by omega) (fun c_57 => ?_) (fun c_57 => ?_)
      ·
        refine lv_iload hx hb dX5_putRecord_197 (lv_at hl 4 rfl) ?_
        -- qm : .inr (4, [.ref qmd, .ref qmt, .int (nI n), .int (bI true), .int lf1, .int (nI dn1), .int pl, .ref qml, .int (nI k), .ref qmk, .int (nI mz), .ref qmh, .int (nI nh), .int th, .ref qmw])  ~  .inr (4, [.ref qmd, .ref qmt, .int (nI n), .int (bI true), .int (kUn true lf1), .int (nI dn1), .int pl, .ref qml, .int (nI k), .ref qmk, .int (nI mz), .ref qmh, .int (nI nh), .int th, .ref qmw])
        have hP9 := hP.sub (ws' := [(qm, .inr (4, [.ref qmd, .ref qmt, .int (nI n), .int (bI true), .int (kUn true lf1), .int (nI dn1), .int pl, .ref qml, .int (nI k), .ref qmk, .int (nI mz), .ref qmh, .int (nI nh), .int th, .ref qmw])), (qmd, .inl (cyI, 512, .inl w1)), (qmk, .inl (cyI, 460, .inl M)), (qmw, .inl (cyZ, 64, .inl WL1_31))]) [1, 2, 0, 3] rfl
        have hD9 := hD.sub (ws' := [(qm, .inr (4, [.ref qmd, .ref qmt, .int (nI n), .int (bI true), .int (kUn true lf1), .int (nI dn1), .int pl, .ref qml, .int (nI k), .ref qmk, .int (nI mz), .ref qmh, .int (nI nh), .int th, .ref qmw])), (qmd, .inl (cyI, 512, .inl w1)), (qmk, .inl (cyI, 460, .inl M)), (qmw, .inl (cyZ, 64, .inl WL1_31))]) [1, 2, 0, 3] (by decide) rfl
        have hK9 := hK.sub (tys' := [(cyI, .int), (cyZ, .boolean)]) [0, 1] rfl
        exact W.iret hx hb hr (fun tS ht hW => ⟨⟨_, (true, w1, lf1, dn1, WL1_31), rfl, ⟨by rw [kPut_go c_42 (hZ0.symm.trans (hE.symm.trans (kPutF_end c_57)))]; rfl, by omega⟩, by rw [ht]; exact hP9, va_K.moved hW.alike hK9, hD9⟩, hS.F ht⟩) hS.2.2 dX5_putRecord_199
      ·
        have hb8 : b < 64 := fb_free hb9 c_57 hfr
        refine zz_loopW (pc := 60) (μ := fun (x : Nat × Nat) => match x with | (b, f) => 64 - b) (Inv := fun (x : Nat × Nat) (H : Heap) (locs : List Loc) (ls : Array Slot) => match x with | (b, f) => (b ≤ 64) ∧ (b + f = 64) ∧ (q ≤ b) ∧ (zParts mz + (b - fb_ct (kLive w) b) ≤ (64 - fb_ct (kLive w) 64) + q) ∧ (dn1 ≤ dn + b) ∧ (kPutF (kLive w) (zRow (kGr w 64 + nI 1) (zParts mz) fm ky mz M) (zParts mz) f b q w1 lf1 dn1 = Z0) ∧ (b < 64) ∧ va_P (dC, dI) vwCl [(qmk, .inl (cyI, 460, .inl M)), (qm, .inr (4, [.ref qmd, .ref qmt, .int (nI n), .int (bI true), .int lf1, .int (nI dn1), .int pl, .ref qml, .int (nI k), .ref qmk, .int (nI mz), .ref qmh, .int (nI nh), .int th, .ref qmw])), (qmd, .inl (cyI, 512, .inl w1)), (qmw, .inl (cyZ, 64, .inl WL1_31))] H ∧ va_D A [(qmk, .inl (cyI, 460, .inl M)), (qm, .inr (4, [.ref qmd, .ref qmt, .int (nI n), .int (bI true), .int lf1, .int (nI dn1), .int pl, .ref qml, .int (nI k), .ref qmk, .int (nI mz), .ref qmh, .int (nI nh), .int th, .ref qmw])), (qmd, .inl (cyI, 512, .inl w1)), (qmw, .inl (cyZ, 64, .inl WL1_31))] ∧ va_S A sS.heap H locs ∧ lv_has ls 10 [(0, .ref qm), (1, .int ky), (2, .int (nI fm)), (3, .int (nI (zParts mz))), (4, .int ((kGr w 64) + (nI 1))), (5, .int (nI (fb_ct (kLive w) 64))), (6, .int (nI b)), (7, .int (nI q))]) (x0 := (b, f)) ⟨by omega, by omega, by omega, by omega, by omega, hE, by omega, hP, hD, hS, lv_sub hl [0, 1, 2, 3, 4, 5, 6, 7] rfl⟩ ?_
        intro ⟨b, f⟩ H locs ls hI ih60
        obtain ⟨hb9, hf, hq9, hfr, hd2, hE, hb8, hP, hD, hS, hl⟩ := hI
        have hl : lv_has ls 10 [(0, .ref qm), (1, .int ky), (2, .int (nI fm)), (3, .int (nI (zParts mz))), (4, .int ((kGr w 64) + (nI 1))), (5, .int (nI (fb_ct (kLive w) 64))), (6, .int (nI b)), (7, .int (nI q))] := hl
        have hP : va_P (dC, dI) vwCl [(qmk, .inl (cyI, 460, .inl M)), (qm, .inr (4, [.ref qmd, .ref qmt, .int (nI n), .int (bI true), .int lf1, .int (nI dn1), .int pl, .ref qml, .int (nI k), .ref qmk, .int (nI mz), .ref qmh, .int (nI nh), .int th, .ref qmw])), (qmd, .inl (cyI, 512, .inl w1)), (qmw, .inl (cyZ, 64, .inl WL1_31))] H := hP
        have hD : va_D A [(qmk, .inl (cyI, 460, .inl M)), (qm, .inr (4, [.ref qmd, .ref qmt, .int (nI n), .int (bI true), .int lf1, .int (nI dn1), .int pl, .ref qml, .int (nI k), .ref qmk, .int (nI mz), .ref qmh, .int (nI nh), .int th, .ref qmw])), (qmd, .inl (cyI, 512, .inl w1)), (qmw, .inl (cyZ, 64, .inl WL1_31))] := hD
        have hb9 : b ≤ 64 := hb9
        have hf : b + f = 64 := hf
        have hq9 : q ≤ b := hq9
        have hfr : zParts mz + (b - fb_ct (kLive w) b) ≤ (64 - fb_ct (kLive w) 64) + q := hfr
        have hd2 : dn1 ≤ dn + b := hd2
        have hE : kPutF (kLive w) (zRow (kGr w 64 + nI 1) (zParts mz) fm ky mz M) (zParts mz) f b q w1 lf1 dn1 = Z0 := hE
        have hb8 : b < 64 := hb8
        refine lv_aload_n hx hb dX5_putRecord_60 rfl (lv_at hl 0 rfl) ?_
        refine va_get (D := (dC, dI)) (ci := 4) (v := .ref qmw) (C := RX5) (T := TX5) (N := 15) hx hb hts iwX5 hown hK hP 1 rfl rfl 14 (by decide) fk36 (fun _ h9 => h9) rfl dX5_putRecord_61 ?_
        refine lv_iload hx hb dX5_putRecord_64 (lv_at hl 6 rfl) ?_
        refine va_zald hx hb hK hP 3 1 rfl rfl (vp_in_nI (n := b) (by omega) (by decide)) dX5_putRecord_66 ?_
        refine zz_top (congrArg WL1_31 (nI_clamp (n := b) (by omega))) ?_
        refine zz_top (HWL_31 b (by omega)) ?_
        refine zb_if_eq (tgt := 76) hx hb dX5_putRecord_67 (by decide) (fun c_67 => ?_) (fun c_67 => ?_)
        ·
          obtain ⟨f9, e9⟩ : ∃ f9, f = f9 + 1 := ⟨f - 1, by omega⟩
          subst e9
          have ect := kct_n (q := kLive w) (k := b) c_67
          have hcb := fb_ct_le (kLive w) b
          refine lv_aload_n hx hb dX5_putRecord_76 rfl (lv_at hl 0 rfl) ?_
          by_cases hz : lf1 = nI 0
          ·
            have hPc := hP.sub (ws' := [(qm, .inr (4, [.ref qmd, .ref qmt, .int (nI n), .int (bI true), .int lf1, .int (nI dn1), .int pl, .ref qml, .int (nI k), .ref qmk, .int (nI mz), .ref qmh, .int (nI nh), .int th, .ref qmw]))]) [1] rfl
            have hKc := hK.sub (tys' := [(cyI, .int), (cyZ, .boolean)]) [0, 1] rfl
            have hDc := hD.sub (ws' := [(qm, .inr (4, [.ref qmd, .ref qmt, .int (nI n), .int (bI true), .int lf1, .int (nI dn1), .int pl, .ref qml, .int (nI k), .ref qmk, .int (nI mz), .ref qmh, .int (nI nh), .int th, .ref qmw]))]) [1] (by decide) rfl
            have hFc := va_free (wc := [(qm, .inr (4, [.ref qmd, .ref qmt, .int (nI n), .int (bI true), .int lf1, .int (nI dn1), .int pl, .ref qml, .int (nI k), .ref qmk, .int (nI mz), .ref qmh, .int (nI nh), .int th, .ref qmw]))]) hD hS hA [1] rfl
            refine va_calli (va_runV (As := []) (rest := []) ⟨hx, hb, hml, hown, hts⟩ (c_X5_may_off l dC dI cyI cyZ qm qmd qmt qml qmk qmh qmw H.size n true lf1 dn1 pl k mz nh th (hz)) (cwV 0 hts gX5_putRecord_X5_mayWrite rfl rfl rfl (by decide +kernel) ⟨Nat.le_of_ble_eq_true rfl, Nat.le_of_ble_eq_true rfl⟩) ⟨zz_blW, va_recv hKc hPc (ci := 4) (q0 := 0) rfl rfl, fun U hU hW => ⟨rfl, by rw [hU], by rw [hU]; exact hPc, va_K.moved hW.alike hKc, hDc.weaken (fun _ _ _ _ => trivial)⟩⟩ rfl rfl hl.1 rfl (lv_room (Nat.le_of_ble_eq_true rfl)) dX5_putRecord_77 ⟨Nat.zero_le _, Nat.zero_le _⟩) hS (fun q _ h => hFc q h) hFc (fun r_77 uU tS H1 locs ht9 hvm9 hw9 hB9 hz1 hk1 hS => ?_)
            obtain ⟨hP1, hK1, hD1⟩ := hB9
            have hw9 : (r_77 = bI false) := hw9
            have hr_77 := hw9
            have hr_77 := Eq.symm hr_77
            subst hr_77
            rw [ht9] at hP1
            have hK1 := va_K.moved hvm9.symm hK1
            obtain ⟨hP, hD⟩ := va_join (wr := [(qmk, .inl (cyI, 460, .inl M)), (qmd, .inl (cyI, 512, .inl w1)), (qmw, .inl (cyZ, 64, .inl WL1_31))]) (w1 := [(qm, .inr (4, [.ref qmd, .ref qmt, .int (nI n), .int (bI false), .int (-1), .int (nI dn1), .int pl, .ref qml, .int (nI k), .ref qmk, .int (nI mz), .ref qmh, .int (nI nh), .int th, .ref qmw]))]) hP hD [1] [0, 2, 3] rfl rfl (by decide) (by decide) hk1 hFc hP1 hD1
            generalize H1 = H at hP hS ⊢
            have hP : va_P (dC, dI) vwCl [(qmk, .inl (cyI, 460, .inl M)), (qmd, .inl (cyI, 512, .inl w1)), (qmw, .inl (cyZ, 64, .inl WL1_31)), (qm, .inr (4, [.ref qmd, .ref qmt, .int (nI n), .int (bI false), .int (-1), .int (nI dn1), .int pl, .ref qml, .int (nI k), .ref qmk, .int (nI mz), .ref qmh, .int (nI nh), .int th, .ref qmw]))] H := hP
            have hD : va_D A [(qmk, .inl (cyI, 460, .inl M)), (qmd, .inl (cyI, 512, .inl w1)), (qmw, .inl (cyZ, 64, .inl WL1_31)), (qm, .inr (4, [.ref qmd, .ref qmt, .int (nI n), .int (bI false), .int (-1), .int (nI dn1), .int pl, .ref qml, .int (nI k), .ref qmk, .int (nI mz), .ref qmh, .int (nI nh), .int th, .ref qmw]))] := hD
            refine lv_if_ne (tgt := 86) hx hb dX5_putRecord_80 (by decide) (fun c_80 => absurd (by decide) c_80) (fun c_80 => ?_)
            refine lv_bipush (v := (-4)) hx hb dX5_putRecord_83 (by decide) ?_
            -- qm : .inr (4, [.ref qmd, .ref qmt, .int (nI n), .int (bI false), .int (-1), .int (nI dn1), .int pl, .ref qml, .int (nI k), .ref qmk, .int (nI mz), .ref qmh, .int (nI nh), .int th, .ref qmw])  ~  .inr (4, [.ref qmd, .ref qmt, .int (nI n), .int (bI false), .int (kUn false lf1), .int (nI dn1), .int pl, .ref qml, .int (nI k), .ref qmk, .int (nI mz), .ref qmh, .int (nI nh), .int th, .ref qmw])
            have hP9 := hP.sub (ws' := [(qm, .inr (4, [.ref qmd, .ref qmt, .int (nI n), .int (bI false), .int (kUn false lf1), .int (nI dn1), .int pl, .ref qml, .int (nI k), .ref qmk, .int (nI mz), .ref qmh, .int (nI nh), .int th, .ref qmw])), (qmd, .inl (cyI, 512, .inl w1)), (qmk, .inl (cyI, 460, .inl M)), (qmw, .inl (cyZ, 64, .inl WL1_31))]) [3, 1, 0, 2] rfl
            have hD9 := hD.sub (ws' := [(qm, .inr (4, [.ref qmd, .ref qmt, .int (nI n), .int (bI false), .int (kUn false lf1), .int (nI dn1), .int pl, .ref qml, .int (nI k), .ref qmk, .int (nI mz), .ref qmh, .int (nI nh), .int th, .ref qmw])), (qmd, .inl (cyI, 512, .inl w1)), (qmk, .inl (cyI, 460, .inl M)), (qmw, .inl (cyZ, 64, .inl WL1_31))]) [3, 1, 0, 2] (by decide) rfl
            have hK9 := hK.sub (tys' := [(cyI, .int), (cyZ, .boolean)]) [0, 1] rfl
            exact W.iret hx hb hr (fun tS ht hW => ⟨⟨_, (false, w1, lf1, dn1, WL1_31), rfl, ⟨by rw [kPut_go c_42 (hZ0.symm.trans (hE.symm.trans (kPutF_off c_57 c_67 hz)))]; rfl, by omega⟩, by rw [ht]; exact hP9, va_K.moved hW.alike hK9, hD9⟩, hS.F ht⟩) hS.2.2 dX5_putRecord_85
          ·
            have hPc := hP.sub (ws' := [(qm, .inr (4, [.ref qmd, .ref qmt, .int (nI n), .int (bI true), .int lf1, .int (nI dn1), .int pl, .ref qml, .int (nI k), .ref qmk, .int (nI mz), .ref qmh, .int (nI nh), .int th, .ref qmw]))]) [1] rfl
            have hKc := hK.sub (tys' := [(cyI, .int), (cyZ, .boolean)]) [0, 1] rfl
            have hDc := hD.sub (ws' := [(qm, .inr (4, [.ref qmd, .ref qmt, .int (nI n), .int (bI true), .int lf1, .int (nI dn1), .int pl, .ref qml, .int (nI k), .ref qmk, .int (nI mz), .ref qmh, .int (nI nh), .int th, .ref qmw]))]) [1] (by decide) rfl
            have hFc := va_free (wc := [(qm, .inr (4, [.ref qmd, .ref qmt, .int (nI n), .int (bI true), .int lf1, .int (nI dn1), .int pl, .ref qml, .int (nI k), .ref qmk, .int (nI mz), .ref qmh, .int (nI nh), .int th, .ref qmw]))]) hD hS hA [1] rfl
            refine va_calli (va_runV (As := []) (rest := []) ⟨hx, hb, hml, hown, hts⟩ (c_X5_may_on l dC dI cyI cyZ qm qmd qmt qml qmk qmh qmw H.size n true lf1 dn1 pl k mz nh th (hz)) (cwV 0 hts gX5_putRecord_X5_mayWrite rfl rfl rfl (by decide +kernel) ⟨Nat.le_of_ble_eq_true rfl, Nat.le_of_ble_eq_true rfl⟩) ⟨zz_blW, va_recv hKc hPc (ci := 4) (q0 := 0) rfl rfl, fun U hU hW => ⟨rfl, by rw [hU], by rw [hU]; exact hPc, va_K.moved hW.alike hKc, hDc.weaken (fun _ _ _ _ => trivial)⟩⟩ rfl rfl hl.1 rfl (lv_room (Nat.le_of_ble_eq_true rfl)) dX5_putRecord_77 ⟨Nat.zero_le _, Nat.zero_le _⟩) hS (fun q _ h => hFc q h) hFc (fun r_77 uU tS H1 locs ht9 hvm9 hw9 hB9 hz1 hk1 hS => ?_)
            obtain ⟨hP1, hK1, hD1⟩ := hB9
            have hw9 : (r_77 = bI true) := hw9
            have hr_77 := hw9
            have hr_77 := Eq.symm hr_77
            subst hr_77
            rw [ht9] at hP1
            have hK1 := va_K.moved hvm9.symm hK1
            obtain ⟨hP, hD⟩ := va_join (wr := [(qmk, .inl (cyI, 460, .inl M)), (qmd, .inl (cyI, 512, .inl w1)), (qmw, .inl (cyZ, 64, .inl WL1_31))]) (w1 := [(qm, .inr (4, [.ref qmd, .ref qmt, .int (nI n), .int (bI true), .int (kDec lf1), .int (nI (dn1 + 1)), .int pl, .ref qml, .int (nI k), .ref qmk, .int (nI mz), .ref qmh, .int (nI nh), .int th, .ref qmw]))]) hP hD [1] [0, 2, 3] rfl rfl (by decide) (by decide) hk1 hFc hP1 hD1
            generalize H1 = H at hP hS ⊢
            have hP : va_P (dC, dI) vwCl [(qmk, .inl (cyI, 460, .inl M)), (qmd, .inl (cyI, 512, .inl w1)), (qmw, .inl (cyZ, 64, .inl WL1_31)), (qm, .inr (4, [.ref qmd, .ref qmt, .int (nI n), .int (bI true), .int (kDec lf1), .int (nI (dn1 + 1)), .int pl, .ref qml, .int (nI k), .ref qmk, .int (nI mz), .ref qmh, .int (nI nh), .int th, .ref qmw]))] H := hP
            have hD : va_D A [(qmk, .inl (cyI, 460, .inl M)), (qmd, .inl (cyI, 512, .inl w1)), (qmw, .inl (cyZ, 64, .inl WL1_31)), (qm, .inr (4, [.ref qmd, .ref qmt, .int (nI n), .int (bI true), .int (kDec lf1), .int (nI (dn1 + 1)), .int pl, .ref qml, .int (nI k), .ref qmk, .int (nI mz), .ref qmh, .int (nI nh), .int th, .ref qmw]))] := hD
            refine lv_if_ne (tgt := 86) hx hb dX5_putRecord_80 (by decide) (fun c_80 => ?_) (fun c_80 => absurd c_80 (by decide))
            refine lv_bipush (v := nI 8) hx hb dX5_putRecord_86 (by decide) ?_
            refine lv_iload hx hb dX5_putRecord_88 (lv_at hl 6 rfl) ?_
            refine lv_imul hx hb dX5_putRecord_90 ?_
            refine zz_top (pk_mul 8 b) ?_
            refine lv_istore (lv' := [(8, .int (nI (8 * b))), (0, .ref qm), (1, .int ky), (2, .int (nI fm)), (3, .int (nI (zParts mz))), (4, .int ((kGr w 64) + (nI 1))), (5, .int (nI (fb_ct (kLive w) 64))), (6, .int (nI b)), (7, .int (nI q))]) hx hb dX5_putRecord_91 hl (by decide) rfl (fun ls hl => ?_)
            refine lv_aload_n hx hb dX5_putRecord_93 rfl (lv_at hl 1 rfl) ?_
            refine va_get (D := (dC, dI)) (ci := 4) (v := .ref qmd) (C := RX5) (T := TX5) (N := 15) hx hb hts iwX5 hown hK hP 3 rfl rfl 0 (by decide) fk7 (fun _ h9 => h9) rfl dX5_putRecord_94 ?_
            refine lv_iload hx hb dX5_putRecord_97 (lv_at hl 0 rfl) ?_
            refine lv_iload hx hb dX5_putRecord_99 (lv_at hl 5 rfl) ?_
            refine va_iast hx hb hK hP hD hS 1 0 rfl rfl (vp_in_nI (n := 8 * b) (by omega) (by decide)) dX5_putRecord_101 (fun H locs hP hD hS => ?_)
            rw [nI_clamp (n := 8 * b) (by omega)] at hP hD
            have hP : va_P (dC, dI) vwCl [(qmk, .inl (cyI, 460, .inl M)), (qmd, .inl (cyI, 512, .inl (upd w1 (8 * b) ((kGr w 64) + (nI 1))))), (qmw, .inl (cyZ, 64, .inl WL1_31)), (qm, .inr (4, [.ref qmd, .ref qmt, .int (nI n), .int (bI true), .int (kDec lf1), .int (nI (dn1 + 1)), .int pl, .ref qml, .int (nI k), .ref qmk, .int (nI mz), .ref qmh, .int (nI nh), .int th, .ref qmw]))] H := hP
            have hD : va_D A [(qmk, .inl (cyI, 460, .inl M)), (qmd, .inl (cyI, 512, .inl (upd w1 (8 * b) ((kGr w 64) + (nI 1))))), (qmw, .inl (cyZ, 64, .inl WL1_31)), (qm, .inr (4, [.ref qmd, .ref qmt, .int (nI n), .int (bI true), .int (kDec lf1), .int (nI (dn1 + 1)), .int pl, .ref qml, .int (nI k), .ref qmk, .int (nI mz), .ref qmh, .int (nI nh), .int th, .ref qmw]))] := hD
            refine lv_aload_n hx hb dX5_putRecord_102 rfl (lv_at hl 1 rfl) ?_
            refine va_get (D := (dC, dI)) (ci := 4) (v := .ref qmd) (C := RX5) (T := TX5) (N := 15) hx hb hts iwX5 hown hK hP 3 rfl rfl 0 (by decide) fk7 (fun _ h9 => h9) rfl dX5_putRecord_103 ?_
            refine lv_iload hx hb dX5_putRecord_106 (lv_at hl 0 rfl) ?_
            refine lv_iconst (v := nI 1) hx hb dX5_putRecord_108 (by decide) ?_
            refine lv_iadd hx hb dX5_putRecord_109 ?_
            refine zz_top (nI_add (8 * b) 1) ?_
            refine lv_iload hx hb dX5_putRecord_110 (lv_at hl 8 rfl) ?_
            refine lv_sipush (v := nI 256) hx hb dX5_putRecord_112 (by decide) ?_
            refine lv_iload_n hx hb dX5_putRecord_115 rfl (lv_at hl 4 rfl) ?_
            refine lv_imul hx hb dX5_putRecord_116 ?_
            refine zz_top (pk_mul 256 (zParts mz)) ?_
            refine lv_iadd hx hb dX5_putRecord_117 ?_
            refine zz_top (nI_add q (256 * (zParts mz))) ?_
            refine lv_ldc (v := nI 65536) hx hb hown (hts (.constant RX5 117 65536) (by decide +kernel)) dX5_putRecord_118 ?_
            refine lv_iload_n hx hb dX5_putRecord_120 rfl (lv_at hl 3 rfl) ?_
            refine lv_imul hx hb dX5_putRecord_121 ?_
            refine zz_top (pk_mul 65536 fm) ?_
            refine lv_iadd hx hb dX5_putRecord_122 ?_
            refine zz_top (nI_add (q + (256 * (zParts mz))) (65536 * fm)) ?_
            refine va_iast hx hb hK hP hD hS 1 0 rfl rfl (vp_in_nI (n := 8 * b + 1) (by omega) (by decide)) dX5_putRecord_123 (fun H locs hP hD hS => ?_)
            rw [nI_clamp (n := 8 * b + 1) (by omega)] at hP hD
            have hP : va_P (dC, dI) vwCl [(qmk, .inl (cyI, 460, .inl M)), (qmd, .inl (cyI, 512, .inl (upd (upd w1 (8 * b) ((kGr w 64) + (nI 1))) (8 * b + 1) (nI (q + (256 * (zParts mz)) + 65536 * fm))))), (qmw, .inl (cyZ, 64, .inl WL1_31)), (qm, .inr (4, [.ref qmd, .ref qmt, .int (nI n), .int (bI true), .int (kDec lf1), .int (nI (dn1 + 1)), .int pl, .ref qml, .int (nI k), .ref qmk, .int (nI mz), .ref qmh, .int (nI nh), .int th, .ref qmw]))] H := hP
            have hD : va_D A [(qmk, .inl (cyI, 460, .inl M)), (qmd, .inl (cyI, 512, .inl (upd (upd w1 (8 * b) ((kGr w 64) + (nI 1))) (8 * b + 1) (nI (q + (256 * (zParts mz)) + 65536 * fm))))), (qmw, .inl (cyZ, 64, .inl WL1_31)), (qm, .inr (4, [.ref qmd, .ref qmt, .int (nI n), .int (bI true), .int (kDec lf1), .int (nI (dn1 + 1)), .int pl, .ref qml, .int (nI k), .ref qmk, .int (nI mz), .ref qmh, .int (nI nh), .int th, .ref qmw]))] := hD
            refine lv_aload_n hx hb dX5_putRecord_124 rfl (lv_at hl 1 rfl) ?_
            refine va_get (D := (dC, dI)) (ci := 4) (v := .ref qmd) (C := RX5) (T := TX5) (N := 15) hx hb hts iwX5 hown hK hP 3 rfl rfl 0 (by decide) fk7 (fun _ h9 => h9) rfl dX5_putRecord_125 ?_
            refine lv_iload hx hb dX5_putRecord_128 (lv_at hl 0 rfl) ?_
            refine lv_iconst (v := nI 2) hx hb dX5_putRecord_130 (by decide) ?_
            refine lv_iadd hx hb dX5_putRecord_131 ?_
            refine zz_top (nI_add (8 * b) 2) ?_
            refine lv_iload_n hx hb dX5_putRecord_132 rfl (lv_at hl 2 rfl) ?_
            refine va_iast hx hb hK hP hD hS 1 0 rfl rfl (vp_in_nI (n := 8 * b + 2) (by omega) (by decide)) dX5_putRecord_133 (fun H locs hP hD hS => ?_)
            rw [nI_clamp (n := 8 * b + 2) (by omega)] at hP hD
            have hP : va_P (dC, dI) vwCl [(qmk, .inl (cyI, 460, .inl M)), (qmd, .inl (cyI, 512, .inl (upd (upd (upd w1 (8 * b) ((kGr w 64) + (nI 1))) (8 * b + 1) (nI (q + (256 * (zParts mz)) + 65536 * fm))) (8 * b + 2) ky))), (qmw, .inl (cyZ, 64, .inl WL1_31)), (qm, .inr (4, [.ref qmd, .ref qmt, .int (nI n), .int (bI true), .int (kDec lf1), .int (nI (dn1 + 1)), .int pl, .ref qml, .int (nI k), .ref qmk, .int (nI mz), .ref qmh, .int (nI nh), .int th, .ref qmw]))] H := hP
            have hD : va_D A [(qmk, .inl (cyI, 460, .inl M)), (qmd, .inl (cyI, 512, .inl (upd (upd (upd w1 (8 * b) ((kGr w 64) + (nI 1))) (8 * b + 1) (nI (q + (256 * (zParts mz)) + 65536 * fm))) (8 * b + 2) ky))), (qmw, .inl (cyZ, 64, .inl WL1_31)), (qm, .inr (4, [.ref qmd, .ref qmt, .int (nI n), .int (bI true), .int (kDec lf1), .int (nI (dn1 + 1)), .int pl, .ref qml, .int (nI k), .ref qmk, .int (nI mz), .ref qmh, .int (nI nh), .int th, .ref qmw]))] := hD
            refine lv_aload_n hx hb dX5_putRecord_134 rfl (lv_at hl 1 rfl) ?_
            refine va_get (D := (dC, dI)) (ci := 4) (v := .ref qmd) (C := RX5) (T := TX5) (N := 15) hx hb hts iwX5 hown hK hP 3 rfl rfl 0 (by decide) fk7 (fun _ h9 => h9) rfl dX5_putRecord_135 ?_
            refine lv_iload hx hb dX5_putRecord_138 (lv_at hl 0 rfl) ?_
            refine lv_iconst (v := nI 3) hx hb dX5_putRecord_140 (by decide) ?_
            refine lv_iadd hx hb dX5_putRecord_141 ?_
            refine zz_top (nI_add (8 * b) 3) ?_
            refine lv_aload_n hx hb dX5_putRecord_142 rfl (lv_at hl 1 rfl) ?_
            refine va_get (D := (dC, dI)) (ci := 4) (v := .int (nI mz)) (C := RX5) (T := TX5) (N := 15) hx hb hts iwX5 hown hK hP 3 rfl rfl 10 (by decide) fk51 (fun _ h9 => h9) rfl dX5_putRecord_143 ?_
            refine va_iast hx hb hK hP hD hS 1 0 rfl rfl (vp_in_nI (n := 8 * b + 3) (by omega) (by decide)) dX5_putRecord_146 (fun H locs hP hD hS => ?_)
            rw [nI_clamp (n := 8 * b + 3) (by omega)] at hP hD
            have hP : va_P (dC, dI) vwCl [(qmk, .inl (cyI, 460, .inl M)), (qmd, .inl (cyI, 512, .inl (upd (upd (upd (upd w1 (8 * b) ((kGr w 64) + (nI 1))) (8 * b + 1) (nI (q + (256 * (zParts mz)) + 65536 * fm))) (8 * b + 2) ky) (8 * b + 3) (nI mz)))), (qmw, .inl (cyZ, 64, .inl WL1_31)), (qm, .inr (4, [.ref qmd, .ref qmt, .int (nI n), .int (bI true), .int (kDec lf1), .int (nI (dn1 + 1)), .int pl, .ref qml, .int (nI k), .ref qmk, .int (nI mz), .ref qmh, .int (nI nh), .int th, .ref qmw]))] H := hP
            have hD : va_D A [(qmk, .inl (cyI, 460, .inl M)), (qmd, .inl (cyI, 512, .inl (upd (upd (upd (upd w1 (8 * b) ((kGr w 64) + (nI 1))) (8 * b + 1) (nI (q + (256 * (zParts mz)) + 65536 * fm))) (8 * b + 2) ky) (8 * b + 3) (nI mz)))), (qmw, .inl (cyZ, 64, .inl WL1_31)), (qm, .inr (4, [.ref qmd, .ref qmt, .int (nI n), .int (bI true), .int (kDec lf1), .int (nI (dn1 + 1)), .int pl, .ref qml, .int (nI k), .ref qmk, .int (nI mz), .ref qmh, .int (nI nh), .int th, .ref qmw]))] := hD
            refine lv_iconst (v := nI 0) hx hb dX5_putRecord_147 (by decide) ?_
            refine lv_istore (lv' := [(9, .int (nI 0)), (8, .int (nI (8 * b))), (0, .ref qm), (1, .int ky), (2, .int (nI fm)), (3, .int (nI (zParts mz))), (4, .int ((kGr w 64) + (nI 1))), (5, .int (nI (fb_ct (kLive w) 64))), (6, .int (nI b)), (7, .int (nI q))]) hx hb dX5_putRecord_148 hl (by decide) rfl (fun ls hl => ?_)
            refine zz_loopW (pc := 150) (μ := fun (x : Nat × (Nat → Int32)) => match x with | (j, w2) => 4 - j) (Inv := fun (x : Nat × (Nat → Int32)) (H : Heap) (locs : List Loc) (ls : Array Slot) => match x with | (j, w2) => (j ≤ 4) ∧ (w2 = fb_put w1 ((zRow (kGr w 64 + nI 1) (zParts mz) fm ky mz M) q) (8 * b) (4 + j)) ∧ va_P (dC, dI) vwCl [(qmk, .inl (cyI, 460, .inl M)), (qmd, .inl (cyI, 512, .inl w2)), (qmw, .inl (cyZ, 64, .inl WL1_31)), (qm, .inr (4, [.ref qmd, .ref qmt, .int (nI n), .int (bI true), .int (kDec lf1), .int (nI (dn1 + 1)), .int pl, .ref qml, .int (nI k), .ref qmk, .int (nI mz), .ref qmh, .int (nI nh), .int th, .ref qmw]))] H ∧ va_D A [(qmk, .inl (cyI, 460, .inl M)), (qmd, .inl (cyI, 512, .inl w2)), (qmw, .inl (cyZ, 64, .inl WL1_31)), (qm, .inr (4, [.ref qmd, .ref qmt, .int (nI n), .int (bI true), .int (kDec lf1), .int (nI (dn1 + 1)), .int pl, .ref qml, .int (nI k), .ref qmk, .int (nI mz), .ref qmh, .int (nI nh), .int th, .ref qmw]))] ∧ va_S A sS.heap H locs ∧ lv_has ls 10 [(0, .ref qm), (1, .int ky), (2, .int (nI fm)), (3, .int (nI (zParts mz))), (4, .int ((kGr w 64) + (nI 1))), (5, .int (nI (fb_ct (kLive w) 64))), (6, .int (nI b)), (7, .int (nI q)), (8, .int (nI (8 * b))), (9, .int (nI j))]) (x0 := (0, upd (upd (upd (upd w1 (8 * b) ((kGr w 64) + (nI 1))) (8 * b + 1) (nI (q + (256 * (zParts mz)) + 65536 * fm))) (8 * b + 2) ky) (8 * b + 3) (nI mz))) ⟨by omega, fb_put4 w1 ((zRow (kGr w 64 + nI 1) (zParts mz) fm ky mz M) q) (8 * b), hP, hD, hS, lv_sub hl [2, 3, 4, 5, 6, 7, 8, 9, 1, 0] rfl⟩ ?_
            intro ⟨j, w2⟩ H locs ls hI ih150
            obtain ⟨hj9, hw2, hP, hD, hS, hl⟩ := hI
            have hl : lv_has ls 10 [(0, .ref qm), (1, .int ky), (2, .int (nI fm)), (3, .int (nI (zParts mz))), (4, .int ((kGr w 64) + (nI 1))), (5, .int (nI (fb_ct (kLive w) 64))), (6, .int (nI b)), (7, .int (nI q)), (8, .int (nI (8 * b))), (9, .int (nI j))] := hl
            have hP : va_P (dC, dI) vwCl [(qmk, .inl (cyI, 460, .inl M)), (qmd, .inl (cyI, 512, .inl w2)), (qmw, .inl (cyZ, 64, .inl WL1_31)), (qm, .inr (4, [.ref qmd, .ref qmt, .int (nI n), .int (bI true), .int (kDec lf1), .int (nI (dn1 + 1)), .int pl, .ref qml, .int (nI k), .ref qmk, .int (nI mz), .ref qmh, .int (nI nh), .int th, .ref qmw]))] H := hP
            have hD : va_D A [(qmk, .inl (cyI, 460, .inl M)), (qmd, .inl (cyI, 512, .inl w2)), (qmw, .inl (cyZ, 64, .inl WL1_31)), (qm, .inr (4, [.ref qmd, .ref qmt, .int (nI n), .int (bI true), .int (kDec lf1), .int (nI (dn1 + 1)), .int pl, .ref qml, .int (nI k), .ref qmk, .int (nI mz), .ref qmh, .int (nI nh), .int th, .ref qmw]))] := hD
            have hj9 : j ≤ 4 := hj9
            have hw2 : w2 = fb_put w1 ((zRow (kGr w 64 + nI 1) (zParts mz) fm ky mz M) q) (8 * b) (4 + j) := hw2
            refine lv_iload hx hb dX5_putRecord_150 (lv_at hl 9 rfl) ?_
            refine lv_iconst (v := nI 4) hx hb dX5_putRecord_152 (by decide) ?_
            refine zn_icmp_ge (tgt := 188) hx hb dX5_putRecord_153 (by decide) (by omega) (by omega) (fun c_153 => ?_) (fun c_153 => ?_)
            ·
              refine lv_iinc (v := nI (b + 1)) (lv' := [(6, .int (nI (b + 1))), (0, .ref qm), (1, .int ky), (2, .int (nI fm)), (3, .int (nI (zParts mz))), (4, .int ((kGr w 64) + (nI 1))), (5, .int (nI (fb_ct (kLive w) 64))), (7, .int (nI q)), (8, .int (nI (8 * b))), (9, .int (nI j))]) hx hb dX5_putRecord_188 hl (k := 6) rfl (nI_add b 1) (by decide) rfl (fun ls hl => ?_)
              refine lv_iinc (v := nI (q + 1)) (lv' := [(7, .int (nI (q + 1))), (6, .int (nI (b + 1))), (0, .ref qm), (1, .int ky), (2, .int (nI fm)), (3, .int (nI (zParts mz))), (4, .int ((kGr w 64) + (nI 1))), (5, .int (nI (fb_ct (kLive w) 64))), (8, .int (nI (8 * b))), (9, .int (nI j))]) hx hb dX5_putRecord_191 hl (k := 7) rfl (nI_add q 1) (by decide) rfl (fun ls hl => ?_)
              refine lv_goto (tgt := 54) hx hb dX5_putRecord_194 (by decide) ?_
              have ej : j = 4 := by omega
              subst ej
              subst hw2
              have hP := hP.sub (ws' := [(qmk, .inl (cyI, 460, .inl M)), (qm, .inr (4, [.ref qmd, .ref qmt, .int (nI n), .int (bI true), .int (kDec lf1), .int (nI (dn1 + 1)), .int pl, .ref qml, .int (nI k), .ref qmk, .int (nI mz), .ref qmh, .int (nI nh), .int th, .ref qmw])), (qmd, .inl (cyI, 512, .inl (fb_put w1 ((zRow (kGr w 64 + nI 1) (zParts mz) fm ky mz M) q) (8 * b) (4 + 4)))), (qmw, .inl (cyZ, 64, .inl WL1_31))]) [0, 3, 1, 2] rfl
              have hD := hD.sub (ws' := [(qmk, .inl (cyI, 460, .inl M)), (qm, .inr (4, [.ref qmd, .ref qmt, .int (nI n), .int (bI true), .int (kDec lf1), .int (nI (dn1 + 1)), .int pl, .ref qml, .int (nI k), .ref qmk, .int (nI mz), .ref qmh, .int (nI nh), .int th, .ref qmw])), (qmd, .inl (cyI, 512, .inl (fb_put w1 ((zRow (kGr w 64 + nI 1) (zParts mz) fm ky mz M) q) (8 * b) (4 + 4)))), (qmw, .inl (cyZ, 64, .inl WL1_31))]) [0, 3, 1, 2] (by decide) rfl
              -- cell qmd: .inl (cyI, 512, .inl (fb_put w1 ((zRow (kGr w 64 + nI 1) (zParts mz) fm ky mz M) q) (8 * b) (4 + 4))) ~ .inl (cyI, 512, .inl (fb_put w1 ((zRow (kGr w 64 + nI 1) (zParts mz) fm ky mz M) q) (8 * b) 8))
              exact ih54 (b + 1, q + 1, f9, fb_put w1 ((zRow (kGr w 64 + nI 1) (zParts mz) fm ky mz M) q) (8 * b) 8, kDec lf1, dn1 + 1) _ _ _ ⟨by omega, by omega, by omega, by omega, by omega, by omega, (kPutF_put c_57 c_67 hz).symm.trans hE, hP, hD, hS, lv_sub hl [2, 3, 4, 5, 6, 7, 1, 0] rfl⟩ (by first | omega | (dsimp only; omega))
            ·
              refine lv_aload_n hx hb dX5_putRecord_156 rfl (lv_at hl 0 rfl) ?_
              refine va_get (D := (dC, dI)) (ci := 4) (v := .ref qmd) (C := RX5) (T := TX5) (N := 15) hx hb hts iwX5 hown hK hP 3 rfl rfl 0 (by decide) fk7 (fun _ h9 => h9) rfl dX5_putRecord_157 ?_
              refine lv_iload hx hb dX5_putRecord_160 (lv_at hl 8 rfl) ?_
              refine lv_iconst (v := nI 4) hx hb dX5_putRecord_162 (by decide) ?_
              refine lv_iadd hx hb dX5_putRecord_163 ?_
              refine zz_top (nI_add (8 * b) 4) ?_
              refine lv_iload hx hb dX5_putRecord_164 (lv_at hl 9 rfl) ?_
              refine lv_iadd hx hb dX5_putRecord_166 ?_
              refine zz_top (nI_add (8 * b + 4) j) ?_
              refine lv_aload_n hx hb dX5_putRecord_167 rfl (lv_at hl 0 rfl) ?_
              refine lv_bipush (v := nI 16) hx hb dX5_putRecord_168 (by decide) ?_
              refine lv_iload hx hb dX5_putRecord_170 (lv_at hl 7 rfl) ?_
              refine lv_imul hx hb dX5_putRecord_172 ?_
              refine zz_top (pk_mul 16 q) ?_
              refine lv_iconst (v := nI 4) hx hb dX5_putRecord_173 (by decide) ?_
              refine lv_iload hx hb dX5_putRecord_174 (lv_at hl 9 rfl) ?_
              refine lv_imul hx hb dX5_putRecord_176 ?_
              refine zz_top (pk_mul 4 j) ?_
              refine lv_iadd hx hb dX5_putRecord_177 ?_
              refine zz_top (nI_add (16 * q) (4 * j)) ?_
              have hPc := hP.sub (ws' := [(qm, .inr (4, [.ref qmd, .ref qmt, .int (nI n), .int (bI true), .int (kDec lf1), .int (nI (dn1 + 1)), .int pl, .ref qml, .int (nI k), .ref qmk, .int (nI mz), .ref qmh, .int (nI nh), .int th, .ref qmw])), (qmk, .inl (cyI, 460, .inl M))]) [3, 0] rfl
              have hKc := hK.sub (tys' := [(cyI, .int), (cyZ, .boolean)]) [0, 1] rfl
              refine vp_callSi (va_Run.run (va_runV (As := [.int (nI (16 * q + 4 * j))]) (rest := [.int (nI (8 * b + 4 + j)), .ref qmd]) ⟨hx, hb, hml, hown, hts⟩ (c_X5_word4 l dC dI cyI cyZ qm qmk qmd qmt qml qmh qmw n true (kDec lf1) (dn1 + 1) pl k mz nh th M (16 * q + 4 * j) (by omega) (by omega)) (cwV 1 hts gX5_putRecord_X5_word4 rfl rfl rfl (by decide +kernel) ⟨Nat.le_of_ble_eq_true rfl, Nat.le_of_ble_eq_true rfl⟩) ⟨zz_blR, va_recv hKc hPc (ci := 4) (q0 := 0) rfl rfl, fun U hU hW => ⟨rfl, by rw [hU]; exact hPc, va_K.moved hW.alike hKc⟩⟩ rfl rfl hl.1 rfl (lv_room (Nat.le_of_ble_eq_true rfl)) dX5_putRecord_178 ⟨Nat.zero_le _, Nat.zero_le _⟩)) (fun r_178 hr_178 => ?_)
              have hr_178 : zfour M mz (16 * q + 4 * j) = r_178 := Eq.symm hr_178
              subst hr_178
              refine va_iast hx hb hK hP hD hS 1 0 rfl rfl (vp_in_nI (n := 8 * b + 4 + j) (by omega) (by decide)) dX5_putRecord_181 (fun H locs hP hD hS => ?_)
              rw [nI_clamp (n := 8 * b + 4 + j) (by omega)] at hP hD
              have hP : va_P (dC, dI) vwCl [(qmk, .inl (cyI, 460, .inl M)), (qmd, .inl (cyI, 512, .inl (upd w2 (8 * b + 4 + j) (zfour M mz (16 * q + 4 * j))))), (qmw, .inl (cyZ, 64, .inl WL1_31)), (qm, .inr (4, [.ref qmd, .ref qmt, .int (nI n), .int (bI true), .int (kDec lf1), .int (nI (dn1 + 1)), .int pl, .ref qml, .int (nI k), .ref qmk, .int (nI mz), .ref qmh, .int (nI nh), .int th, .ref qmw]))] H := hP
              have hD : va_D A [(qmk, .inl (cyI, 460, .inl M)), (qmd, .inl (cyI, 512, .inl (upd w2 (8 * b + 4 + j) (zfour M mz (16 * q + 4 * j))))), (qmw, .inl (cyZ, 64, .inl WL1_31)), (qm, .inr (4, [.ref qmd, .ref qmt, .int (nI n), .int (bI true), .int (kDec lf1), .int (nI (dn1 + 1)), .int pl, .ref qml, .int (nI k), .ref qmk, .int (nI mz), .ref qmh, .int (nI nh), .int th, .ref qmw]))] := hD
              refine lv_iinc (v := nI (j + 1)) (lv' := [(9, .int (nI (j + 1))), (0, .ref qm), (1, .int ky), (2, .int (nI fm)), (3, .int (nI (zParts mz))), (4, .int ((kGr w 64) + (nI 1))), (5, .int (nI (fb_ct (kLive w) 64))), (6, .int (nI b)), (7, .int (nI q)), (8, .int (nI (8 * b)))]) hx hb dX5_putRecord_182 hl (k := 9) rfl (nI_add j 1) (by decide) rfl (fun ls hl => ?_)
              refine lv_goto (tgt := 150) hx hb dX5_putRecord_185 (by decide) ?_
              exact ih150 (j + 1, upd w2 (8 * b + 4 + j) (zfour M mz (16 * q + 4 * j))) _ _ _ ⟨by omega, by rw [hw2, ← zRow_4 (rn := kGr w 64 + nI 1) (ps := zParts mz) (fm := fm) (ky := ky), Nat.add_assoc]; exact fb_put_succ w1 ((zRow (kGr w 64 + nI 1) (zParts mz) fm ky mz M) q) (8 * b) (4 + j), hP, hD, hS, lv_sub hl [1, 2, 3, 4, 5, 6, 7, 8, 9, 0] rfl⟩ (by first | omega | (dsimp only; omega))
        ·
          obtain ⟨f9, e9⟩ : ∃ f9, f = f9 + 1 := ⟨f - 1, by omega⟩
          subst e9
          have ect := kct_y (q := kLive w) (k := b) c_67
          have hcb := fb_ct_le (kLive w) b
          refine lv_iinc (v := nI (b + 1)) (lv' := [(6, .int (nI (b + 1))), (0, .ref qm), (1, .int ky), (2, .int (nI fm)), (3, .int (nI (zParts mz))), (4, .int ((kGr w 64) + (nI 1))), (5, .int (nI (fb_ct (kLive w) 64))), (7, .int (nI q))]) hx hb dX5_putRecord_70 hl (k := 6) rfl (nI_add b 1) (by decide) rfl (fun ls hl => ?_)
          refine lv_goto (tgt := 60) hx hb dX5_putRecord_73 (by decide) ?_
          have hfr2 : zParts mz + (b + 1 - fb_ct (kLive w) (b + 1)) ≤ (64 - fb_ct (kLive w) 64) + q := by omega
          have hb8 := fb_free (b := b + 1) (by omega) c_57 hfr2
          exact ih60 (b + 1, f9) _ _ _ ⟨by omega, by omega, by omega, hfr2, by omega, (kPutF_live c_57 c_67).symm.trans hE, hb8, hP, hD, hS, lv_sub hl [1, 2, 3, 4, 5, 6, 0, 7] rfl⟩ (by first | omega | (dsimp only; omega))
    ·
      refine lv_bipush (v := (-3)) hx hb dX5_putRecord_45 (by decide) ?_
      -- qm : .inr (4, [.ref qmd, .ref qmt, .int (nI n), .int (bI true), .int lf, .int (nI dn), .int pl, .ref qml, .int (nI k), .ref qmk, .int (nI mz), .ref qmh, .int (nI nh), .int th, .ref qmw])  ~  .inr (4, [.ref qmd, .ref qmt, .int (nI n), .int (bI true), .int (kUn true lf), .int (nI dn), .int pl, .ref qml, .int (nI k), .ref qmk, .int (nI mz), .ref qmh, .int (nI nh), .int th, .ref qmw])
      have hP9 := hP.sub (ws' := [(qm, .inr (4, [.ref qmd, .ref qmt, .int (nI n), .int (bI true), .int (kUn true lf), .int (nI dn), .int pl, .ref qml, .int (nI k), .ref qmk, .int (nI mz), .ref qmh, .int (nI nh), .int th, .ref qmw])), (qmd, .inl (cyI, 512, .inl w)), (qmk, .inl (cyI, 460, .inl M)), (qmw, .inl (cyZ, 64, .inl WL1_31))]) [1, 2, 0, 3] rfl
      have hD9 := hD.sub (ws' := [(qm, .inr (4, [.ref qmd, .ref qmt, .int (nI n), .int (bI true), .int (kUn true lf), .int (nI dn), .int pl, .ref qml, .int (nI k), .ref qmk, .int (nI mz), .ref qmh, .int (nI nh), .int th, .ref qmw])), (qmd, .inl (cyI, 512, .inl w)), (qmk, .inl (cyI, 460, .inl M)), (qmw, .inl (cyZ, 64, .inl WL1_31))]) [1, 2, 0, 3] (by decide) rfl
      have hK9 := hK.sub (tys' := [(cyI, .int), (cyZ, .boolean)]) [0, 1] rfl
      exact W.iret hx hb hr (fun tS ht hW => ⟨⟨_, (true, w, lf, dn, WL1_31), rfl, ⟨(kPut_room c_42).symm, by omega⟩, by rw [ht]; exact hP9, va_K.moved hW.alike hK9, hD9⟩, hS.F ht⟩) hS.2.2 dX5_putRecord_47
  ·
    refine lv_iconst (v := nI 1) hx hb dX5_putRecord_7 (by decide) ?_
    refine lv_goto (tgt := 21) hx hb dX5_putRecord_8 (by decide) ?_
    refine zz_top (show nI 1 = nI (zParts mz) from congrArg nI (by unfold zParts; split <;> omega)) ?_
    refine lv_istore_n (lv' := [(3, .int (nI (zParts mz))), (0, .ref qm), (1, .int ky), (2, .int (nI fm))]) hx hb dX5_putRecord_21 rfl hl (by decide) rfl (fun ls hl => ?_)
    refine lv_aload_n hx hb dX5_putRecord_22 rfl (lv_at hl 1 rfl) ?_
    have hPc := hP.sub (ws' := [(qm, .inr (4, [.ref qmd, .ref qmt, .int (nI n), .int (bI true), .int lf, .int (nI dn), .int pl, .ref qml, .int (nI k), .ref qmk, .int (nI mz), .ref qmh, .int (nI nh), .int th, .ref qmw])), (qmd, .inl (cyI, 512, .inl w))]) [0, 1] rfl
    have hKc := hK.sub (tys' := [(cyI, .int), (cyZ, .boolean)]) [0, 1] rfl
    refine vp_callSi (va_Run.run (va_runV (As := []) (rest := []) ⟨hx, hb, hml, hown, hts⟩ (c_X5_greatest l dC dI cyI cyZ qm qmd qmt qml qmk qmh qmw n true lf dn pl k mz nh th w) (cwV 0 hts gX5_putRecord_X5_greatest rfl rfl rfl (by decide +kernel) ⟨Nat.le_of_ble_eq_true rfl, Nat.le_of_ble_eq_true rfl⟩) ⟨zz_blR, va_recv hKc hPc (ci := 4) (q0 := 0) rfl rfl, fun U hU hW => ⟨rfl, by rw [hU]; exact hPc, va_K.moved hW.alike hKc⟩⟩ rfl rfl hl.1 rfl (lv_room (Nat.le_of_ble_eq_true rfl)) dX5_putRecord_23 ⟨Nat.zero_le _, Nat.zero_le _⟩)) (fun r_23 hr_23 => ?_)
    have hr_23 : kGr w 64 = r_23 := Eq.symm hr_23
    subst hr_23
    refine lv_iconst (v := nI 1) hx hb dX5_putRecord_26 (by decide) ?_
    refine lv_iadd hx hb dX5_putRecord_27 ?_
    refine lv_istore (lv' := [(4, .int ((kGr w 64) + (nI 1))), (3, .int (nI (zParts mz))), (0, .ref qm), (1, .int ky), (2, .int (nI fm))]) hx hb dX5_putRecord_28 hl (by decide) rfl (fun ls hl => ?_)
    refine lv_aload_n hx hb dX5_putRecord_30 rfl (lv_at hl 2 rfl) ?_
    have hPc := hP.sub (ws' := [(qm, .inr (4, [.ref qmd, .ref qmt, .int (nI n), .int (bI true), .int lf, .int (nI dn), .int pl, .ref qml, .int (nI k), .ref qmk, .int (nI mz), .ref qmh, .int (nI nh), .int th, .ref qmw])), (qmd, .inl (cyI, 512, .inl w)), (qmw, .inl (cyZ, 64, .inl WL))]) [0, 1, 3] rfl
    have hKc := hK.sub (tys' := [(cyI, .int), (cyZ, .boolean)]) [0, 1] rfl
    have hDc := hD.sub (ws' := [(qm, .inr (4, [.ref qmd, .ref qmt, .int (nI n), .int (bI true), .int lf, .int (nI dn), .int pl, .ref qml, .int (nI k), .ref qmk, .int (nI mz), .ref qmh, .int (nI nh), .int th, .ref qmw])), (qmd, .inl (cyI, 512, .inl w)), (qmw, .inl (cyZ, 64, .inl WL))]) [0, 1, 3] (by decide) rfl
    have hFc := va_free (wc := [(qm, .inr (4, [.ref qmd, .ref qmt, .int (nI n), .int (bI true), .int lf, .int (nI dn), .int pl, .ref qml, .int (nI k), .ref qmk, .int (nI mz), .ref qmh, .int (nI nh), .int th, .ref qmw])), (qmd, .inl (cyI, 512, .inl w)), (qmw, .inl (cyZ, 64, .inl WL))]) hD hS hA [0, 1, 3] rfl
    refine va_calli (va_runV (As := []) (rest := []) ⟨hx, hb, hml, hown, hts⟩ (c_X5_findLive l dC dI cyI cyZ qm qmd qmw qmt qml qmk qmh sS.heap.size n true lf dn pl k mz nh th w WL (HP0)) (cwV 0 hts gX5_putRecord_X5_findLive rfl rfl rfl (by decide +kernel) ⟨Nat.le_of_ble_eq_true rfl, Nat.le_of_ble_eq_true rfl⟩) ⟨zz_blW, va_recv hKc hPc (ci := 4) (q0 := 0) rfl rfl, fun U hU hW => ⟨rfl, by rw [hU], by rw [hU]; exact hPc, va_K.moved hW.alike hKc, hDc.weaken (fun _ _ _ _ => trivial)⟩⟩ rfl rfl hl.1 rfl (lv_room (Nat.le_of_ble_eq_true rfl)) dX5_putRecord_31 ⟨Nat.zero_le _, Nat.zero_le _⟩) hS (fun q _ h => hFc q h) hFc (fun r_31 uU tS H1 locs ht9 hvm9 hw9 hB9 hz1 hk1 hS => ?_)
    obtain ⟨WL1_31, rfl⟩ : ∃ z, z = uU := ⟨_, rfl⟩
    obtain ⟨hP1, hK1, hD1⟩ := hB9
    have hw9 : (r_31 = nI (fb_ct (kLive w) 64)) ∧ (∀ j, j < 64 → WL1_31 j = bI (kLive w j)) := hw9
    obtain ⟨hr_31, HWL_31⟩ := hw9
    have hr_31 := Eq.symm hr_31
    subst hr_31
    rw [ht9] at hP1
    have hK1 := va_K.moved hvm9.symm hK1
    obtain ⟨hP, hD⟩ := va_join (wr := [(qmk, .inl (cyI, 460, .inl M))]) (w1 := [(qm, .inr (4, [.ref qmd, .ref qmt, .int (nI n), .int (bI true), .int lf, .int (nI dn), .int pl, .ref qml, .int (nI k), .ref qmk, .int (nI mz), .ref qmh, .int (nI nh), .int th, .ref qmw])), (qmd, .inl (cyI, 512, .inl w)), (qmw, .inl (cyZ, 64, .inl WL1_31))]) hP hD [0, 1, 3] [2] rfl rfl (by decide) (by decide) hk1 hFc hP1 hD1
    generalize H1 = H at hP hS ⊢
    have hP : va_P (dC, dI) vwCl [(qmk, .inl (cyI, 460, .inl M)), (qm, .inr (4, [.ref qmd, .ref qmt, .int (nI n), .int (bI true), .int lf, .int (nI dn), .int pl, .ref qml, .int (nI k), .ref qmk, .int (nI mz), .ref qmh, .int (nI nh), .int th, .ref qmw])), (qmd, .inl (cyI, 512, .inl w)), (qmw, .inl (cyZ, 64, .inl WL1_31))] H := hP
    have hD : va_D A [(qmk, .inl (cyI, 460, .inl M)), (qm, .inr (4, [.ref qmd, .ref qmt, .int (nI n), .int (bI true), .int lf, .int (nI dn), .int pl, .ref qml, .int (nI k), .ref qmk, .int (nI mz), .ref qmh, .int (nI nh), .int th, .ref qmw])), (qmd, .inl (cyI, 512, .inl w)), (qmw, .inl (cyZ, 64, .inl WL1_31))] := hD
    refine lv_istore (lv' := [(5, .int (nI (fb_ct (kLive w) 64))), (4, .int ((kGr w 64) + (nI 1))), (3, .int (nI (zParts mz))), (0, .ref qm), (1, .int ky), (2, .int (nI fm))]) hx hb dX5_putRecord_34 hl (by decide) rfl (fun ls hl => ?_)
    refine lv_bipush (v := nI 64) hx hb dX5_putRecord_36 (by decide) ?_
    refine lv_iload hx hb dX5_putRecord_38 (lv_at hl 0 rfl) ?_
    refine lv_isub hx hb dX5_putRecord_40 ?_
    refine zz_top (pk_sub (a := 64) (b := fb_ct (kLive w) 64) (by omega)) ?_
    refine lv_iload_n hx hb dX5_putRecord_41 rfl (lv_at hl 2 rfl) ?_
    refine zn_icmp_ge (tgt := 48) hx hb dX5_putRecord_42 (by decide) (by omega) (by omega) (fun c_42 => ?_) (fun c_42 => ?_)
    ·
      refine lv_iconst (v := nI 0) hx hb dX5_putRecord_48 (by decide) ?_
      refine lv_istore (lv' := [(6, .int (nI 0)), (5, .int (nI (fb_ct (kLive w) 64))), (4, .int ((kGr w 64) + (nI 1))), (3, .int (nI (zParts mz))), (0, .ref qm), (1, .int ky), (2, .int (nI fm))]) hx hb dX5_putRecord_49 hl (by decide) rfl (fun ls hl => ?_)
      refine lv_iconst (v := nI 0) hx hb dX5_putRecord_51 (by decide) ?_
      refine lv_istore (lv' := [(7, .int (nI 0)), (6, .int (nI 0)), (5, .int (nI (fb_ct (kLive w) 64))), (4, .int ((kGr w 64) + (nI 1))), (3, .int (nI (zParts mz))), (0, .ref qm), (1, .int ky), (2, .int (nI fm))]) hx hb dX5_putRecord_52 hl (by decide) rfl (fun ls hl => ?_)
      refine zz_loopW (pc := 54) (μ := fun (x : Nat × Nat × Nat × (Nat → Int32) × Int32 × Nat) => match x with | (b, q, f, w1, lf1, dn1) => 64 - q) (Inv := fun (x : Nat × Nat × Nat × (Nat → Int32) × Int32 × Nat) (H : Heap) (locs : List Loc) (ls : Array Slot) => match x with | (b, q, f, w1, lf1, dn1) => (b ≤ 64) ∧ (b + f = 64) ∧ (q ≤ b) ∧ (zParts mz + (b - fb_ct (kLive w) b) ≤ (64 - fb_ct (kLive w) 64) + q) ∧ (dn ≤ dn1) ∧ (dn1 ≤ dn + b) ∧ (kPutF (kLive w) (zRow (kGr w 64 + nI 1) (zParts mz) fm ky mz M) (zParts mz) f b q w1 lf1 dn1 = Z0) ∧ va_P (dC, dI) vwCl [(qmk, .inl (cyI, 460, .inl M)), (qm, .inr (4, [.ref qmd, .ref qmt, .int (nI n), .int (bI true), .int lf1, .int (nI dn1), .int pl, .ref qml, .int (nI k), .ref qmk, .int (nI mz), .ref qmh, .int (nI nh), .int th, .ref qmw])), (qmd, .inl (cyI, 512, .inl w1)), (qmw, .inl (cyZ, 64, .inl WL1_31))] H ∧ va_D A [(qmk, .inl (cyI, 460, .inl M)), (qm, .inr (4, [.ref qmd, .ref qmt, .int (nI n), .int (bI true), .int lf1, .int (nI dn1), .int pl, .ref qml, .int (nI k), .ref qmk, .int (nI mz), .ref qmh, .int (nI nh), .int th, .ref qmw])), (qmd, .inl (cyI, 512, .inl w1)), (qmw, .inl (cyZ, 64, .inl WL1_31))] ∧ va_S A sS.heap H locs ∧ lv_has ls 10 [(0, .ref qm), (1, .int ky), (2, .int (nI fm)), (3, .int (nI (zParts mz))), (4, .int ((kGr w 64) + (nI 1))), (5, .int (nI (fb_ct (kLive w) 64))), (6, .int (nI b)), (7, .int (nI q))]) (x0 := (0, 0, 64, w, lf, dn)) ⟨by omega, by omega, by omega, by show zParts mz + (0 - 0) ≤ _; omega, by omega, by omega, hZ0.symm, hP, hD, hS, lv_sub hl [5, 6, 7, 4, 3, 2, 1, 0] rfl⟩ ?_
      intro ⟨b, q, f, w1, lf1, dn1⟩ H locs ls hI ih54
      obtain ⟨hb9, hf, hq9, hfr, hd1, hd2, hE, hP, hD, hS, hl⟩ := hI
      have hl : lv_has ls 10 [(0, .ref qm), (1, .int ky), (2, .int (nI fm)), (3, .int (nI (zParts mz))), (4, .int ((kGr w 64) + (nI 1))), (5, .int (nI (fb_ct (kLive w) 64))), (6, .int (nI b)), (7, .int (nI q))] := hl
      have hP : va_P (dC, dI) vwCl [(qmk, .inl (cyI, 460, .inl M)), (qm, .inr (4, [.ref qmd, .ref qmt, .int (nI n), .int (bI true), .int lf1, .int (nI dn1), .int pl, .ref qml, .int (nI k), .ref qmk, .int (nI mz), .ref qmh, .int (nI nh), .int th, .ref qmw])), (qmd, .inl (cyI, 512, .inl w1)), (qmw, .inl (cyZ, 64, .inl WL1_31))] H := hP
      have hD : va_D A [(qmk, .inl (cyI, 460, .inl M)), (qm, .inr (4, [.ref qmd, .ref qmt, .int (nI n), .int (bI true), .int lf1, .int (nI dn1), .int pl, .ref qml, .int (nI k), .ref qmk, .int (nI mz), .ref qmh, .int (nI nh), .int th, .ref qmw])), (qmd, .inl (cyI, 512, .inl w1)), (qmw, .inl (cyZ, 64, .inl WL1_31))] := hD
      have hb9 : b ≤ 64 := hb9
      have hf : b + f = 64 := hf
      have hq9 : q ≤ b := hq9
      have hfr : zParts mz + (b - fb_ct (kLive w) b) ≤ (64 - fb_ct (kLive w) 64) + q := hfr
      have hd1 : dn ≤ dn1 := hd1
      have hd2 : dn1 ≤ dn + b := hd2
      have hE : kPutF (kLive w) (zRow (kGr w 64 + nI 1) (zParts mz) fm ky mz M) (zParts mz) f b q w1 lf1 dn1 = Z0 := hE
      refine lv_iload hx hb dX5_putRecord_54 (lv_at hl 7 rfl) ?_
      refine lv_iload_n hx hb dX5_putRecord_56 rfl (lv_at hl 3 rfl) ?_
      refine zn_icmp_ge (tgt := 197) hx hb dX5_putRecord_57 (by decide) (by omega) (by omega) (fun c_57 => ?_) (fun c_57 => ?_)
      ·
        refine lv_iload hx hb dX5_putRecord_197 (lv_at hl 4 rfl) ?_
        -- qm : .inr (4, [.ref qmd, .ref qmt, .int (nI n), .int (bI true), .int lf1, .int (nI dn1), .int pl, .ref qml, .int (nI k), .ref qmk, .int (nI mz), .ref qmh, .int (nI nh), .int th, .ref qmw])  ~  .inr (4, [.ref qmd, .ref qmt, .int (nI n), .int (bI true), .int (kUn true lf1), .int (nI dn1), .int pl, .ref qml, .int (nI k), .ref qmk, .int (nI mz), .ref qmh, .int (nI nh), .int th, .ref qmw])
        have hP9 := hP.sub (ws' := [(qm, .inr (4, [.ref qmd, .ref qmt, .int (nI n), .int (bI true), .int (kUn true lf1), .int (nI dn1), .int pl, .ref qml, .int (nI k), .ref qmk, .int (nI mz), .ref qmh, .int (nI nh), .int th, .ref qmw])), (qmd, .inl (cyI, 512, .inl w1)), (qmk, .inl (cyI, 460, .inl M)), (qmw, .inl (cyZ, 64, .inl WL1_31))]) [1, 2, 0, 3] rfl
        have hD9 := hD.sub (ws' := [(qm, .inr (4, [.ref qmd, .ref qmt, .int (nI n), .int (bI true), .int (kUn true lf1), .int (nI dn1), .int pl, .ref qml, .int (nI k), .ref qmk, .int (nI mz), .ref qmh, .int (nI nh), .int th, .ref qmw])), (qmd, .inl (cyI, 512, .inl w1)), (qmk, .inl (cyI, 460, .inl M)), (qmw, .inl (cyZ, 64, .inl WL1_31))]) [1, 2, 0, 3] (by decide) rfl
        have hK9 := hK.sub (tys' := [(cyI, .int), (cyZ, .boolean)]) [0, 1] rfl
        exact W.iret hx hb hr (fun tS ht hW => ⟨⟨_, (true, w1, lf1, dn1, WL1_31), rfl, ⟨by rw [kPut_go c_42 (hZ0.symm.trans (hE.symm.trans (kPutF_end c_57)))]; rfl, by omega⟩, by rw [ht]; exact hP9, va_K.moved hW.alike hK9, hD9⟩, hS.F ht⟩) hS.2.2 dX5_putRecord_199
      ·
        have hb8 : b < 64 := fb_free hb9 c_57 hfr
        refine zz_loopW (pc := 60) (μ := fun (x : Nat × Nat) => match x with | (b, f) => 64 - b) (Inv := fun (x : Nat × Nat) (H : Heap) (locs : List Loc) (ls : Array Slot) => match x with | (b, f) => (b ≤ 64) ∧ (b + f = 64) ∧ (q ≤ b) ∧ (zParts mz + (b - fb_ct (kLive w) b) ≤ (64 - fb_ct (kLive w) 64) + q) ∧ (dn1 ≤ dn + b) ∧ (kPutF (kLive w) (zRow (kGr w 64 + nI 1) (zParts mz) fm ky mz M) (zParts mz) f b q w1 lf1 dn1 = Z0) ∧ (b < 64) ∧ va_P (dC, dI) vwCl [(qmk, .inl (cyI, 460, .inl M)), (qm, .inr (4, [.ref qmd, .ref qmt, .int (nI n), .int (bI true), .int lf1, .int (nI dn1), .int pl, .ref qml, .int (nI k), .ref qmk, .int (nI mz), .ref qmh, .int (nI nh), .int th, .ref qmw])), (qmd, .inl (cyI, 512, .inl w1)), (qmw, .inl (cyZ, 64, .inl WL1_31))] H ∧ va_D A [(qmk, .inl (cyI, 460, .inl M)), (qm, .inr (4, [.ref qmd, .ref qmt, .int (nI n), .int (bI true), .int lf1, .int (nI dn1), .int pl, .ref qml, .int (nI k), .ref qmk, .int (nI mz), .ref qmh, .int (nI nh), .int th, .ref qmw])), (qmd, .inl (cyI, 512, .inl w1)), (qmw, .inl (cyZ, 64, .inl WL1_31))] ∧ va_S A sS.heap H locs ∧ lv_has ls 10 [(0, .ref qm), (1, .int ky), (2, .int (nI fm)), (3, .int (nI (zParts mz))), (4, .int ((kGr w 64) + (nI 1))), (5, .int (nI (fb_ct (kLive w) 64))), (6, .int (nI b)), (7, .int (nI q))]) (x0 := (b, f)) ⟨by omega, by omega, by omega, by omega, by omega, hE, by omega, hP, hD, hS, lv_sub hl [0, 1, 2, 3, 4, 5, 6, 7] rfl⟩ ?_
        intro ⟨b, f⟩ H locs ls hI ih60
        obtain ⟨hb9, hf, hq9, hfr, hd2, hE, hb8, hP, hD, hS, hl⟩ := hI
        have hl : lv_has ls 10 [(0, .ref qm), (1, .int ky), (2, .int (nI fm)), (3, .int (nI (zParts mz))), (4, .int ((kGr w 64) + (nI 1))), (5, .int (nI (fb_ct (kLive w) 64))), (6, .int (nI b)), (7, .int (nI q))] := hl
        have hP : va_P (dC, dI) vwCl [(qmk, .inl (cyI, 460, .inl M)), (qm, .inr (4, [.ref qmd, .ref qmt, .int (nI n), .int (bI true), .int lf1, .int (nI dn1), .int pl, .ref qml, .int (nI k), .ref qmk, .int (nI mz), .ref qmh, .int (nI nh), .int th, .ref qmw])), (qmd, .inl (cyI, 512, .inl w1)), (qmw, .inl (cyZ, 64, .inl WL1_31))] H := hP
        have hD : va_D A [(qmk, .inl (cyI, 460, .inl M)), (qm, .inr (4, [.ref qmd, .ref qmt, .int (nI n), .int (bI true), .int lf1, .int (nI dn1), .int pl, .ref qml, .int (nI k), .ref qmk, .int (nI mz), .ref qmh, .int (nI nh), .int th, .ref qmw])), (qmd, .inl (cyI, 512, .inl w1)), (qmw, .inl (cyZ, 64, .inl WL1_31))] := hD
        have hb9 : b ≤ 64 := hb9
        have hf : b + f = 64 := hf
        have hq9 : q ≤ b := hq9
        have hfr : zParts mz + (b - fb_ct (kLive w) b) ≤ (64 - fb_ct (kLive w) 64) + q := hfr
        have hd2 : dn1 ≤ dn + b := hd2
        have hE : kPutF (kLive w) (zRow (kGr w 64 + nI 1) (zParts mz) fm ky mz M) (zParts mz) f b q w1 lf1 dn1 = Z0 := hE
        have hb8 : b < 64 := hb8
        refine lv_aload_n hx hb dX5_putRecord_60 rfl (lv_at hl 0 rfl) ?_
        refine va_get (D := (dC, dI)) (ci := 4) (v := .ref qmw) (C := RX5) (T := TX5) (N := 15) hx hb hts iwX5 hown hK hP 1 rfl rfl 14 (by decide) fk36 (fun _ h9 => h9) rfl dX5_putRecord_61 ?_
        refine lv_iload hx hb dX5_putRecord_64 (lv_at hl 6 rfl) ?_
        refine va_zald hx hb hK hP 3 1 rfl rfl (vp_in_nI (n := b) (by omega) (by decide)) dX5_putRecord_66 ?_
        refine zz_top (congrArg WL1_31 (nI_clamp (n := b) (by omega))) ?_
        refine zz_top (HWL_31 b (by omega)) ?_
        refine zb_if_eq (tgt := 76) hx hb dX5_putRecord_67 (by decide) (fun c_67 => ?_) (fun c_67 => ?_)
        ·
          obtain ⟨f9, e9⟩ : ∃ f9, f = f9 + 1 := ⟨f - 1, by omega⟩
          subst e9
          have ect := kct_n (q := kLive w) (k := b) c_67
          have hcb := fb_ct_le (kLive w) b
          refine lv_aload_n hx hb dX5_putRecord_76 rfl (lv_at hl 0 rfl) ?_
          by_cases hz : lf1 = nI 0
          ·
            have hPc := hP.sub (ws' := [(qm, .inr (4, [.ref qmd, .ref qmt, .int (nI n), .int (bI true), .int lf1, .int (nI dn1), .int pl, .ref qml, .int (nI k), .ref qmk, .int (nI mz), .ref qmh, .int (nI nh), .int th, .ref qmw]))]) [1] rfl
            have hKc := hK.sub (tys' := [(cyI, .int), (cyZ, .boolean)]) [0, 1] rfl
            have hDc := hD.sub (ws' := [(qm, .inr (4, [.ref qmd, .ref qmt, .int (nI n), .int (bI true), .int lf1, .int (nI dn1), .int pl, .ref qml, .int (nI k), .ref qmk, .int (nI mz), .ref qmh, .int (nI nh), .int th, .ref qmw]))]) [1] (by decide) rfl
            have hFc := va_free (wc := [(qm, .inr (4, [.ref qmd, .ref qmt, .int (nI n), .int (bI true), .int lf1, .int (nI dn1), .int pl, .ref qml, .int (nI k), .ref qmk, .int (nI mz), .ref qmh, .int (nI nh), .int th, .ref qmw]))]) hD hS hA [1] rfl
            refine va_calli (va_runV (As := []) (rest := []) ⟨hx, hb, hml, hown, hts⟩ (c_X5_may_off l dC dI cyI cyZ qm qmd qmt qml qmk qmh qmw H.size n true lf1 dn1 pl k mz nh th (hz)) (cwV 0 hts gX5_putRecord_X5_mayWrite rfl rfl rfl (by decide +kernel) ⟨Nat.le_of_ble_eq_true rfl, Nat.le_of_ble_eq_true rfl⟩) ⟨zz_blW, va_recv hKc hPc (ci := 4) (q0 := 0) rfl rfl, fun U hU hW => ⟨rfl, by rw [hU], by rw [hU]; exact hPc, va_K.moved hW.alike hKc, hDc.weaken (fun _ _ _ _ => trivial)⟩⟩ rfl rfl hl.1 rfl (lv_room (Nat.le_of_ble_eq_true rfl)) dX5_putRecord_77 ⟨Nat.zero_le _, Nat.zero_le _⟩) hS (fun q _ h => hFc q h) hFc (fun r_77 uU tS H1 locs ht9 hvm9 hw9 hB9 hz1 hk1 hS => ?_)
            obtain ⟨hP1, hK1, hD1⟩ := hB9
            have hw9 : (r_77 = bI false) := hw9
            have hr_77 := hw9
            have hr_77 := Eq.symm hr_77
            subst hr_77
            rw [ht9] at hP1
            have hK1 := va_K.moved hvm9.symm hK1
            obtain ⟨hP, hD⟩ := va_join (wr := [(qmk, .inl (cyI, 460, .inl M)), (qmd, .inl (cyI, 512, .inl w1)), (qmw, .inl (cyZ, 64, .inl WL1_31))]) (w1 := [(qm, .inr (4, [.ref qmd, .ref qmt, .int (nI n), .int (bI false), .int (-1), .int (nI dn1), .int pl, .ref qml, .int (nI k), .ref qmk, .int (nI mz), .ref qmh, .int (nI nh), .int th, .ref qmw]))]) hP hD [1] [0, 2, 3] rfl rfl (by decide) (by decide) hk1 hFc hP1 hD1
            generalize H1 = H at hP hS ⊢
            have hP : va_P (dC, dI) vwCl [(qmk, .inl (cyI, 460, .inl M)), (qmd, .inl (cyI, 512, .inl w1)), (qmw, .inl (cyZ, 64, .inl WL1_31)), (qm, .inr (4, [.ref qmd, .ref qmt, .int (nI n), .int (bI false), .int (-1), .int (nI dn1), .int pl, .ref qml, .int (nI k), .ref qmk, .int (nI mz), .ref qmh, .int (nI nh), .int th, .ref qmw]))] H := hP
            have hD : va_D A [(qmk, .inl (cyI, 460, .inl M)), (qmd, .inl (cyI, 512, .inl w1)), (qmw, .inl (cyZ, 64, .inl WL1_31)), (qm, .inr (4, [.ref qmd, .ref qmt, .int (nI n), .int (bI false), .int (-1), .int (nI dn1), .int pl, .ref qml, .int (nI k), .ref qmk, .int (nI mz), .ref qmh, .int (nI nh), .int th, .ref qmw]))] := hD
            refine lv_if_ne (tgt := 86) hx hb dX5_putRecord_80 (by decide) (fun c_80 => absurd (by decide) c_80) (fun c_80 => ?_)
            refine lv_bipush (v := (-4)) hx hb dX5_putRecord_83 (by decide) ?_
            -- qm : .inr (4, [.ref qmd, .ref qmt, .int (nI n), .int (bI false), .int (-1), .int (nI dn1), .int pl, .ref qml, .int (nI k), .ref qmk, .int (nI mz), .ref qmh, .int (nI nh), .int th, .ref qmw])  ~  .inr (4, [.ref qmd, .ref qmt, .int (nI n), .int (bI false), .int (kUn false lf1), .int (nI dn1), .int pl, .ref qml, .int (nI k), .ref qmk, .int (nI mz), .ref qmh, .int (nI nh), .int th, .ref qmw])
            have hP9 := hP.sub (ws' := [(qm, .inr (4, [.ref qmd, .ref qmt, .int (nI n), .int (bI false), .int (kUn false lf1), .int (nI dn1), .int pl, .ref qml, .int (nI k), .ref qmk, .int (nI mz), .ref qmh, .int (nI nh), .int th, .ref qmw])), (qmd, .inl (cyI, 512, .inl w1)), (qmk, .inl (cyI, 460, .inl M)), (qmw, .inl (cyZ, 64, .inl WL1_31))]) [3, 1, 0, 2] rfl
            have hD9 := hD.sub (ws' := [(qm, .inr (4, [.ref qmd, .ref qmt, .int (nI n), .int (bI false), .int (kUn false lf1), .int (nI dn1), .int pl, .ref qml, .int (nI k), .ref qmk, .int (nI mz), .ref qmh, .int (nI nh), .int th, .ref qmw])), (qmd, .inl (cyI, 512, .inl w1)), (qmk, .inl (cyI, 460, .inl M)), (qmw, .inl (cyZ, 64, .inl WL1_31))]) [3, 1, 0, 2] (by decide) rfl
            have hK9 := hK.sub (tys' := [(cyI, .int), (cyZ, .boolean)]) [0, 1] rfl
            exact W.iret hx hb hr (fun tS ht hW => ⟨⟨_, (false, w1, lf1, dn1, WL1_31), rfl, ⟨by rw [kPut_go c_42 (hZ0.symm.trans (hE.symm.trans (kPutF_off c_57 c_67 hz)))]; rfl, by omega⟩, by rw [ht]; exact hP9, va_K.moved hW.alike hK9, hD9⟩, hS.F ht⟩) hS.2.2 dX5_putRecord_85
          ·
            have hPc := hP.sub (ws' := [(qm, .inr (4, [.ref qmd, .ref qmt, .int (nI n), .int (bI true), .int lf1, .int (nI dn1), .int pl, .ref qml, .int (nI k), .ref qmk, .int (nI mz), .ref qmh, .int (nI nh), .int th, .ref qmw]))]) [1] rfl
            have hKc := hK.sub (tys' := [(cyI, .int), (cyZ, .boolean)]) [0, 1] rfl
            have hDc := hD.sub (ws' := [(qm, .inr (4, [.ref qmd, .ref qmt, .int (nI n), .int (bI true), .int lf1, .int (nI dn1), .int pl, .ref qml, .int (nI k), .ref qmk, .int (nI mz), .ref qmh, .int (nI nh), .int th, .ref qmw]))]) [1] (by decide) rfl
            have hFc := va_free (wc := [(qm, .inr (4, [.ref qmd, .ref qmt, .int (nI n), .int (bI true), .int lf1, .int (nI dn1), .int pl, .ref qml, .int (nI k), .ref qmk, .int (nI mz), .ref qmh, .int (nI nh), .int th, .ref qmw]))]) hD hS hA [1] rfl
            refine va_calli (va_runV (As := []) (rest := []) ⟨hx, hb, hml, hown, hts⟩ (c_X5_may_on l dC dI cyI cyZ qm qmd qmt qml qmk qmh qmw H.size n true lf1 dn1 pl k mz nh th (hz)) (cwV 0 hts gX5_putRecord_X5_mayWrite rfl rfl rfl (by decide +kernel) ⟨Nat.le_of_ble_eq_true rfl, Nat.le_of_ble_eq_true rfl⟩) ⟨zz_blW, va_recv hKc hPc (ci := 4) (q0 := 0) rfl rfl, fun U hU hW => ⟨rfl, by rw [hU], by rw [hU]; exact hPc, va_K.moved hW.alike hKc, hDc.weaken (fun _ _ _ _ => trivial)⟩⟩ rfl rfl hl.1 rfl (lv_room (Nat.le_of_ble_eq_true rfl)) dX5_putRecord_77 ⟨Nat.zero_le _, Nat.zero_le _⟩) hS (fun q _ h => hFc q h) hFc (fun r_77 uU tS H1 locs ht9 hvm9 hw9 hB9 hz1 hk1 hS => ?_)
            obtain ⟨hP1, hK1, hD1⟩ := hB9
            have hw9 : (r_77 = bI true) := hw9
            have hr_77 := hw9
            have hr_77 := Eq.symm hr_77
            subst hr_77
            rw [ht9] at hP1
            have hK1 := va_K.moved hvm9.symm hK1
            obtain ⟨hP, hD⟩ := va_join (wr := [(qmk, .inl (cyI, 460, .inl M)), (qmd, .inl (cyI, 512, .inl w1)), (qmw, .inl (cyZ, 64, .inl WL1_31))]) (w1 := [(qm, .inr (4, [.ref qmd, .ref qmt, .int (nI n), .int (bI true), .int (kDec lf1), .int (nI (dn1 + 1)), .int pl, .ref qml, .int (nI k), .ref qmk, .int (nI mz), .ref qmh, .int (nI nh), .int th, .ref qmw]))]) hP hD [1] [0, 2, 3] rfl rfl (by decide) (by decide) hk1 hFc hP1 hD1
            generalize H1 = H at hP hS ⊢
            have hP : va_P (dC, dI) vwCl [(qmk, .inl (cyI, 460, .inl M)), (qmd, .inl (cyI, 512, .inl w1)), (qmw, .inl (cyZ, 64, .inl WL1_31)), (qm, .inr (4, [.ref qmd, .ref qmt, .int (nI n), .int (bI true), .int (kDec lf1), .int (nI (dn1 + 1)), .int pl, .ref qml, .int (nI k), .ref qmk, .int (nI mz), .ref qmh, .int (nI nh), .int th, .ref qmw]))] H := hP
            have hD : va_D A [(qmk, .inl (cyI, 460, .inl M)), (qmd, .inl (cyI, 512, .inl w1)), (qmw, .inl (cyZ, 64, .inl WL1_31)), (qm, .inr (4, [.ref qmd, .ref qmt, .int (nI n), .int (bI true), .int (kDec lf1), .int (nI (dn1 + 1)), .int pl, .ref qml, .int (nI k), .ref qmk, .int (nI mz), .ref qmh, .int (nI nh), .int th, .ref qmw]))] := hD
            refine lv_if_ne (tgt := 86) hx hb dX5_putRecord_80 (by decide) (fun c_80 => ?_) (fun c_80 => absurd c_80 (by decide))
            refine lv_bipush (v := nI 8) hx hb dX5_putRecord_86 (by decide) ?_
            refine lv_iload hx hb dX5_putRecord_88 (lv_at hl 6 rfl) ?_
            refine lv_imul hx hb dX5_putRecord_90 ?_
            refine zz_top (pk_mul 8 b) ?_
            refine lv_istore (lv' := [(8, .int (nI (8 * b))), (0, .ref qm), (1, .int ky), (2, .int (nI fm)), (3, .int (nI (zParts mz))), (4, .int ((kGr w 64) + (nI 1))), (5, .int (nI (fb_ct (kLive w) 64))), (6, .int (nI b)), (7, .int (nI q))]) hx hb dX5_putRecord_91 hl (by decide) rfl (fun ls hl => ?_)
            refine lv_aload_n hx hb dX5_putRecord_93 rfl (lv_at hl 1 rfl) ?_
            refine va_get (D := (dC, dI)) (ci := 4) (v := .ref qmd) (C := RX5) (T := TX5) (N := 15) hx hb hts iwX5 hown hK hP 3 rfl rfl 0 (by decide) fk7 (fun _ h9 => h9) rfl dX5_putRecord_94 ?_
            refine lv_iload hx hb dX5_putRecord_97 (lv_at hl 0 rfl) ?_
            refine lv_iload hx hb dX5_putRecord_99 (lv_at hl 5 rfl) ?_
            refine va_iast hx hb hK hP hD hS 1 0 rfl rfl (vp_in_nI (n := 8 * b) (by omega) (by decide)) dX5_putRecord_101 (fun H locs hP hD hS => ?_)
            rw [nI_clamp (n := 8 * b) (by omega)] at hP hD
            have hP : va_P (dC, dI) vwCl [(qmk, .inl (cyI, 460, .inl M)), (qmd, .inl (cyI, 512, .inl (upd w1 (8 * b) ((kGr w 64) + (nI 1))))), (qmw, .inl (cyZ, 64, .inl WL1_31)), (qm, .inr (4, [.ref qmd, .ref qmt, .int (nI n), .int (bI true), .int (kDec lf1), .int (nI (dn1 + 1)), .int pl, .ref qml, .int (nI k), .ref qmk, .int (nI mz), .ref qmh, .int (nI nh), .int th, .ref qmw]))] H := hP
            have hD : va_D A [(qmk, .inl (cyI, 460, .inl M)), (qmd, .inl (cyI, 512, .inl (upd w1 (8 * b) ((kGr w 64) + (nI 1))))), (qmw, .inl (cyZ, 64, .inl WL1_31)), (qm, .inr (4, [.ref qmd, .ref qmt, .int (nI n), .int (bI true), .int (kDec lf1), .int (nI (dn1 + 1)), .int pl, .ref qml, .int (nI k), .ref qmk, .int (nI mz), .ref qmh, .int (nI nh), .int th, .ref qmw]))] := hD
            refine lv_aload_n hx hb dX5_putRecord_102 rfl (lv_at hl 1 rfl) ?_
            refine va_get (D := (dC, dI)) (ci := 4) (v := .ref qmd) (C := RX5) (T := TX5) (N := 15) hx hb hts iwX5 hown hK hP 3 rfl rfl 0 (by decide) fk7 (fun _ h9 => h9) rfl dX5_putRecord_103 ?_
            refine lv_iload hx hb dX5_putRecord_106 (lv_at hl 0 rfl) ?_
            refine lv_iconst (v := nI 1) hx hb dX5_putRecord_108 (by decide) ?_
            refine lv_iadd hx hb dX5_putRecord_109 ?_
            refine zz_top (nI_add (8 * b) 1) ?_
            refine lv_iload hx hb dX5_putRecord_110 (lv_at hl 8 rfl) ?_
            refine lv_sipush (v := nI 256) hx hb dX5_putRecord_112 (by decide) ?_
            refine lv_iload_n hx hb dX5_putRecord_115 rfl (lv_at hl 4 rfl) ?_
            refine lv_imul hx hb dX5_putRecord_116 ?_
            refine zz_top (pk_mul 256 (zParts mz)) ?_
            refine lv_iadd hx hb dX5_putRecord_117 ?_
            refine zz_top (nI_add q (256 * (zParts mz))) ?_
            refine lv_ldc (v := nI 65536) hx hb hown (hts (.constant RX5 117 65536) (by decide +kernel)) dX5_putRecord_118 ?_
            refine lv_iload_n hx hb dX5_putRecord_120 rfl (lv_at hl 3 rfl) ?_
            refine lv_imul hx hb dX5_putRecord_121 ?_
            refine zz_top (pk_mul 65536 fm) ?_
            refine lv_iadd hx hb dX5_putRecord_122 ?_
            refine zz_top (nI_add (q + (256 * (zParts mz))) (65536 * fm)) ?_
            refine va_iast hx hb hK hP hD hS 1 0 rfl rfl (vp_in_nI (n := 8 * b + 1) (by omega) (by decide)) dX5_putRecord_123 (fun H locs hP hD hS => ?_)
            rw [nI_clamp (n := 8 * b + 1) (by omega)] at hP hD
            have hP : va_P (dC, dI) vwCl [(qmk, .inl (cyI, 460, .inl M)), (qmd, .inl (cyI, 512, .inl (upd (upd w1 (8 * b) ((kGr w 64) + (nI 1))) (8 * b + 1) (nI (q + (256 * (zParts mz)) + 65536 * fm))))), (qmw, .inl (cyZ, 64, .inl WL1_31)), (qm, .inr (4, [.ref qmd, .ref qmt, .int (nI n), .int (bI true), .int (kDec lf1), .int (nI (dn1 + 1)), .int pl, .ref qml, .int (nI k), .ref qmk, .int (nI mz), .ref qmh, .int (nI nh), .int th, .ref qmw]))] H := hP
            have hD : va_D A [(qmk, .inl (cyI, 460, .inl M)), (qmd, .inl (cyI, 512, .inl (upd (upd w1 (8 * b) ((kGr w 64) + (nI 1))) (8 * b + 1) (nI (q + (256 * (zParts mz)) + 65536 * fm))))), (qmw, .inl (cyZ, 64, .inl WL1_31)), (qm, .inr (4, [.ref qmd, .ref qmt, .int (nI n), .int (bI true), .int (kDec lf1), .int (nI (dn1 + 1)), .int pl, .ref qml, .int (nI k), .ref qmk, .int (nI mz), .ref qmh, .int (nI nh), .int th, .ref qmw]))] := hD
            refine lv_aload_n hx hb dX5_putRecord_124 rfl (lv_at hl 1 rfl) ?_
            refine va_get (D := (dC, dI)) (ci := 4) (v := .ref qmd) (C := RX5) (T := TX5) (N := 15) hx hb hts iwX5 hown hK hP 3 rfl rfl 0 (by decide) fk7 (fun _ h9 => h9) rfl dX5_putRecord_125 ?_
            refine lv_iload hx hb dX5_putRecord_128 (lv_at hl 0 rfl) ?_
            refine lv_iconst (v := nI 2) hx hb dX5_putRecord_130 (by decide) ?_
            refine lv_iadd hx hb dX5_putRecord_131 ?_
            refine zz_top (nI_add (8 * b) 2) ?_
            refine lv_iload_n hx hb dX5_putRecord_132 rfl (lv_at hl 2 rfl) ?_
            refine va_iast hx hb hK hP hD hS 1 0 rfl rfl (vp_in_nI (n := 8 * b + 2) (by omega) (by decide)) dX5_putRecord_133 (fun H locs hP hD hS => ?_)
            rw [nI_clamp (n := 8 * b + 2) (by omega)] at hP hD
            have hP : va_P (dC, dI) vwCl [(qmk, .inl (cyI, 460, .inl M)), (qmd, .inl (cyI, 512, .inl (upd (upd (upd w1 (8 * b) ((kGr w 64) + (nI 1))) (8 * b + 1) (nI (q + (256 * (zParts mz)) + 65536 * fm))) (8 * b + 2) ky))), (qmw, .inl (cyZ, 64, .inl WL1_31)), (qm, .inr (4, [.ref qmd, .ref qmt, .int (nI n), .int (bI true), .int (kDec lf1), .int (nI (dn1 + 1)), .int pl, .ref qml, .int (nI k), .ref qmk, .int (nI mz), .ref qmh, .int (nI nh), .int th, .ref qmw]))] H := hP
            have hD : va_D A [(qmk, .inl (cyI, 460, .inl M)), (qmd, .inl (cyI, 512, .inl (upd (upd (upd w1 (8 * b) ((kGr w 64) + (nI 1))) (8 * b + 1) (nI (q + (256 * (zParts mz)) + 65536 * fm))) (8 * b + 2) ky))), (qmw, .inl (cyZ, 64, .inl WL1_31)), (qm, .inr (4, [.ref qmd, .ref qmt, .int (nI n), .int (bI true), .int (kDec lf1), .int (nI (dn1 + 1)), .int pl, .ref qml, .int (nI k), .ref qmk, .int (nI mz), .ref qmh, .int (nI nh), .int th, .ref qmw]))] := hD
            refine lv_aload_n hx hb dX5_putRecord_134 rfl (lv_at hl 1 rfl) ?_
            refine va_get (D := (dC, dI)) (ci := 4) (v := .ref qmd) (C := RX5) (T := TX5) (N := 15) hx hb hts iwX5 hown hK hP 3 rfl rfl 0 (by decide) fk7 (fun _ h9 => h9) rfl dX5_putRecord_135 ?_
            refine lv_iload hx hb dX5_putRecord_138 (lv_at hl 0 rfl) ?_
            refine lv_iconst (v := nI 3) hx hb dX5_putRecord_140 (by decide) ?_
            refine lv_iadd hx hb dX5_putRecord_141 ?_
            refine zz_top (nI_add (8 * b) 3) ?_
            refine lv_aload_n hx hb dX5_putRecord_142 rfl (lv_at hl 1 rfl) ?_
            refine va_get (D := (dC, dI)) (ci := 4) (v := .int (nI mz)) (C := RX5) (T := TX5) (N := 15) hx hb hts iwX5 hown hK hP 3 rfl rfl 10 (by decide) fk51 (fun _ h9 => h9) rfl dX5_putRecord_143 ?_
            refine va_iast hx hb hK hP hD hS 1 0 rfl rfl (vp_in_nI (n := 8 * b + 3) (by omega) (by decide)) dX5_putRecord_146 (fun H locs hP hD hS => ?_)
            rw [nI_clamp (n := 8 * b + 3) (by omega)] at hP hD
            have hP : va_P (dC, dI) vwCl [(qmk, .inl (cyI, 460, .inl M)), (qmd, .inl (cyI, 512, .inl (upd (upd (upd (upd w1 (8 * b) ((kGr w 64) + (nI 1))) (8 * b + 1) (nI (q + (256 * (zParts mz)) + 65536 * fm))) (8 * b + 2) ky) (8 * b + 3) (nI mz)))), (qmw, .inl (cyZ, 64, .inl WL1_31)), (qm, .inr (4, [.ref qmd, .ref qmt, .int (nI n), .int (bI true), .int (kDec lf1), .int (nI (dn1 + 1)), .int pl, .ref qml, .int (nI k), .ref qmk, .int (nI mz), .ref qmh, .int (nI nh), .int th, .ref qmw]))] H := hP
            have hD : va_D A [(qmk, .inl (cyI, 460, .inl M)), (qmd, .inl (cyI, 512, .inl (upd (upd (upd (upd w1 (8 * b) ((kGr w 64) + (nI 1))) (8 * b + 1) (nI (q + (256 * (zParts mz)) + 65536 * fm))) (8 * b + 2) ky) (8 * b + 3) (nI mz)))), (qmw, .inl (cyZ, 64, .inl WL1_31)), (qm, .inr (4, [.ref qmd, .ref qmt, .int (nI n), .int (bI true), .int (kDec lf1), .int (nI (dn1 + 1)), .int pl, .ref qml, .int (nI k), .ref qmk, .int (nI mz), .ref qmh, .int (nI nh), .int th, .ref qmw]))] := hD
            refine lv_iconst (v := nI 0) hx hb dX5_putRecord_147 (by decide) ?_
            refine lv_istore (lv' := [(9, .int (nI 0)), (8, .int (nI (8 * b))), (0, .ref qm), (1, .int ky), (2, .int (nI fm)), (3, .int (nI (zParts mz))), (4, .int ((kGr w 64) + (nI 1))), (5, .int (nI (fb_ct (kLive w) 64))), (6, .int (nI b)), (7, .int (nI q))]) hx hb dX5_putRecord_148 hl (by decide) rfl (fun ls hl => ?_)
            refine zz_loopW (pc := 150) (μ := fun (x : Nat × (Nat → Int32)) => match x with | (j, w2) => 4 - j) (Inv := fun (x : Nat × (Nat → Int32)) (H : Heap) (locs : List Loc) (ls : Array Slot) => match x with | (j, w2) => (j ≤ 4) ∧ (w2 = fb_put w1 ((zRow (kGr w 64 + nI 1) (zParts mz) fm ky mz M) q) (8 * b) (4 + j)) ∧ va_P (dC, dI) vwCl [(qmk, .inl (cyI, 460, .inl M)), (qmd, .inl (cyI, 512, .inl w2)), (qmw, .inl (cyZ, 64, .inl WL1_31)), (qm, .inr (4, [.ref qmd, .ref qmt, .int (nI n), .int (bI true), .int (kDec lf1), .int (nI (dn1 + 1)), .int pl, .ref qml, .int (nI k), .ref qmk, .int (nI mz), .ref qmh, .int (nI nh), .int th, .ref qmw]))] H ∧ va_D A [(qmk, .inl (cyI, 460, .inl M)), (qmd, .inl (cyI, 512, .inl w2)), (qmw, .inl (cyZ, 64, .inl WL1_31)), (qm, .inr (4, [.ref qmd, .ref qmt, .int (nI n), .int (bI true), .int (kDec lf1), .int (nI (dn1 + 1)), .int pl, .ref qml, .int (nI k), .ref qmk, .int (nI mz), .ref qmh, .int (nI nh), .int th, .ref qmw]))] ∧ va_S A sS.heap H locs ∧ lv_has ls 10 [(0, .ref qm), (1, .int ky), (2, .int (nI fm)), (3, .int (nI (zParts mz))), (4, .int ((kGr w 64) + (nI 1))), (5, .int (nI (fb_ct (kLive w) 64))), (6, .int (nI b)), (7, .int (nI q)), (8, .int (nI (8 * b))), (9, .int (nI j))]) (x0 := (0, upd (upd (upd (upd w1 (8 * b) ((kGr w 64) + (nI 1))) (8 * b + 1) (nI (q + (256 * (zParts mz)) + 65536 * fm))) (8 * b + 2) ky) (8 * b + 3) (nI mz))) ⟨by omega, fb_put4 w1 ((zRow (kGr w 64 + nI 1) (zParts mz) fm ky mz M) q) (8 * b), hP, hD, hS, lv_sub hl [2, 3, 4, 5, 6, 7, 8, 9, 1, 0] rfl⟩ ?_
            intro ⟨j, w2⟩ H locs ls hI ih150
            obtain ⟨hj9, hw2, hP, hD, hS, hl⟩ := hI
            have hl : lv_has ls 10 [(0, .ref qm), (1, .int ky), (2, .int (nI fm)), (3, .int (nI (zParts mz))), (4, .int ((kGr w 64) + (nI 1))), (5, .int (nI (fb_ct (kLive w) 64))), (6, .int (nI b)), (7, .int (nI q)), (8, .int (nI (8 * b))), (9, .int (nI j))] := hl
            have hP : va_P (dC, dI) vwCl [(qmk, .inl (cyI, 460, .inl M)), (qmd, .inl (cyI, 512, .inl w2)), (qmw, .inl (cyZ, 64, .inl WL1_31)), (qm, .inr (4, [.ref qmd, .ref qmt, .int (nI n), .int (bI true), .int (kDec lf1), .int (nI (dn1 + 1)), .int pl, .ref qml, .int (nI k), .ref qmk, .int (nI mz), .ref qmh, .int (nI nh), .int th, .ref qmw]))] H := hP
            have hD : va_D A [(qmk, .inl (cyI, 460, .inl M)), (qmd, .inl (cyI, 512, .inl w2)), (qmw, .inl (cyZ, 64, .inl WL1_31)), (qm, .inr (4, [.ref qmd, .ref qmt, .int (nI n), .int (bI true), .int (kDec lf1), .int (nI (dn1 + 1)), .int pl, .ref qml, .int (nI k), .ref qmk, .int (nI mz), .ref qmh, .int (nI nh), .int th, .ref qmw]))] := hD
            have hj9 : j ≤ 4 := hj9
            have hw2 : w2 = fb_put w1 ((zRow (kGr w 64 + nI 1) (zParts mz) fm ky mz M) q) (8 * b) (4 + j) := hw2
            refine lv_iload hx hb dX5_putRecord_150 (lv_at hl 9 rfl) ?_
            refine lv_iconst (v := nI 4) hx hb dX5_putRecord_152 (by decide) ?_
            refine zn_icmp_ge (tgt := 188) hx hb dX5_putRecord_153 (by decide) (by omega) (by omega) (fun c_153 => ?_) (fun c_153 => ?_)
            ·
              refine lv_iinc (v := nI (b + 1)) (lv' := [(6, .int (nI (b + 1))), (0, .ref qm), (1, .int ky), (2, .int (nI fm)), (3, .int (nI (zParts mz))), (4, .int ((kGr w 64) + (nI 1))), (5, .int (nI (fb_ct (kLive w) 64))), (7, .int (nI q)), (8, .int (nI (8 * b))), (9, .int (nI j))]) hx hb dX5_putRecord_188 hl (k := 6) rfl (nI_add b 1) (by decide) rfl (fun ls hl => ?_)
              refine lv_iinc (v := nI (q + 1)) (lv' := [(7, .int (nI (q + 1))), (6, .int (nI (b + 1))), (0, .ref qm), (1, .int ky), (2, .int (nI fm)), (3, .int (nI (zParts mz))), (4, .int ((kGr w 64) + (nI 1))), (5, .int (nI (fb_ct (kLive w) 64))), (8, .int (nI (8 * b))), (9, .int (nI j))]) hx hb dX5_putRecord_191 hl (k := 7) rfl (nI_add q 1) (by decide) rfl (fun ls hl => ?_)
              refine lv_goto (tgt := 54) hx hb dX5_putRecord_194 (by decide) ?_
              have ej : j = 4 := by omega
              subst ej
              subst hw2
              have hP := hP.sub (ws' := [(qmk, .inl (cyI, 460, .inl M)), (qm, .inr (4, [.ref qmd, .ref qmt, .int (nI n), .int (bI true), .int (kDec lf1), .int (nI (dn1 + 1)), .int pl, .ref qml, .int (nI k), .ref qmk, .int (nI mz), .ref qmh, .int (nI nh), .int th, .ref qmw])), (qmd, .inl (cyI, 512, .inl (fb_put w1 ((zRow (kGr w 64 + nI 1) (zParts mz) fm ky mz M) q) (8 * b) (4 + 4)))), (qmw, .inl (cyZ, 64, .inl WL1_31))]) [0, 3, 1, 2] rfl
              have hD := hD.sub (ws' := [(qmk, .inl (cyI, 460, .inl M)), (qm, .inr (4, [.ref qmd, .ref qmt, .int (nI n), .int (bI true), .int (kDec lf1), .int (nI (dn1 + 1)), .int pl, .ref qml, .int (nI k), .ref qmk, .int (nI mz), .ref qmh, .int (nI nh), .int th, .ref qmw])), (qmd, .inl (cyI, 512, .inl (fb_put w1 ((zRow (kGr w 64 + nI 1) (zParts mz) fm ky mz M) q) (8 * b) (4 + 4)))), (qmw, .inl (cyZ, 64, .inl WL1_31))]) [0, 3, 1, 2] (by decide) rfl
              -- cell qmd: .inl (cyI, 512, .inl (fb_put w1 ((zRow (kGr w 64 + nI 1) (zParts mz) fm ky mz M) q) (8 * b) (4 + 4))) ~ .inl (cyI, 512, .inl (fb_put w1 ((zRow (kGr w 64 + nI 1) (zParts mz) fm ky mz M) q) (8 * b) 8))
              exact ih54 (b + 1, q + 1, f9, fb_put w1 ((zRow (kGr w 64 + nI 1) (zParts mz) fm ky mz M) q) (8 * b) 8, kDec lf1, dn1 + 1) _ _ _ ⟨by omega, by omega, by omega, by omega, by omega, by omega, (kPutF_put c_57 c_67 hz).symm.trans hE, hP, hD, hS, lv_sub hl [2, 3, 4, 5, 6, 7, 1, 0] rfl⟩ (by first | omega | (dsimp only; omega))
            ·
              refine lv_aload_n hx hb dX5_putRecord_156 rfl (lv_at hl 0 rfl) ?_
              refine va_get (D := (dC, dI)) (ci := 4) (v := .ref qmd) (C := RX5) (T := TX5) (N := 15) hx hb hts iwX5 hown hK hP 3 rfl rfl 0 (by decide) fk7 (fun _ h9 => h9) rfl dX5_putRecord_157 ?_
              refine lv_iload hx hb dX5_putRecord_160 (lv_at hl 8 rfl) ?_
              refine lv_iconst (v := nI 4) hx hb dX5_putRecord_162 (by decide) ?_
              refine lv_iadd hx hb dX5_putRecord_163 ?_
              refine zz_top (nI_add (8 * b) 4) ?_
              refine lv_iload hx hb dX5_putRecord_164 (lv_at hl 9 rfl) ?_
              refine lv_iadd hx hb dX5_putRecord_166 ?_
              refine zz_top (nI_add (8 * b + 4) j) ?_
              refine lv_aload_n hx hb dX5_putRecord_167 rfl (lv_at hl 0 rfl) ?_
              refine lv_bipush (v := nI 16) hx hb dX5_putRecord_168 (by decide) ?_
              refine lv_iload hx hb dX5_putRecord_170 (lv_at hl 7 rfl) ?_
              refine lv_imul hx hb dX5_putRecord_172 ?_
              refine zz_top (pk_mul 16 q) ?_
              refine lv_iconst (v := nI 4) hx hb dX5_putRecord_173 (by decide) ?_
              refine lv_iload hx hb dX5_putRecord_174 (lv_at hl 9 rfl) ?_
              refine lv_imul hx hb dX5_putRecord_176 ?_
              refine zz_top (pk_mul 4 j) ?_
              refine lv_iadd hx hb dX5_putRecord_177 ?_
              refine zz_top (nI_add (16 * q) (4 * j)) ?_
              have hPc := hP.sub (ws' := [(qm, .inr (4, [.ref qmd, .ref qmt, .int (nI n), .int (bI true), .int (kDec lf1), .int (nI (dn1 + 1)), .int pl, .ref qml, .int (nI k), .ref qmk, .int (nI mz), .ref qmh, .int (nI nh), .int th, .ref qmw])), (qmk, .inl (cyI, 460, .inl M))]) [3, 0] rfl
              have hKc := hK.sub (tys' := [(cyI, .int), (cyZ, .boolean)]) [0, 1] rfl
              refine vp_callSi (va_Run.run (va_runV (As := [.int (nI (16 * q + 4 * j))]) (rest := [.int (nI (8 * b + 4 + j)), .ref qmd]) ⟨hx, hb, hml, hown, hts⟩ (c_X5_word4 l dC dI cyI cyZ qm qmk qmd qmt qml qmh qmw n true (kDec lf1) (dn1 + 1) pl k mz nh th M (16 * q + 4 * j) (by omega) (by omega)) (cwV 1 hts gX5_putRecord_X5_word4 rfl rfl rfl (by decide +kernel) ⟨Nat.le_of_ble_eq_true rfl, Nat.le_of_ble_eq_true rfl⟩) ⟨zz_blR, va_recv hKc hPc (ci := 4) (q0 := 0) rfl rfl, fun U hU hW => ⟨rfl, by rw [hU]; exact hPc, va_K.moved hW.alike hKc⟩⟩ rfl rfl hl.1 rfl (lv_room (Nat.le_of_ble_eq_true rfl)) dX5_putRecord_178 ⟨Nat.zero_le _, Nat.zero_le _⟩)) (fun r_178 hr_178 => ?_)
              have hr_178 : zfour M mz (16 * q + 4 * j) = r_178 := Eq.symm hr_178
              subst hr_178
              refine va_iast hx hb hK hP hD hS 1 0 rfl rfl (vp_in_nI (n := 8 * b + 4 + j) (by omega) (by decide)) dX5_putRecord_181 (fun H locs hP hD hS => ?_)
              rw [nI_clamp (n := 8 * b + 4 + j) (by omega)] at hP hD
              have hP : va_P (dC, dI) vwCl [(qmk, .inl (cyI, 460, .inl M)), (qmd, .inl (cyI, 512, .inl (upd w2 (8 * b + 4 + j) (zfour M mz (16 * q + 4 * j))))), (qmw, .inl (cyZ, 64, .inl WL1_31)), (qm, .inr (4, [.ref qmd, .ref qmt, .int (nI n), .int (bI true), .int (kDec lf1), .int (nI (dn1 + 1)), .int pl, .ref qml, .int (nI k), .ref qmk, .int (nI mz), .ref qmh, .int (nI nh), .int th, .ref qmw]))] H := hP
              have hD : va_D A [(qmk, .inl (cyI, 460, .inl M)), (qmd, .inl (cyI, 512, .inl (upd w2 (8 * b + 4 + j) (zfour M mz (16 * q + 4 * j))))), (qmw, .inl (cyZ, 64, .inl WL1_31)), (qm, .inr (4, [.ref qmd, .ref qmt, .int (nI n), .int (bI true), .int (kDec lf1), .int (nI (dn1 + 1)), .int pl, .ref qml, .int (nI k), .ref qmk, .int (nI mz), .ref qmh, .int (nI nh), .int th, .ref qmw]))] := hD
              refine lv_iinc (v := nI (j + 1)) (lv' := [(9, .int (nI (j + 1))), (0, .ref qm), (1, .int ky), (2, .int (nI fm)), (3, .int (nI (zParts mz))), (4, .int ((kGr w 64) + (nI 1))), (5, .int (nI (fb_ct (kLive w) 64))), (6, .int (nI b)), (7, .int (nI q)), (8, .int (nI (8 * b)))]) hx hb dX5_putRecord_182 hl (k := 9) rfl (nI_add j 1) (by decide) rfl (fun ls hl => ?_)
              refine lv_goto (tgt := 150) hx hb dX5_putRecord_185 (by decide) ?_
              exact ih150 (j + 1, upd w2 (8 * b + 4 + j) (zfour M mz (16 * q + 4 * j))) _ _ _ ⟨by omega, by rw [hw2, ← zRow_4 (rn := kGr w 64 + nI 1) (ps := zParts mz) (fm := fm) (ky := ky), Nat.add_assoc]; exact fb_put_succ w1 ((zRow (kGr w 64 + nI 1) (zParts mz) fm ky mz M) q) (8 * b) (4 + j), hP, hD, hS, lv_sub hl [1, 2, 3, 4, 5, 6, 7, 8, 9, 0] rfl⟩ (by first | omega | (dsimp only; omega))
        ·
          obtain ⟨f9, e9⟩ : ∃ f9, f = f9 + 1 := ⟨f - 1, by omega⟩
          subst e9
          have ect := kct_y (q := kLive w) (k := b) c_67
          have hcb := fb_ct_le (kLive w) b
          refine lv_iinc (v := nI (b + 1)) (lv' := [(6, .int (nI (b + 1))), (0, .ref qm), (1, .int ky), (2, .int (nI fm)), (3, .int (nI (zParts mz))), (4, .int ((kGr w 64) + (nI 1))), (5, .int (nI (fb_ct (kLive w) 64))), (7, .int (nI q))]) hx hb dX5_putRecord_70 hl (k := 6) rfl (nI_add b 1) (by decide) rfl (fun ls hl => ?_)
          refine lv_goto (tgt := 60) hx hb dX5_putRecord_73 (by decide) ?_
          have hfr2 : zParts mz + (b + 1 - fb_ct (kLive w) (b + 1)) ≤ (64 - fb_ct (kLive w) 64) + q := by omega
          have hb8 := fb_free (b := b + 1) (by omega) c_57 hfr2
          exact ih60 (b + 1, f9) _ _ _ ⟨by omega, by omega, by omega, hfr2, by omega, (kPutF_live c_57 c_67).symm.trans hE, hb8, hP, hD, hS, lv_sub hl [1, 2, 3, 4, 5, 6, 0, 7] rfl⟩ (by first | omega | (dsimp only; omega))
    ·
      refine lv_bipush (v := (-3)) hx hb dX5_putRecord_45 (by decide) ?_
      -- qm : .inr (4, [.ref qmd, .ref qmt, .int (nI n), .int (bI true), .int lf, .int (nI dn), .int pl, .ref qml, .int (nI k), .ref qmk, .int (nI mz), .ref qmh, .int (nI nh), .int th, .ref qmw])  ~  .inr (4, [.ref qmd, .ref qmt, .int (nI n), .int (bI true), .int (kUn true lf), .int (nI dn), .int pl, .ref qml, .int (nI k), .ref qmk, .int (nI mz), .ref qmh, .int (nI nh), .int th, .ref qmw])
      have hP9 := hP.sub (ws' := [(qm, .inr (4, [.ref qmd, .ref qmt, .int (nI n), .int (bI true), .int (kUn true lf), .int (nI dn), .int pl, .ref qml, .int (nI k), .ref qmk, .int (nI mz), .ref qmh, .int (nI nh), .int th, .ref qmw])), (qmd, .inl (cyI, 512, .inl w)), (qmk, .inl (cyI, 460, .inl M)), (qmw, .inl (cyZ, 64, .inl WL1_31))]) [1, 2, 0, 3] rfl
      have hD9 := hD.sub (ws' := [(qm, .inr (4, [.ref qmd, .ref qmt, .int (nI n), .int (bI true), .int (kUn true lf), .int (nI dn), .int pl, .ref qml, .int (nI k), .ref qmk, .int (nI mz), .ref qmh, .int (nI nh), .int th, .ref qmw])), (qmd, .inl (cyI, 512, .inl w)), (qmk, .inl (cyI, 460, .inl M)), (qmw, .inl (cyZ, 64, .inl WL1_31))]) [1, 2, 0, 3] (by decide) rfl
      have hK9 := hK.sub (tys' := [(cyI, .int), (cyZ, .boolean)]) [0, 1] rfl
      exact W.iret hx hb hr (fun tS ht hW => ⟨⟨_, (true, w, lf, dn, WL1_31), rfl, ⟨(kPut_room c_42).symm, by omega⟩, by rw [ht]; exact hP9, va_K.moved hW.alike hK9, hD9⟩, hS.F ht⟩) hS.2.2 dX5_putRecord_47
set_option maxHeartbeats 4000000 in
set_option maxRecDepth 100000 in
theorem c_X5_commit_off (l : Launch) (dC : Nat → ClassId) (dI : Nat → Nat → Nat) (cyI cyZ : ClassId) (qm qmd qmt qml qmk qmh qmw : Nat) (sz : Nat) (n : Nat) (lf : Int32) (dn : Nat) (pl : Int32) (k mz nh : Nat) (th : Int32) (ky : Int32)  : Met l yX5_commit wsX5_commit ({ frames := 5, cells := 0, slots := 0, locals := 117 }) (va_Pc [.ref qm, .int ky] (fun U => U.heap.size = sz ∧ va_P (dC, dI) vwCl [(qm, .inr (4, [.ref qmd, .ref qmt, .int (nI n), .int (bI false), .int lf, .int (nI dn), .int pl, .ref qml, .int (nI k), .ref qmk, .int (nI mz), .ref qmh, .int (nI nh), .int th, .ref qmw]))] U.heap ∧ va_K (dC, dI) vwCl [(cyI, .int), (cyZ, .boolean)] U ∧ va_D (fun _ => True) [(qm, .inr (4, [.ref qmd, .ref qmt, .int (nI n), .int (bI false), .int lf, .int (nI dn), .int pl, .ref qml, .int (nI k), .ref qmk, .int (nI mz), .ref qmh, .int (nI nh), .int th, .ref qmw]))])) (va_Qi (S := Unit) (fun (r : Int32) (_ : Unit) => r = (-4)) (fun (_ : Unit) tS => va_P (dC, dI) vwCl [(qm, .inr (4, [.ref qmd, .ref qmt, .int (nI n), .int (bI false), .int lf, .int (nI dn), .int pl, .ref qml, .int (nI k), .ref qmk, .int (nI mz), .ref qmh, .int (nI nh), .int (nI 0), .ref qmw]))] tS.heap ∧ va_K (dC, dI) vwCl [(cyI, .int), (cyZ, .boolean)] tS ∧ va_D (va_A [(qm, .inr (4, [.ref qmd, .ref qmt, .int (nI n), .int (bI false), .int lf, .int (nI dn), .int pl, .ref qml, .int (nI k), .ref qmk, .int (nI mz), .ref qmh, .int (nI nh), .int th, .ref qmw]))] sz) [(qm, .inr (4, [.ref qmd, .ref qmt, .int (nI n), .int (bI false), .int lf, .int (nI dn), .int pl, .ref qml, .int (nI k), .ref qmk, .int (nI mz), .ref qmh, .int (nI nh), .int (nI 0), .ref qmw]))]) (va_A [(qm, .inr (4, [.ref qmd, .ref qmt, .int (nI n), .int (bI false), .int lf, .int (nI dn), .int pl, .ref qml, .int (nI k), .ref qmk, .int (nI mz), .ref qmh, .int (nI nh), .int th, .ref qmw]))] sz)) 0 0 (va_A [(qm, .inr (4, [.ref qmd, .ref qmt, .int (nI n), .int (bI false), .int lf, .int (nI dn), .int pl, .ref qml, .int (nI k), .ref qmk, .int (nI mz), .ref qmh, .int (nI nh), .int th, .ref qmw]))] sz) := by
  refine Met.ofW (cc := cX5_commit) (maxL := 4) (ret := (some .int)) (by decide) rfl ?_
  intro pz ez sS mM args below meth cC s₁ B hml hv
  obtain ⟨rfl, hsz, hP, hK, hD0⟩ := hv
  have hx := B.exec
  have hb := B.bytes
  have hr := B.returns
  have hts := atoms_spec (ws := wsX5_commit) B.pre
  have hown : sS.vm.findClass RX5 = some mM.cls := findClass_of_methodNamed B.named
  have hlocks := B.notSynchronized
  subst hsz
  have hD := hD0.self (sz := sS.heap.size)
  generalize hAe : va_A [(qm, .inr (4, [.ref qmd, .ref qmt, .int (nI n), .int (bI false), .int lf, .int (nI dn), .int pl, .ref qml, .int (nI k), .ref qmk, .int (nI mz), .ref qmh, .int (nI nh), .int th, .ref qmw]))] sS.heap.size = A at hD ⊢
  have hA : ∀ q : Nat, sS.heap.size ≤ q → A q := fun q h => by rw [← hAe]; exact Or.inr h
  have hS : va_S A sS.heap sS.heap [] := va_S.rf
  have hP : va_P (dC, dI) vwCl [(qm, .inr (4, [.ref qmd, .ref qmt, .int (nI n), .int (bI false), .int lf, .int (nI dn), .int pl, .ref qml, .int (nI k), .ref qmk, .int (nI mz), .ref qmh, .int (nI nh), .int th, .ref qmw]))] sS.heap := hP
  have iwX5 : ∀ w ∈ wsX50, w ∈ wsX5_commit := by decide +kernel
  have fk16 := hts (.fieldLink RX5 16 "CodedStoreModel" "on" "Z") (by decide +kernel)
  have fk43 := hts (.fieldLink RX5 43 "CodedStoreModel" "thrown" "I") (by decide +kernel)
  have hl := lv_entry ([.ref qm, .int ky]) (n := 4) (Nat.le_of_ble_eq_true rfl)
  rw [lg_entry_eq]
  generalize (lg_sl ([.ref qm, .int ky]) ++ List.replicate (4 - (lg_sl ([.ref qm, .int ky])).length) Slot.unset).toArray = ls at hl ⊢
  have hl : lv_has ls 4 [(0, .ref qm), (1, .int ky)] := hl
  refine lv_aload_n hx hb dX5_commit_0 rfl (lv_at hl 0 rfl) ?_
  refine lv_iconst (v := nI 0) hx hb dX5_commit_1 (by decide) ?_
  refine va_put (D := (dC, dI)) (ci := 4) (v := .int (nI 0)) (ty := .int) (C := RX5) (T := TX5) (N := 15) hx hb hts iwX5 tyX5 tyX5_ok nmX5 hown hK hP hD hS 0 rfl rfl 13 (by decide) fk43 (fun _ h9 => h9) rfl (by decide +kernel) rfl rfl (Nat.le_of_ble_eq_true rfl) dX5_commit_2 (fun H locs hP hD hS => ?_)
  have hP : va_P (dC, dI) vwCl [(qm, .inr (4, [.ref qmd, .ref qmt, .int (nI n), .int (bI false), .int lf, .int (nI dn), .int pl, .ref qml, .int (nI k), .ref qmk, .int (nI mz), .ref qmh, .int (nI nh), .int (nI 0), .ref qmw]))] H := hP
  have hD : va_D A [(qm, .inr (4, [.ref qmd, .ref qmt, .int (nI n), .int (bI false), .int lf, .int (nI dn), .int pl, .ref qml, .int (nI k), .ref qmk, .int (nI mz), .ref qmh, .int (nI nh), .int (nI 0), .ref qmw]))] := hD
  refine lv_aload_n hx hb dX5_commit_5 rfl (lv_at hl 0 rfl) ?_
  refine va_get (D := (dC, dI)) (ci := 4) (v := .int (bI false)) (C := RX5) (T := TX5) (N := 15) hx hb hts iwX5 hown hK hP 0 rfl rfl 3 (by decide) fk16 (fun _ h9 => h9) rfl dX5_commit_6 ?_
  refine lv_if_ne (tgt := 15) hx hb dX5_commit_9 (by decide) (fun c_9 => absurd (by decide) c_9) (fun c_9 => ?_)
  refine lv_bipush (v := (-4)) hx hb dX5_commit_12 (by decide) ?_
  have hP9 := hP.sub (ws' := [(qm, .inr (4, [.ref qmd, .ref qmt, .int (nI n), .int (bI false), .int lf, .int (nI dn), .int pl, .ref qml, .int (nI k), .ref qmk, .int (nI mz), .ref qmh, .int (nI nh), .int (nI 0), .ref qmw]))]) [0] rfl
  have hD9 := hD.sub (ws' := [(qm, .inr (4, [.ref qmd, .ref qmt, .int (nI n), .int (bI false), .int lf, .int (nI dn), .int pl, .ref qml, .int (nI k), .ref qmk, .int (nI mz), .ref qmh, .int (nI nh), .int (nI 0), .ref qmw]))]) [0] (by decide) rfl
  have hK9 := hK.sub (tys' := [(cyI, .int), (cyZ, .boolean)]) [0, 1] rfl
  exact W.iret hx hb hr (fun tS ht hW => ⟨⟨_, (), rfl, rfl, by rw [ht]; exact hP9, va_K.moved hW.alike hK9, hD9⟩, hS.F ht⟩) hS.2.2 dX5_commit_14
set_option maxHeartbeats 4000000 in
set_option maxRecDepth 100000 in
theorem c_X5_delete_off (l : Launch) (dC : Nat → ClassId) (dI : Nat → Nat → Nat) (cyI cyZ : ClassId) (qm qmd qmt qml qmk qmh qmw : Nat) (sz : Nat) (n : Nat) (lf : Int32) (dn : Nat) (pl : Int32) (k mz nh : Nat) (th : Int32) (ky : Int32)  : Met l yX5_delete wsX5_delete ({ frames := 5, cells := 0, slots := 0, locals := 117 }) (va_Pc [.ref qm, .int ky] (fun U => U.heap.size = sz ∧ va_P (dC, dI) vwCl [(qm, .inr (4, [.ref qmd, .ref qmt, .int (nI n), .int (bI false), .int lf, .int (nI dn), .int pl, .ref qml, .int (nI k), .ref qmk, .int (nI mz), .ref qmh, .int (nI nh), .int th, .ref qmw]))] U.heap ∧ va_K (dC, dI) vwCl [(cyI, .int), (cyZ, .boolean)] U ∧ va_D (fun _ => True) [(qm, .inr (4, [.ref qmd, .ref qmt, .int (nI n), .int (bI false), .int lf, .int (nI dn), .int pl, .ref qml, .int (nI k), .ref qmk, .int (nI mz), .ref qmh, .int (nI nh), .int th, .ref qmw]))])) (va_Qi (S := Unit) (fun (r : Int32) (_ : Unit) => r = (-4)) (fun (_ : Unit) tS => va_P (dC, dI) vwCl [(qm, .inr (4, [.ref qmd, .ref qmt, .int (nI n), .int (bI false), .int lf, .int (nI dn), .int pl, .ref qml, .int (nI k), .ref qmk, .int (nI mz), .ref qmh, .int (nI nh), .int (nI 0), .ref qmw]))] tS.heap ∧ va_K (dC, dI) vwCl [(cyI, .int), (cyZ, .boolean)] tS ∧ va_D (va_A [(qm, .inr (4, [.ref qmd, .ref qmt, .int (nI n), .int (bI false), .int lf, .int (nI dn), .int pl, .ref qml, .int (nI k), .ref qmk, .int (nI mz), .ref qmh, .int (nI nh), .int th, .ref qmw]))] sz) [(qm, .inr (4, [.ref qmd, .ref qmt, .int (nI n), .int (bI false), .int lf, .int (nI dn), .int pl, .ref qml, .int (nI k), .ref qmk, .int (nI mz), .ref qmh, .int (nI nh), .int (nI 0), .ref qmw]))]) (va_A [(qm, .inr (4, [.ref qmd, .ref qmt, .int (nI n), .int (bI false), .int lf, .int (nI dn), .int pl, .ref qml, .int (nI k), .ref qmk, .int (nI mz), .ref qmh, .int (nI nh), .int th, .ref qmw]))] sz)) 0 0 (va_A [(qm, .inr (4, [.ref qmd, .ref qmt, .int (nI n), .int (bI false), .int lf, .int (nI dn), .int pl, .ref qml, .int (nI k), .ref qmk, .int (nI mz), .ref qmh, .int (nI nh), .int th, .ref qmw]))] sz) := by
  refine Met.ofW (cc := cX5_delete) (maxL := 3) (ret := (some .int)) (by decide) rfl ?_
  intro pz ez sS mM args below meth cC s₁ B hml hv
  obtain ⟨rfl, hsz, hP, hK, hD0⟩ := hv
  have hx := B.exec
  have hb := B.bytes
  have hr := B.returns
  have hts := atoms_spec (ws := wsX5_delete) B.pre
  have hown : sS.vm.findClass RX5 = some mM.cls := findClass_of_methodNamed B.named
  have hlocks := B.notSynchronized
  subst hsz
  have hD := hD0.self (sz := sS.heap.size)
  generalize hAe : va_A [(qm, .inr (4, [.ref qmd, .ref qmt, .int (nI n), .int (bI false), .int lf, .int (nI dn), .int pl, .ref qml, .int (nI k), .ref qmk, .int (nI mz), .ref qmh, .int (nI nh), .int th, .ref qmw]))] sS.heap.size = A at hD ⊢
  have hA : ∀ q : Nat, sS.heap.size ≤ q → A q := fun q h => by rw [← hAe]; exact Or.inr h
  have hS : va_S A sS.heap sS.heap [] := va_S.rf
  have hP : va_P (dC, dI) vwCl [(qm, .inr (4, [.ref qmd, .ref qmt, .int (nI n), .int (bI false), .int lf, .int (nI dn), .int pl, .ref qml, .int (nI k), .ref qmk, .int (nI mz), .ref qmh, .int (nI nh), .int th, .ref qmw]))] sS.heap := hP
  have iwX5 : ∀ w ∈ wsX50, w ∈ wsX5_delete := by decide +kernel
  have fk16 := hts (.fieldLink RX5 16 "CodedStoreModel" "on" "Z") (by decide +kernel)
  have fk43 := hts (.fieldLink RX5 43 "CodedStoreModel" "thrown" "I") (by decide +kernel)
  have hl := lv_entry ([.ref qm, .int ky]) (n := 3) (Nat.le_of_ble_eq_true rfl)
  rw [lg_entry_eq]
  generalize (lg_sl ([.ref qm, .int ky]) ++ List.replicate (3 - (lg_sl ([.ref qm, .int ky])).length) Slot.unset).toArray = ls at hl ⊢
  have hl : lv_has ls 3 [(0, .ref qm), (1, .int ky)] := hl
  refine lv_aload_n hx hb dX5_delete_0 rfl (lv_at hl 0 rfl) ?_
  refine lv_iconst (v := nI 0) hx hb dX5_delete_1 (by decide) ?_
  refine va_put (D := (dC, dI)) (ci := 4) (v := .int (nI 0)) (ty := .int) (C := RX5) (T := TX5) (N := 15) hx hb hts iwX5 tyX5 tyX5_ok nmX5 hown hK hP hD hS 0 rfl rfl 13 (by decide) fk43 (fun _ h9 => h9) rfl (by decide +kernel) rfl rfl (Nat.le_of_ble_eq_true rfl) dX5_delete_2 (fun H locs hP hD hS => ?_)
  have hP : va_P (dC, dI) vwCl [(qm, .inr (4, [.ref qmd, .ref qmt, .int (nI n), .int (bI false), .int lf, .int (nI dn), .int pl, .ref qml, .int (nI k), .ref qmk, .int (nI mz), .ref qmh, .int (nI nh), .int (nI 0), .ref qmw]))] H := hP
  have hD : va_D A [(qm, .inr (4, [.ref qmd, .ref qmt, .int (nI n), .int (bI false), .int lf, .int (nI dn), .int pl, .ref qml, .int (nI k), .ref qmk, .int (nI mz), .ref qmh, .int (nI nh), .int (nI 0), .ref qmw]))] := hD
  refine lv_aload_n hx hb dX5_delete_5 rfl (lv_at hl 0 rfl) ?_
  refine va_get (D := (dC, dI)) (ci := 4) (v := .int (bI false)) (C := RX5) (T := TX5) (N := 15) hx hb hts iwX5 hown hK hP 0 rfl rfl 3 (by decide) fk16 (fun _ h9 => h9) rfl dX5_delete_6 ?_
  refine lv_if_ne (tgt := 15) hx hb dX5_delete_9 (by decide) (fun c_9 => absurd (by decide) c_9) (fun c_9 => ?_)
  refine lv_bipush (v := (-4)) hx hb dX5_delete_12 (by decide) ?_
  have hP9 := hP.sub (ws' := [(qm, .inr (4, [.ref qmd, .ref qmt, .int (nI n), .int (bI false), .int lf, .int (nI dn), .int pl, .ref qml, .int (nI k), .ref qmk, .int (nI mz), .ref qmh, .int (nI nh), .int (nI 0), .ref qmw]))]) [0] rfl
  have hD9 := hD.sub (ws' := [(qm, .inr (4, [.ref qmd, .ref qmt, .int (nI n), .int (bI false), .int lf, .int (nI dn), .int pl, .ref qml, .int (nI k), .ref qmk, .int (nI mz), .ref qmh, .int (nI nh), .int (nI 0), .ref qmw]))]) [0] (by decide) rfl
  have hK9 := hK.sub (tys' := [(cyI, .int), (cyZ, .boolean)]) [0, 1] rfl
  exact W.iret hx hb hr (fun tS ht hW => ⟨⟨_, (), rfl, rfl, by rw [ht]; exact hP9, va_K.moved hW.alike hK9, hD9⟩, hS.F ht⟩) hS.2.2 dX5_delete_14
set_option maxHeartbeats 4000000 in
set_option maxRecDepth 100000 in
theorem c_X5_load_off (l : Launch) (dC : Nat → ClassId) (dI : Nat → Nat → Nat) (cyI cyZ : ClassId) (qm qmd qmt qml qmk qmh qmw : Nat) (sz : Nat) (n : Nat) (lf : Int32) (dn : Nat) (pl : Int32) (k mz nh : Nat) (th : Int32) (ky : Int32)  : Met l yX5_load wsX5_load ({ frames := 4, cells := 0, slots := 0, locals := 88 }) (va_Pc [.ref qm, .int ky] (fun U => U.heap.size = sz ∧ va_P (dC, dI) vwCl [(qm, .inr (4, [.ref qmd, .ref qmt, .int (nI n), .int (bI false), .int lf, .int (nI dn), .int pl, .ref qml, .int (nI k), .ref qmk, .int (nI mz), .ref qmh, .int (nI nh), .int th, .ref qmw]))] U.heap ∧ va_K (dC, dI) vwCl [(cyI, .int), (cyZ, .boolean)] U ∧ va_D (fun _ => True) [(qm, .inr (4, [.ref qmd, .ref qmt, .int (nI n), .int (bI false), .int lf, .int (nI dn), .int pl, .ref qml, .int (nI k), .ref qmk, .int (nI mz), .ref qmh, .int (nI nh), .int th, .ref qmw]))])) (va_Qi (S := Unit) (fun (r : Int32) (_ : Unit) => r = (-4)) (fun (_ : Unit) tS => va_P (dC, dI) vwCl [(qm, .inr (4, [.ref qmd, .ref qmt, .int (nI n), .int (bI false), .int lf, .int (nI dn), .int pl, .ref qml, .int (nI k), .ref qmk, .int (nI mz), .ref qmh, .int (nI nh), .int (nI 0), .ref qmw]))] tS.heap ∧ va_K (dC, dI) vwCl [(cyI, .int), (cyZ, .boolean)] tS ∧ va_D (va_A [(qm, .inr (4, [.ref qmd, .ref qmt, .int (nI n), .int (bI false), .int lf, .int (nI dn), .int pl, .ref qml, .int (nI k), .ref qmk, .int (nI mz), .ref qmh, .int (nI nh), .int th, .ref qmw]))] sz) [(qm, .inr (4, [.ref qmd, .ref qmt, .int (nI n), .int (bI false), .int lf, .int (nI dn), .int pl, .ref qml, .int (nI k), .ref qmk, .int (nI mz), .ref qmh, .int (nI nh), .int (nI 0), .ref qmw]))]) (va_A [(qm, .inr (4, [.ref qmd, .ref qmt, .int (nI n), .int (bI false), .int lf, .int (nI dn), .int pl, .ref qml, .int (nI k), .ref qmk, .int (nI mz), .ref qmh, .int (nI nh), .int th, .ref qmw]))] sz)) 0 0 (va_A [(qm, .inr (4, [.ref qmd, .ref qmt, .int (nI n), .int (bI false), .int lf, .int (nI dn), .int pl, .ref qml, .int (nI k), .ref qmk, .int (nI mz), .ref qmh, .int (nI nh), .int th, .ref qmw]))] sz) := by
  refine Met.ofW (cc := cX5_load) (maxL := 6) (ret := (some .int)) (by decide) rfl ?_
  intro pz ez sS mM args below meth cC s₁ B hml hv
  obtain ⟨rfl, hsz, hP, hK, hD0⟩ := hv
  have hx := B.exec
  have hb := B.bytes
  have hr := B.returns
  have hts := atoms_spec (ws := wsX5_load) B.pre
  have hown : sS.vm.findClass RX5 = some mM.cls := findClass_of_methodNamed B.named
  have hlocks := B.notSynchronized
  subst hsz
  have hD := hD0.self (sz := sS.heap.size)
  generalize hAe : va_A [(qm, .inr (4, [.ref qmd, .ref qmt, .int (nI n), .int (bI false), .int lf, .int (nI dn), .int pl, .ref qml, .int (nI k), .ref qmk, .int (nI mz), .ref qmh, .int (nI nh), .int th, .ref qmw]))] sS.heap.size = A at hD ⊢
  have hA : ∀ q : Nat, sS.heap.size ≤ q → A q := fun q h => by rw [← hAe]; exact Or.inr h
  have hS : va_S A sS.heap sS.heap [] := va_S.rf
  have hP : va_P (dC, dI) vwCl [(qm, .inr (4, [.ref qmd, .ref qmt, .int (nI n), .int (bI false), .int lf, .int (nI dn), .int pl, .ref qml, .int (nI k), .ref qmk, .int (nI mz), .ref qmh, .int (nI nh), .int th, .ref qmw]))] sS.heap := hP
  have iwX5 : ∀ w ∈ wsX50, w ∈ wsX5_load := by decide +kernel
  have fk16 := hts (.fieldLink RX5 16 "CodedStoreModel" "on" "Z") (by decide +kernel)
  have fk43 := hts (.fieldLink RX5 43 "CodedStoreModel" "thrown" "I") (by decide +kernel)
  have hl := lv_entry ([.ref qm, .int ky]) (n := 6) (Nat.le_of_ble_eq_true rfl)
  rw [lg_entry_eq]
  generalize (lg_sl ([.ref qm, .int ky]) ++ List.replicate (6 - (lg_sl ([.ref qm, .int ky])).length) Slot.unset).toArray = ls at hl ⊢
  have hl : lv_has ls 6 [(0, .ref qm), (1, .int ky)] := hl
  refine lv_aload_n hx hb dX5_load_0 rfl (lv_at hl 0 rfl) ?_
  refine lv_iconst (v := nI 0) hx hb dX5_load_1 (by decide) ?_
  refine va_put (D := (dC, dI)) (ci := 4) (v := .int (nI 0)) (ty := .int) (C := RX5) (T := TX5) (N := 15) hx hb hts iwX5 tyX5 tyX5_ok nmX5 hown hK hP hD hS 0 rfl rfl 13 (by decide) fk43 (fun _ h9 => h9) rfl (by decide +kernel) rfl rfl (Nat.le_of_ble_eq_true rfl) dX5_load_2 (fun H locs hP hD hS => ?_)
  have hP : va_P (dC, dI) vwCl [(qm, .inr (4, [.ref qmd, .ref qmt, .int (nI n), .int (bI false), .int lf, .int (nI dn), .int pl, .ref qml, .int (nI k), .ref qmk, .int (nI mz), .ref qmh, .int (nI nh), .int (nI 0), .ref qmw]))] H := hP
  have hD : va_D A [(qm, .inr (4, [.ref qmd, .ref qmt, .int (nI n), .int (bI false), .int lf, .int (nI dn), .int pl, .ref qml, .int (nI k), .ref qmk, .int (nI mz), .ref qmh, .int (nI nh), .int (nI 0), .ref qmw]))] := hD
  refine lv_aload_n hx hb dX5_load_5 rfl (lv_at hl 0 rfl) ?_
  refine va_get (D := (dC, dI)) (ci := 4) (v := .int (bI false)) (C := RX5) (T := TX5) (N := 15) hx hb hts iwX5 hown hK hP 0 rfl rfl 3 (by decide) fk16 (fun _ h9 => h9) rfl dX5_load_6 ?_
  refine lv_if_ne (tgt := 15) hx hb dX5_load_9 (by decide) (fun c_9 => absurd (by decide) c_9) (fun c_9 => ?_)
  refine lv_bipush (v := (-4)) hx hb dX5_load_12 (by decide) ?_
  have hP9 := hP.sub (ws' := [(qm, .inr (4, [.ref qmd, .ref qmt, .int (nI n), .int (bI false), .int lf, .int (nI dn), .int pl, .ref qml, .int (nI k), .ref qmk, .int (nI mz), .ref qmh, .int (nI nh), .int (nI 0), .ref qmw]))]) [0] rfl
  have hD9 := hD.sub (ws' := [(qm, .inr (4, [.ref qmd, .ref qmt, .int (nI n), .int (bI false), .int lf, .int (nI dn), .int pl, .ref qml, .int (nI k), .ref qmk, .int (nI mz), .ref qmh, .int (nI nh), .int (nI 0), .ref qmw]))]) [0] (by decide) rfl
  have hK9 := hK.sub (tys' := [(cyI, .int), (cyZ, .boolean)]) [0, 1] rfl
  exact W.iret hx hb hr (fun tS ht hW => ⟨⟨_, (), rfl, rfl, by rw [ht]; exact hP9, va_K.moved hW.alike hK9, hD9⟩, hS.F ht⟩) hS.2.2 dX5_load_14
set_option maxHeartbeats 4000000 in
set_option maxRecDepth 100000 in
theorem c_X5_clean_off (l : Launch) (dC : Nat → ClassId) (dI : Nat → Nat → Nat) (cyI cyZ : ClassId) (qm qmd qmt qml qmk qmh qmw : Nat) (sz : Nat) (n : Nat) (lf : Int32) (dn : Nat) (pl : Int32) (k mz nh : Nat) (th : Int32)  : Met l yX5_clean wsX5_clean ({ frames := 4, cells := 0, slots := 0, locals := 88 }) (va_Pc [.ref qm] (fun U => U.heap.size = sz ∧ va_P (dC, dI) vwCl [(qm, .inr (4, [.ref qmd, .ref qmt, .int (nI n), .int (bI false), .int lf, .int (nI dn), .int pl, .ref qml, .int (nI k), .ref qmk, .int (nI mz), .ref qmh, .int (nI nh), .int th, .ref qmw]))] U.heap ∧ va_K (dC, dI) vwCl [(cyI, .int), (cyZ, .boolean)] U ∧ va_D (fun _ => True) [(qm, .inr (4, [.ref qmd, .ref qmt, .int (nI n), .int (bI false), .int lf, .int (nI dn), .int pl, .ref qml, .int (nI k), .ref qmk, .int (nI mz), .ref qmh, .int (nI nh), .int th, .ref qmw]))])) (va_Qi (S := Unit) (fun (r : Int32) (_ : Unit) => r = (-4)) (fun (_ : Unit) tS => va_P (dC, dI) vwCl [(qm, .inr (4, [.ref qmd, .ref qmt, .int (nI n), .int (bI false), .int lf, .int (nI dn), .int pl, .ref qml, .int (nI k), .ref qmk, .int (nI mz), .ref qmh, .int (nI nh), .int (nI 0), .ref qmw]))] tS.heap ∧ va_K (dC, dI) vwCl [(cyI, .int), (cyZ, .boolean)] tS ∧ va_D (va_A [(qm, .inr (4, [.ref qmd, .ref qmt, .int (nI n), .int (bI false), .int lf, .int (nI dn), .int pl, .ref qml, .int (nI k), .ref qmk, .int (nI mz), .ref qmh, .int (nI nh), .int th, .ref qmw]))] sz) [(qm, .inr (4, [.ref qmd, .ref qmt, .int (nI n), .int (bI false), .int lf, .int (nI dn), .int pl, .ref qml, .int (nI k), .ref qmk, .int (nI mz), .ref qmh, .int (nI nh), .int (nI 0), .ref qmw]))]) (va_A [(qm, .inr (4, [.ref qmd, .ref qmt, .int (nI n), .int (bI false), .int lf, .int (nI dn), .int pl, .ref qml, .int (nI k), .ref qmk, .int (nI mz), .ref qmh, .int (nI nh), .int th, .ref qmw]))] sz)) 0 0 (va_A [(qm, .inr (4, [.ref qmd, .ref qmt, .int (nI n), .int (bI false), .int lf, .int (nI dn), .int pl, .ref qml, .int (nI k), .ref qmk, .int (nI mz), .ref qmh, .int (nI nh), .int th, .ref qmw]))] sz) := by
  refine Met.ofW (cc := cX5_clean) (maxL := 4) (ret := (some .int)) (by decide) rfl ?_
  intro pz ez sS mM args below meth cC s₁ B hml hv
  obtain ⟨rfl, hsz, hP, hK, hD0⟩ := hv
  have hx := B.exec
  have hb := B.bytes
  have hr := B.returns
  have hts := atoms_spec (ws := wsX5_clean) B.pre
  have hown : sS.vm.findClass RX5 = some mM.cls := findClass_of_methodNamed B.named
  have hlocks := B.notSynchronized
  subst hsz
  have hD := hD0.self (sz := sS.heap.size)
  generalize hAe : va_A [(qm, .inr (4, [.ref qmd, .ref qmt, .int (nI n), .int (bI false), .int lf, .int (nI dn), .int pl, .ref qml, .int (nI k), .ref qmk, .int (nI mz), .ref qmh, .int (nI nh), .int th, .ref qmw]))] sS.heap.size = A at hD ⊢
  have hA : ∀ q : Nat, sS.heap.size ≤ q → A q := fun q h => by rw [← hAe]; exact Or.inr h
  have hS : va_S A sS.heap sS.heap [] := va_S.rf
  have hP : va_P (dC, dI) vwCl [(qm, .inr (4, [.ref qmd, .ref qmt, .int (nI n), .int (bI false), .int lf, .int (nI dn), .int pl, .ref qml, .int (nI k), .ref qmk, .int (nI mz), .ref qmh, .int (nI nh), .int th, .ref qmw]))] sS.heap := hP
  have iwX5 : ∀ w ∈ wsX50, w ∈ wsX5_clean := by decide +kernel
  have fk16 := hts (.fieldLink RX5 16 "CodedStoreModel" "on" "Z") (by decide +kernel)
  have fk43 := hts (.fieldLink RX5 43 "CodedStoreModel" "thrown" "I") (by decide +kernel)
  have hl := lv_entry ([.ref qm]) (n := 4) (Nat.le_of_ble_eq_true rfl)
  rw [lg_entry_eq]
  generalize (lg_sl ([.ref qm]) ++ List.replicate (4 - (lg_sl ([.ref qm])).length) Slot.unset).toArray = ls at hl ⊢
  have hl : lv_has ls 4 [(0, .ref qm)] := hl
  refine lv_aload_n hx hb dX5_clean_0 rfl (lv_at hl 0 rfl) ?_
  refine lv_iconst (v := nI 0) hx hb dX5_clean_1 (by decide) ?_
  refine va_put (D := (dC, dI)) (ci := 4) (v := .int (nI 0)) (ty := .int) (C := RX5) (T := TX5) (N := 15) hx hb hts iwX5 tyX5 tyX5_ok nmX5 hown hK hP hD hS 0 rfl rfl 13 (by decide) fk43 (fun _ h9 => h9) rfl (by decide +kernel) rfl rfl (Nat.le_of_ble_eq_true rfl) dX5_clean_2 (fun H locs hP hD hS => ?_)
  have hP : va_P (dC, dI) vwCl [(qm, .inr (4, [.ref qmd, .ref qmt, .int (nI n), .int (bI false), .int lf, .int (nI dn), .int pl, .ref qml, .int (nI k), .ref qmk, .int (nI mz), .ref qmh, .int (nI nh), .int (nI 0), .ref qmw]))] H := hP
  have hD : va_D A [(qm, .inr (4, [.ref qmd, .ref qmt, .int (nI n), .int (bI false), .int lf, .int (nI dn), .int pl, .ref qml, .int (nI k), .ref qmk, .int (nI mz), .ref qmh, .int (nI nh), .int (nI 0), .ref qmw]))] := hD
  refine lv_aload_n hx hb dX5_clean_5 rfl (lv_at hl 0 rfl) ?_
  refine va_get (D := (dC, dI)) (ci := 4) (v := .int (bI false)) (C := RX5) (T := TX5) (N := 15) hx hb hts iwX5 hown hK hP 0 rfl rfl 3 (by decide) fk16 (fun _ h9 => h9) rfl dX5_clean_6 ?_
  refine lv_if_ne (tgt := 15) hx hb dX5_clean_9 (by decide) (fun c_9 => absurd (by decide) c_9) (fun c_9 => ?_)
  refine lv_bipush (v := (-4)) hx hb dX5_clean_12 (by decide) ?_
  have hP9 := hP.sub (ws' := [(qm, .inr (4, [.ref qmd, .ref qmt, .int (nI n), .int (bI false), .int lf, .int (nI dn), .int pl, .ref qml, .int (nI k), .ref qmk, .int (nI mz), .ref qmh, .int (nI nh), .int (nI 0), .ref qmw]))]) [0] rfl
  have hD9 := hD.sub (ws' := [(qm, .inr (4, [.ref qmd, .ref qmt, .int (nI n), .int (bI false), .int lf, .int (nI dn), .int pl, .ref qml, .int (nI k), .ref qmk, .int (nI mz), .ref qmh, .int (nI nh), .int (nI 0), .ref qmw]))]) [0] (by decide) rfl
  have hK9 := hK.sub (tys' := [(cyI, .int), (cyZ, .boolean)]) [0, 1] rfl
  exact W.iret hx hb hr (fun tS ht hW => ⟨⟨_, (), rfl, rfl, by rw [ht]; exact hP9, va_K.moved hW.alike hK9, hD9⟩, hS.F ht⟩) hS.2.2 dX5_clean_14
set_option maxHeartbeats 4000000 in
set_option maxRecDepth 100000 in
theorem c_X5_commit (l : Launch) (dC : Nat → ClassId) (dI : Nat → Nat → Nat) (cyI cyZ : ClassId) (qm qmd qmt qmk qmh qmw qml : Nat) (sz : Nat) (n : Nat) (lf : Int32) (dn : Nat) (pl : Int32) (k mz nh : Nat) (th : Int32) (w : Nat → Int32) (T : Nat → Int32) (M : Nat → Int32) (Hd : Nat → Int32) (WL : Nat → Int32) (ky : Int32) (hn : n ≤ 400) (hdn0 : dn < 900000) (HP0 : kPos w) : Met l yX5_commit wsX5_commit ({ frames := 5, cells := 0, slots := 0, locals := 117 }) (va_Pc [.ref qm, .int ky] (fun U => U.heap.size = sz ∧ va_P (dC, dI) vwCl [(qm, .inr (4, [.ref qmd, .ref qmt, .int (nI n), .int (bI true), .int lf, .int (nI dn), .int pl, .ref qml, .int (nI k), .ref qmk, .int (nI mz), .ref qmh, .int (nI nh), .int th, .ref qmw])), (qmd, .inl (cyI, 512, .inl w)), (qmt, .inl (cyI, 400, .inl T)), (qmk, .inl (cyI, 460, .inl M)), (qmh, .inl (cyI, 460, .inl Hd)), (qmw, .inl (cyZ, 64, .inl WL))] U.heap ∧ va_K (dC, dI) vwCl [(cyI, .int), (cyZ, .boolean)] U ∧ va_D (fun _ => True) [(qm, .inr (4, [.ref qmd, .ref qmt, .int (nI n), .int (bI true), .int lf, .int (nI dn), .int pl, .ref qml, .int (nI k), .ref qmk, .int (nI mz), .ref qmh, .int (nI nh), .int th, .ref qmw])), (qmd, .inl (cyI, 512, .inl w)), (qmt, .inl (cyI, 400, .inl T)), (qmk, .inl (cyI, 460, .inl M)), (qmh, .inl (cyI, 460, .inl Hd)), (qmw, .inl (cyZ, 64, .inl WL))])) (va_Qi (S := Bool × (Nat → Int32) × Int32 × Nat × (Nat → Int32) × Nat × (Nat → Int32) × Nat × (Nat → Int32)) (fun (r : Int32) (uU : Bool × (Nat → Int32) × Int32 × Nat × (Nat → Int32) × Nat × (Nat → Int32) × Nat × (Nat → Int32)) => match uU with | (on1, w1, lf1, dn1, WL1, nh1, H1, mz1, M1) => ((r, on1, w1, lf1, dn1) = kCommit w lf dn ky n T) ∧ (dn ≤ dn1 ∧ dn1 ≤ dn + 128)) (fun (uU : Bool × (Nat → Int32) × Int32 × Nat × (Nat → Int32) × Nat × (Nat → Int32) × Nat × (Nat → Int32)) tS => match uU with | (on1, w1, lf1, dn1, WL1, nh1, H1, mz1, M1) => va_P (dC, dI) vwCl [(qm, .inr (4, [.ref qmd, .ref qmt, .int (nI 0), .int (bI on1), .int (kUn on1 lf1), .int (nI dn1), .int pl, .ref qml, .int (nI k), .ref qmk, .int (nI mz1), .ref qmh, .int (nI nh1), .int (nI 0), .ref qmw])), (qmd, .inl (cyI, 512, .inl w1)), (qmt, .inl (cyI, 400, .inl T)), (qmk, .inl (cyI, 460, .inl M1)), (qmh, .inl (cyI, 460, .inl H1)), (qmw, .inl (cyZ, 64, .inl WL1))] tS.heap ∧ va_K (dC, dI) vwCl [(cyI, .int), (cyZ, .boolean)] tS ∧ va_D (va_A [(qm, .inr (4, [.ref qmd, .ref qmt, .int (nI n), .int (bI true), .int lf, .int (nI dn), .int pl, .ref qml, .int (nI k), .ref qmk, .int (nI mz), .ref qmh, .int (nI nh), .int th, .ref qmw])), (qmd, .inl (cyI, 512, .inl w)), (qmt, .inl (cyI, 400, .inl T)), (qmk, .inl (cyI, 460, .inl M)), (qmh, .inl (cyI, 460, .inl Hd)), (qmw, .inl (cyZ, 64, .inl WL))] sz) [(qm, .inr (4, [.ref qmd, .ref qmt, .int (nI 0), .int (bI on1), .int (kUn on1 lf1), .int (nI dn1), .int pl, .ref qml, .int (nI k), .ref qmk, .int (nI mz1), .ref qmh, .int (nI nh1), .int (nI 0), .ref qmw])), (qmd, .inl (cyI, 512, .inl w1)), (qmt, .inl (cyI, 400, .inl T)), (qmk, .inl (cyI, 460, .inl M1)), (qmh, .inl (cyI, 460, .inl H1)), (qmw, .inl (cyZ, 64, .inl WL1))]) (va_A [(qm, .inr (4, [.ref qmd, .ref qmt, .int (nI n), .int (bI true), .int lf, .int (nI dn), .int pl, .ref qml, .int (nI k), .ref qmk, .int (nI mz), .ref qmh, .int (nI nh), .int th, .ref qmw])), (qmd, .inl (cyI, 512, .inl w)), (qmt, .inl (cyI, 400, .inl T)), (qmk, .inl (cyI, 460, .inl M)), (qmh, .inl (cyI, 460, .inl Hd)), (qmw, .inl (cyZ, 64, .inl WL))] sz)) 0 0 (va_A [(qm, .inr (4, [.ref qmd, .ref qmt, .int (nI n), .int (bI true), .int lf, .int (nI dn), .int pl, .ref qml, .int (nI k), .ref qmk, .int (nI mz), .ref qmh, .int (nI nh), .int th, .ref qmw])), (qmd, .inl (cyI, 512, .inl w)), (qmt, .inl (cyI, 400, .inl T)), (qmk, .inl (cyI, 460, .inl M)), (qmh, .inl (cyI, 460, .inl Hd)), (qmw, .inl (cyZ, 64, .inl WL))] sz) := by
  refine Met.ofW (cc := cX5_commit) (maxL := 4) (ret := (some .int)) (by decide) rfl ?_
  intro pz ez sS mM args below meth cC s₁ B hml hv
  obtain ⟨rfl, hsz, hP, hK, hD0⟩ := hv
  have hx := B.exec
  have hb := B.bytes
  have hr := B.returns
  have hts := atoms_spec (ws := wsX5_commit) B.pre
  have hown : sS.vm.findClass RX5 = some mM.cls := findClass_of_methodNamed B.named
  have hlocks := B.notSynchronized
  subst hsz
  have hD := hD0.self (sz := sS.heap.size)
  generalize hAe : va_A [(qm, .inr (4, [.ref qmd, .ref qmt, .int (nI n), .int (bI true), .int lf, .int (nI dn), .int pl, .ref qml, .int (nI k), .ref qmk, .int (nI mz), .ref qmh, .int (nI nh), .int th, .ref qmw])), (qmd, .inl (cyI, 512, .inl w)), (qmt, .inl (cyI, 400, .inl T)), (qmk, .inl (cyI, 460, .inl M)), (qmh, .inl (cyI, 460, .inl Hd)), (qmw, .inl (cyZ, 64, .inl WL))] sS.heap.size = A at hD ⊢
  have hA : ∀ q : Nat, sS.heap.size ≤ q → A q := fun q h => by rw [← hAe]; exact Or.inr h
  have hS : va_S A sS.heap sS.heap [] := va_S.rf
  have hP : va_P (dC, dI) vwCl [(qm, .inr (4, [.ref qmd, .ref qmt, .int (nI n), .int (bI true), .int lf, .int (nI dn), .int pl, .ref qml, .int (nI k), .ref qmk, .int (nI mz), .ref qmh, .int (nI nh), .int th, .ref qmw])), (qmd, .inl (cyI, 512, .inl w)), (qmt, .inl (cyI, 400, .inl T)), (qmk, .inl (cyI, 460, .inl M)), (qmh, .inl (cyI, 460, .inl Hd)), (qmw, .inl (cyZ, 64, .inl WL))] sS.heap := hP
  have iwX5 : ∀ w ∈ wsX50, w ∈ wsX5_commit := by decide +kernel
  have fk16 := hts (.fieldLink RX5 16 "CodedStoreModel" "on" "Z") (by decide +kernel)
  have fk30 := hts (.fieldLink RX5 30 "CodedStoreModel" "made" "[I") (by decide +kernel)
  have fk33 := hts (.fieldLink RX5 33 "CodedStoreModel" "hand" "[I") (by decide +kernel)
  have fk43 := hts (.fieldLink RX5 43 "CodedStoreModel" "thrown" "I") (by decide +kernel)
  have fk48 := hts (.fieldLink RX5 48 "CodedStoreModel" "handSize" "I") (by decide +kernel)
  have fk51 := hts (.fieldLink RX5 51 "CodedStoreModel" "madeSize" "I") (by decide +kernel)
  have hl := lv_entry ([.ref qm, .int ky]) (n := 4) (Nat.le_of_ble_eq_true rfl)
  rw [lg_entry_eq]
  generalize (lg_sl ([.ref qm, .int ky]) ++ List.replicate (4 - (lg_sl ([.ref qm, .int ky])).length) Slot.unset).toArray = ls at hl ⊢
  have hl : lv_has ls 4 [(0, .ref qm), (1, .int ky)] := hl
  refine lv_aload_n hx hb dX5_commit_0 rfl (lv_at hl 0 rfl) ?_
  refine lv_iconst (v := nI 0) hx hb dX5_commit_1 (by decide) ?_
  refine va_put (D := (dC, dI)) (ci := 4) (v := .int (nI 0)) (ty := .int) (C := RX5) (T := TX5) (N := 15) hx hb hts iwX5 tyX5 tyX5_ok nmX5 hown hK hP hD hS 0 rfl rfl 13 (by decide) fk43 (fun _ h9 => h9) rfl (by decide +kernel) rfl rfl (Nat.le_of_ble_eq_true rfl) dX5_commit_2 (fun H locs hP hD hS => ?_)
  have hP : va_P (dC, dI) vwCl [(qm, .inr (4, [.ref qmd, .ref qmt, .int (nI n), .int (bI true), .int lf, .int (nI dn), .int pl, .ref qml, .int (nI k), .ref qmk, .int (nI mz), .ref qmh, .int (nI nh), .int (nI 0), .ref qmw])), (qmd, .inl (cyI, 512, .inl w)), (qmt, .inl (cyI, 400, .inl T)), (qmk, .inl (cyI, 460, .inl M)), (qmh, .inl (cyI, 460, .inl Hd)), (qmw, .inl (cyZ, 64, .inl WL))] H := hP
  have hD : va_D A [(qm, .inr (4, [.ref qmd, .ref qmt, .int (nI n), .int (bI true), .int lf, .int (nI dn), .int pl, .ref qml, .int (nI k), .ref qmk, .int (nI mz), .ref qmh, .int (nI nh), .int (nI 0), .ref qmw])), (qmd, .inl (cyI, 512, .inl w)), (qmt, .inl (cyI, 400, .inl T)), (qmk, .inl (cyI, 460, .inl M)), (qmh, .inl (cyI, 460, .inl Hd)), (qmw, .inl (cyZ, 64, .inl WL))] := hD
  refine lv_aload_n hx hb dX5_commit_5 rfl (lv_at hl 0 rfl) ?_
  refine va_get (D := (dC, dI)) (ci := 4) (v := .int (bI true)) (C := RX5) (T := TX5) (N := 15) hx hb hts iwX5 hown hK hP 0 rfl rfl 3 (by decide) fk16 (fun _ h9 => h9) rfl dX5_commit_6 ?_
  refine lv_if_ne (tgt := 15) hx hb dX5_commit_9 (by decide) (fun c_9 => ?_) (fun c_9 => absurd c_9 (by decide))
  refine lv_aload_n hx hb dX5_commit_15 rfl (lv_at hl 0 rfl) ?_
  have hPc := hP.sub (ws' := [(qm, .inr (4, [.ref qmd, .ref qmt, .int (nI n), .int (bI true), .int lf, .int (nI dn), .int pl, .ref qml, .int (nI k), .ref qmk, .int (nI mz), .ref qmh, .int (nI nh), .int (nI 0), .ref qmw])), (qmt, .inl (cyI, 400, .inl T)), (qmh, .inl (cyI, 460, .inl Hd))]) [0, 2, 4] rfl
  have hKc := hK.sub (tys' := [(cyI, .int), (cyZ, .boolean)]) [0, 1] rfl
  have hDc := hD.sub (ws' := [(qm, .inr (4, [.ref qmd, .ref qmt, .int (nI n), .int (bI true), .int lf, .int (nI dn), .int pl, .ref qml, .int (nI k), .ref qmk, .int (nI mz), .ref qmh, .int (nI nh), .int (nI 0), .ref qmw])), (qmt, .inl (cyI, 400, .inl T)), (qmh, .inl (cyI, 460, .inl Hd))]) [0, 2, 4] (by decide) rfl
  have hFc := va_free (wc := [(qm, .inr (4, [.ref qmd, .ref qmt, .int (nI n), .int (bI true), .int lf, .int (nI dn), .int pl, .ref qml, .int (nI k), .ref qmk, .int (nI mz), .ref qmh, .int (nI nh), .int (nI 0), .ref qmw])), (qmt, .inl (cyI, 400, .inl T)), (qmh, .inl (cyI, 460, .inl Hd))]) hD hS hA [0, 2, 4] rfl
  refine va_callv (va_runV (As := []) (rest := []) ⟨hx, hb, hml, hown, hts⟩ (c_X5_takeTape l dC dI cyI cyZ qm qmt qmh qmd qml qmk qmw H.size n true lf dn pl k mz nh (nI 0) T Hd (by omega)) (cwV 0 hts gX5_commit_X5_takeTape rfl rfl rfl (by decide +kernel) ⟨Nat.le_of_ble_eq_true rfl, Nat.le_of_ble_eq_true rfl⟩) ⟨zz_blW, va_recv hKc hPc (ci := 4) (q0 := 0) rfl rfl, fun U hU hW => ⟨rfl, by rw [hU], by rw [hU]; exact hPc, va_K.moved hW.alike hKc, hDc.weaken (fun _ _ _ _ => trivial)⟩⟩ rfl rfl hl.1 rfl (lv_room (Nat.le_of_ble_eq_true rfl)) dX5_commit_16 ⟨Nat.zero_le _, Nat.zero_le _⟩) hS (fun q _ h => hFc q h) hFc (fun uU tS H1 locs ht9 hvm9 hw9 hB9 hz1 hk1 hS => ?_)
  obtain ⟨H1_16, rfl⟩ : ∃ z, z = uU := ⟨_, rfl⟩
  obtain ⟨hP1, hK1, hD1⟩ := hB9
  have hw9 : (∀ j, j < n → H1_16 j = T j) := hw9
  have hH1_16 := hw9
  rw [ht9] at hP1
  have hK1 := va_K.moved hvm9.symm hK1
  obtain ⟨hP, hD⟩ := va_join (wr := [(qmd, .inl (cyI, 512, .inl w)), (qmk, .inl (cyI, 460, .inl M)), (qmw, .inl (cyZ, 64, .inl WL))]) (w1 := [(qm, .inr (4, [.ref qmd, .ref qmt, .int (nI 0), .int (bI true), .int lf, .int (nI dn), .int pl, .ref qml, .int (nI k), .ref qmk, .int (nI mz), .ref qmh, .int (nI n), .int (nI 0), .ref qmw])), (qmt, .inl (cyI, 400, .inl T)), (qmh, .inl (cyI, 460, .inl H1_16))]) hP hD [0, 2, 4] [1, 3, 5] rfl rfl (by decide) (by decide) hk1 hFc hP1 hD1
  generalize H1 = H at hP hS ⊢
  have hP : va_P (dC, dI) vwCl [(qmd, .inl (cyI, 512, .inl w)), (qmk, .inl (cyI, 460, .inl M)), (qmw, .inl (cyZ, 64, .inl WL)), (qm, .inr (4, [.ref qmd, .ref qmt, .int (nI 0), .int (bI true), .int lf, .int (nI dn), .int pl, .ref qml, .int (nI k), .ref qmk, .int (nI mz), .ref qmh, .int (nI n), .int (nI 0), .ref qmw])), (qmt, .inl (cyI, 400, .inl T)), (qmh, .inl (cyI, 460, .inl H1_16))] H := hP
  have hD : va_D A [(qmd, .inl (cyI, 512, .inl w)), (qmk, .inl (cyI, 460, .inl M)), (qmw, .inl (cyZ, 64, .inl WL)), (qm, .inr (4, [.ref qmd, .ref qmt, .int (nI 0), .int (bI true), .int lf, .int (nI dn), .int pl, .ref qml, .int (nI k), .ref qmk, .int (nI mz), .ref qmh, .int (nI n), .int (nI 0), .ref qmw])), (qmt, .inl (cyI, 400, .inl T)), (qmh, .inl (cyI, 460, .inl H1_16))] := hD
  refine lv_aload_n hx hb dX5_commit_19 rfl (lv_at hl 0 rfl) ?_
  have hPc := hP.sub (ws' := [(qm, .inr (4, [.ref qmd, .ref qmt, .int (nI 0), .int (bI true), .int lf, .int (nI dn), .int pl, .ref qml, .int (nI k), .ref qmk, .int (nI mz), .ref qmh, .int (nI n), .int (nI 0), .ref qmw])), (qmk, .inl (cyI, 460, .inl M)), (qmh, .inl (cyI, 460, .inl H1_16))]) [3, 1, 5] rfl
  have hKc := hK.sub (tys' := [(cyI, .int), (cyZ, .boolean)]) [0, 1] rfl
  have hDc := hD.sub (ws' := [(qm, .inr (4, [.ref qmd, .ref qmt, .int (nI 0), .int (bI true), .int lf, .int (nI dn), .int pl, .ref qml, .int (nI k), .ref qmk, .int (nI mz), .ref qmh, .int (nI n), .int (nI 0), .ref qmw])), (qmk, .inl (cyI, 460, .inl M)), (qmh, .inl (cyI, 460, .inl H1_16))]) [3, 1, 5] (by decide) rfl
  have hFc := va_free (wc := [(qm, .inr (4, [.ref qmd, .ref qmt, .int (nI 0), .int (bI true), .int lf, .int (nI dn), .int pl, .ref qml, .int (nI k), .ref qmk, .int (nI mz), .ref qmh, .int (nI n), .int (nI 0), .ref qmw])), (qmk, .inl (cyI, 460, .inl M)), (qmh, .inl (cyI, 460, .inl H1_16))]) hD hS hA [3, 1, 5] rfl
  refine va_callv (va_runV (As := []) (rest := []) ⟨hx, hb, hml, hown, hts⟩ (c_X5_code l dC dI cyI cyZ qm qmk qmh qmd qmt qml qmw H.size 0 true lf dn pl k mz n (nI 0) M H1_16 (by omega)) (cwV 0 hts gX5_commit_X5_code rfl rfl rfl (by decide +kernel) ⟨Nat.le_of_ble_eq_true rfl, Nat.le_of_ble_eq_true rfl⟩) ⟨zz_blW, va_recv hKc hPc (ci := 4) (q0 := 0) rfl rfl, fun U hU hW => ⟨rfl, by rw [hU], by rw [hU]; exact hPc, va_K.moved hW.alike hKc, hDc.weaken (fun _ _ _ _ => trivial)⟩⟩ rfl rfl hl.1 rfl (lv_room (Nat.le_of_ble_eq_true rfl)) dX5_commit_20 ⟨Nat.zero_le _, Nat.zero_le _⟩) hS (fun q _ h => hFc q h) hFc (fun uU tS H1 locs ht9 hvm9 hw9 hB9 hz1 hk1 hS => ?_)
  obtain ⟨m1_20, M1_20⟩ := uU
  obtain ⟨hP1, hK1, hD1⟩ := hB9
  have hw9 : (m1_20 = (zE H1_16 n).1) ∧ (∀ j, j < m1_20 → M1_20 j = (zE H1_16 n).2 j) ∧ (m1_20 ≤ 450) := hw9
  obtain ⟨hm1_20, hM1_20, hmm_20⟩ := hw9
  rw [ht9] at hP1
  have hK1 := va_K.moved hvm9.symm hK1
  obtain ⟨hP, hD⟩ := va_join (wr := [(qmd, .inl (cyI, 512, .inl w)), (qmw, .inl (cyZ, 64, .inl WL)), (qmt, .inl (cyI, 400, .inl T))]) (w1 := [(qm, .inr (4, [.ref qmd, .ref qmt, .int (nI 0), .int (bI true), .int lf, .int (nI dn), .int pl, .ref qml, .int (nI k), .ref qmk, .int (nI m1_20), .ref qmh, .int (nI n), .int (nI 0), .ref qmw])), (qmk, .inl (cyI, 460, .inl M1_20)), (qmh, .inl (cyI, 460, .inl H1_16))]) hP hD [3, 1, 5] [0, 2, 4] rfl rfl (by decide) (by decide) hk1 hFc hP1 hD1
  generalize H1 = H at hP hS ⊢
  have hP : va_P (dC, dI) vwCl [(qmd, .inl (cyI, 512, .inl w)), (qmw, .inl (cyZ, 64, .inl WL)), (qmt, .inl (cyI, 400, .inl T)), (qm, .inr (4, [.ref qmd, .ref qmt, .int (nI 0), .int (bI true), .int lf, .int (nI dn), .int pl, .ref qml, .int (nI k), .ref qmk, .int (nI m1_20), .ref qmh, .int (nI n), .int (nI 0), .ref qmw])), (qmk, .inl (cyI, 460, .inl M1_20)), (qmh, .inl (cyI, 460, .inl H1_16))] H := hP
  have hD : va_D A [(qmd, .inl (cyI, 512, .inl w)), (qmw, .inl (cyZ, 64, .inl WL)), (qmt, .inl (cyI, 400, .inl T)), (qm, .inr (4, [.ref qmd, .ref qmt, .int (nI 0), .int (bI true), .int lf, .int (nI dn), .int pl, .ref qml, .int (nI k), .ref qmk, .int (nI m1_20), .ref qmh, .int (nI n), .int (nI 0), .ref qmw])), (qmk, .inl (cyI, 460, .inl M1_20)), (qmh, .inl (cyI, 460, .inl H1_16))] := hD
  refine lv_aload_n hx hb dX5_commit_23 rfl (lv_at hl 0 rfl) ?_
  refine va_get (D := (dC, dI)) (ci := 4) (v := .int (nI m1_20)) (C := RX5) (T := TX5) (N := 15) hx hb hts iwX5 hown hK hP 3 rfl rfl 10 (by decide) fk51 (fun _ h9 => h9) rfl dX5_commit_24 ?_
  refine lv_aload_n hx hb dX5_commit_27 rfl (lv_at hl 0 rfl) ?_
  refine va_get (D := (dC, dI)) (ci := 4) (v := .int (nI n)) (C := RX5) (T := TX5) (N := 15) hx hb hts iwX5 hown hK hP 3 rfl rfl 12 (by decide) fk48 (fun _ h9 => h9) rfl dX5_commit_28 ?_
  refine zn_icmp_ge (tgt := 38) hx hb dX5_commit_31 (by decide) (by omega) (by omega) (fun c_31 => ?_) (fun c_31 => ?_)
  ·
    refine lv_iconst (v := nI 0) hx hb dX5_commit_38 (by decide) ?_
    refine lv_istore_n (lv' := [(2, .int (nI 0)), (0, .ref qm), (1, .int ky)]) hx hb dX5_commit_39 rfl hl (by decide) rfl (fun ls hl => ?_)
    refine lv_iload_n hx hb dX5_commit_40 rfl (lv_at hl 0 rfl) ?_
    refine lv_if_ne (tgt := 80) hx hb dX5_commit_41 (by decide) (fun c_41 => absurd (by decide) c_41) (fun c_41 => ?_)
    refine lv_aload_n hx hb dX5_commit_44 rfl (lv_at hl 1 rfl) ?_
    refine lv_aload_n hx hb dX5_commit_45 rfl (lv_at hl 1 rfl) ?_
    refine va_get (D := (dC, dI)) (ci := 4) (v := .int (nI n)) (C := RX5) (T := TX5) (N := 15) hx hb hts iwX5 hown hK hP 3 rfl rfl 12 (by decide) fk48 (fun _ h9 => h9) rfl dX5_commit_46 ?_
    refine va_put (D := (dC, dI)) (ci := 4) (v := .int (nI n)) (ty := .int) (C := RX5) (T := TX5) (N := 15) hx hb hts iwX5 tyX5 tyX5_ok nmX5 hown hK hP hD hS 3 rfl rfl 10 (by decide) fk51 (fun _ h9 => h9) rfl (by decide +kernel) rfl rfl (Nat.le_of_ble_eq_true rfl) dX5_commit_49 (fun H locs hP hD hS => ?_)
    have hP : va_P (dC, dI) vwCl [(qmd, .inl (cyI, 512, .inl w)), (qmw, .inl (cyZ, 64, .inl WL)), (qmt, .inl (cyI, 400, .inl T)), (qm, .inr (4, [.ref qmd, .ref qmt, .int (nI 0), .int (bI true), .int lf, .int (nI dn), .int pl, .ref qml, .int (nI k), .ref qmk, .int (nI n), .ref qmh, .int (nI n), .int (nI 0), .ref qmw])), (qmk, .inl (cyI, 460, .inl M1_20)), (qmh, .inl (cyI, 460, .inl H1_16))] H := hP
    have hD : va_D A [(qmd, .inl (cyI, 512, .inl w)), (qmw, .inl (cyZ, 64, .inl WL)), (qmt, .inl (cyI, 400, .inl T)), (qm, .inr (4, [.ref qmd, .ref qmt, .int (nI 0), .int (bI true), .int lf, .int (nI dn), .int pl, .ref qml, .int (nI k), .ref qmk, .int (nI n), .ref qmh, .int (nI n), .int (nI 0), .ref qmw])), (qmk, .inl (cyI, 460, .inl M1_20)), (qmh, .inl (cyI, 460, .inl H1_16))] := hD
    refine lv_iconst (v := nI 0) hx hb dX5_commit_52 (by decide) ?_
    refine lv_istore_n (lv' := [(3, .int (nI 0)), (2, .int (nI 0)), (0, .ref qm), (1, .int ky)]) hx hb dX5_commit_53 rfl hl (by decide) rfl (fun ls hl => ?_)
    refine zz_loopW (pc := 54) (μ := fun (x : Nat × (Nat → Int32)) => match x with | (i, M9) => n - i) (Inv := fun (x : Nat × (Nat → Int32)) (H : Heap) (locs : List Loc) (ls : Array Slot) => match x with | (i, M9) => (i ≤ n) ∧ (∀ j, j < i → M9 j = H1_16 j) ∧ va_P (dC, dI) vwCl [(qmd, .inl (cyI, 512, .inl w)), (qmw, .inl (cyZ, 64, .inl WL)), (qmt, .inl (cyI, 400, .inl T)), (qm, .inr (4, [.ref qmd, .ref qmt, .int (nI 0), .int (bI true), .int lf, .int (nI dn), .int pl, .ref qml, .int (nI k), .ref qmk, .int (nI n), .ref qmh, .int (nI n), .int (nI 0), .ref qmw])), (qmk, .inl (cyI, 460, .inl M9)), (qmh, .inl (cyI, 460, .inl H1_16))] H ∧ va_D A [(qmd, .inl (cyI, 512, .inl w)), (qmw, .inl (cyZ, 64, .inl WL)), (qmt, .inl (cyI, 400, .inl T)), (qm, .inr (4, [.ref qmd, .ref qmt, .int (nI 0), .int (bI true), .int lf, .int (nI dn), .int pl, .ref qml, .int (nI k), .ref qmk, .int (nI n), .ref qmh, .int (nI n), .int (nI 0), .ref qmw])), (qmk, .inl (cyI, 460, .inl M9)), (qmh, .inl (cyI, 460, .inl H1_16))] ∧ va_S A sS.heap H locs ∧ lv_has ls 4 [(0, .ref qm), (1, .int ky), (2, .int (nI 0)), (3, .int (nI i))]) (x0 := (0, M1_20)) ⟨by omega, no_lt0, hP, hD, hS, lv_sub hl [2, 3, 1, 0] rfl⟩ ?_
    intro ⟨i, M9⟩ H locs ls hI ih54
    obtain ⟨hi, hM9, hP, hD, hS, hl⟩ := hI
    have hl : lv_has ls 4 [(0, .ref qm), (1, .int ky), (2, .int (nI 0)), (3, .int (nI i))] := hl
    have hP : va_P (dC, dI) vwCl [(qmd, .inl (cyI, 512, .inl w)), (qmw, .inl (cyZ, 64, .inl WL)), (qmt, .inl (cyI, 400, .inl T)), (qm, .inr (4, [.ref qmd, .ref qmt, .int (nI 0), .int (bI true), .int lf, .int (nI dn), .int pl, .ref qml, .int (nI k), .ref qmk, .int (nI n), .ref qmh, .int (nI n), .int (nI 0), .ref qmw])), (qmk, .inl (cyI, 460, .inl M9)), (qmh, .inl (cyI, 460, .inl H1_16))] H := hP
    have hD : va_D A [(qmd, .inl (cyI, 512, .inl w)), (qmw, .inl (cyZ, 64, .inl WL)), (qmt, .inl (cyI, 400, .inl T)), (qm, .inr (4, [.ref qmd, .ref qmt, .int (nI 0), .int (bI true), .int lf, .int (nI dn), .int pl, .ref qml, .int (nI k), .ref qmk, .int (nI n), .ref qmh, .int (nI n), .int (nI 0), .ref qmw])), (qmk, .inl (cyI, 460, .inl M9)), (qmh, .inl (cyI, 460, .inl H1_16))] := hD
    have hi : i ≤ n := hi
    have hM9 : ∀ j, j < i → M9 j = H1_16 j := hM9
    refine lv_iload_n hx hb dX5_commit_54 rfl (lv_at hl 3 rfl) ?_
    refine lv_aload_n hx hb dX5_commit_55 rfl (lv_at hl 0 rfl) ?_
    refine va_get (D := (dC, dI)) (ci := 4) (v := .int (nI n)) (C := RX5) (T := TX5) (N := 15) hx hb hts iwX5 hown hK hP 3 rfl rfl 12 (by decide) fk48 (fun _ h9 => h9) rfl dX5_commit_56 ?_
    refine zn_icmp_ge (tgt := 80) hx hb dX5_commit_59 (by decide) (by omega) (by omega) (fun c_59 => ?_) (fun c_59 => ?_)
    ·
      refine lv_aload_n hx hb dX5_commit_80 rfl (lv_at hl 0 rfl) ?_
      refine lv_iload_n hx hb dX5_commit_81 rfl (lv_at hl 1 rfl) ?_
      refine lv_iload_n hx hb dX5_commit_82 rfl (lv_at hl 2 rfl) ?_
      have hPc := hP.sub (ws' := [(qm, .inr (4, [.ref qmd, .ref qmt, .int (nI 0), .int (bI true), .int lf, .int (nI dn), .int pl, .ref qml, .int (nI k), .ref qmk, .int (nI n), .ref qmh, .int (nI n), .int (nI 0), .ref qmw])), (qmd, .inl (cyI, 512, .inl w)), (qmk, .inl (cyI, 460, .inl M9)), (qmw, .inl (cyZ, 64, .inl WL))]) [3, 0, 4, 1] rfl
      have hKc := hK.sub (tys' := [(cyI, .int), (cyZ, .boolean)]) [0, 1] rfl
      have hDc := hD.sub (ws' := [(qm, .inr (4, [.ref qmd, .ref qmt, .int (nI 0), .int (bI true), .int lf, .int (nI dn), .int pl, .ref qml, .int (nI k), .ref qmk, .int (nI n), .ref qmh, .int (nI n), .int (nI 0), .ref qmw])), (qmd, .inl (cyI, 512, .inl w)), (qmk, .inl (cyI, 460, .inl M9)), (qmw, .inl (cyZ, 64, .inl WL))]) [3, 0, 4, 1] (by decide) rfl
      have hFc := va_free (wc := [(qm, .inr (4, [.ref qmd, .ref qmt, .int (nI 0), .int (bI true), .int lf, .int (nI dn), .int pl, .ref qml, .int (nI k), .ref qmk, .int (nI n), .ref qmh, .int (nI n), .int (nI 0), .ref qmw])), (qmd, .inl (cyI, 512, .inl w)), (qmk, .inl (cyI, 460, .inl M9)), (qmw, .inl (cyZ, 64, .inl WL))]) hD hS hA [3, 0, 4, 1] rfl
      refine va_calli (va_runV (As := [.int ky, .int (nI 0)]) (rest := []) ⟨hx, hb, hml, hown, hts⟩ (c_X5_putRecord l dC dI cyI cyZ qm qmd qmk qmw qmt qml qmh H.size 0 lf dn pl k n n (nI 0) w M9 WL ky 0 (by omega) (by omega) (HP0)) (cwV 2 hts gX5_commit_X5_putRecord rfl rfl rfl (by decide +kernel) ⟨Nat.le_of_ble_eq_true rfl, Nat.le_of_ble_eq_true rfl⟩) ⟨zz_blW, va_recv hKc hPc (ci := 4) (q0 := 0) rfl rfl, fun U hU hW => ⟨rfl, by rw [hU], by rw [hU]; exact hPc, va_K.moved hW.alike hKc, hDc.weaken (fun _ _ _ _ => trivial)⟩⟩ rfl rfl hl.1 rfl (lv_room (Nat.le_of_ble_eq_true rfl)) dX5_commit_83 ⟨Nat.zero_le _, Nat.zero_le _⟩) hS (fun q _ h => hFc q h) hFc (fun r_83 uU tS H1 locs ht9 hvm9 hw9 hB9 hz1 hk1 hS => ?_)
      obtain ⟨on1_83, w1_83, lf1_83, dn1_83, WL1_83⟩ := uU
      obtain ⟨hP1, hK1, hD1⟩ := hB9
      have hw9 : ((r_83, on1_83, w1_83, lf1_83, dn1_83) = kPut w lf dn ky 0 n M9) ∧ (dn ≤ dn1_83 ∧ dn1_83 ≤ dn + 64) := hw9
      obtain ⟨hPut_83, hdn1_83⟩ := hw9
      rw [ht9] at hP1
      have hK1 := va_K.moved hvm9.symm hK1
      obtain ⟨hP, hD⟩ := va_join (wr := [(qmt, .inl (cyI, 400, .inl T)), (qmh, .inl (cyI, 460, .inl H1_16))]) (w1 := [(qm, .inr (4, [.ref qmd, .ref qmt, .int (nI 0), .int (bI on1_83), .int (kUn on1_83 lf1_83), .int (nI dn1_83), .int pl, .ref qml, .int (nI k), .ref qmk, .int (nI n), .ref qmh, .int (nI n), .int (nI 0), .ref qmw])), (qmd, .inl (cyI, 512, .inl w1_83)), (qmk, .inl (cyI, 460, .inl M9)), (qmw, .inl (cyZ, 64, .inl WL1_83))]) hP hD [3, 0, 4, 1] [2, 5] rfl rfl (by decide) (by decide) hk1 hFc hP1 hD1
      generalize H1 = H at hP hS ⊢
      have hP : va_P (dC, dI) vwCl [(qmt, .inl (cyI, 400, .inl T)), (qmh, .inl (cyI, 460, .inl H1_16)), (qm, .inr (4, [.ref qmd, .ref qmt, .int (nI 0), .int (bI on1_83), .int (kUn on1_83 lf1_83), .int (nI dn1_83), .int pl, .ref qml, .int (nI k), .ref qmk, .int (nI n), .ref qmh, .int (nI n), .int (nI 0), .ref qmw])), (qmd, .inl (cyI, 512, .inl w1_83)), (qmk, .inl (cyI, 460, .inl M9)), (qmw, .inl (cyZ, 64, .inl WL1_83))] H := hP
      have hD : va_D A [(qmt, .inl (cyI, 400, .inl T)), (qmh, .inl (cyI, 460, .inl H1_16)), (qm, .inr (4, [.ref qmd, .ref qmt, .int (nI 0), .int (bI on1_83), .int (kUn on1_83 lf1_83), .int (nI dn1_83), .int pl, .ref qml, .int (nI k), .ref qmk, .int (nI n), .ref qmh, .int (nI n), .int (nI 0), .ref qmw])), (qmd, .inl (cyI, 512, .inl w1_83)), (qmk, .inl (cyI, 460, .inl M9)), (qmw, .inl (cyZ, 64, .inl WL1_83))] := hD
      have eE : zE H1_16 n = zE T n := zE_cong hH1_16
      rw [eE] at hm1_20 hM1_20
      have hP9 := hP.sub (ws' := [(qm, .inr (4, [.ref qmd, .ref qmt, .int (nI 0), .int (bI on1_83), .int (kUn on1_83 lf1_83), .int (nI dn1_83), .int pl, .ref qml, .int (nI k), .ref qmk, .int (nI n), .ref qmh, .int (nI n), .int (nI 0), .ref qmw])), (qmd, .inl (cyI, 512, .inl w1_83)), (qmt, .inl (cyI, 400, .inl T)), (qmk, .inl (cyI, 460, .inl M9)), (qmh, .inl (cyI, 460, .inl H1_16)), (qmw, .inl (cyZ, 64, .inl WL1_83))]) [2, 3, 0, 4, 1, 5] rfl
      have hD9 := hD.sub (ws' := [(qm, .inr (4, [.ref qmd, .ref qmt, .int (nI 0), .int (bI on1_83), .int (kUn on1_83 lf1_83), .int (nI dn1_83), .int pl, .ref qml, .int (nI k), .ref qmk, .int (nI n), .ref qmh, .int (nI n), .int (nI 0), .ref qmw])), (qmd, .inl (cyI, 512, .inl w1_83)), (qmt, .inl (cyI, 400, .inl T)), (qmk, .inl (cyI, 460, .inl M9)), (qmh, .inl (cyI, 460, .inl H1_16)), (qmw, .inl (cyZ, 64, .inl WL1_83))]) [2, 3, 0, 4, 1, 5] (by decide) rfl
      have hK9 := hK.sub (tys' := [(cyI, .int), (cyZ, .boolean)]) [0, 1] rfl
      exact W.iret hx hb hr (fun tS ht hW => ⟨⟨_, (on1_83, w1_83, lf1_83, dn1_83, WL1_83, n, H1_16, n, M9), rfl, ⟨by rw [hPut_83, kCommit, if_neg (by rw [← hm1_20]; omega)]; exact kPut_cong (fun j hj => (hM9 j (by omega)).trans (hH1_16 j hj)), by omega⟩, by rw [ht]; exact hP9, va_K.moved hW.alike hK9, hD9⟩, hS.F ht⟩) hS.2.2 dX5_commit_86
    ·
      refine lv_aload_n hx hb dX5_commit_62 rfl (lv_at hl 0 rfl) ?_
      refine va_get (D := (dC, dI)) (ci := 4) (v := .ref qmk) (C := RX5) (T := TX5) (N := 15) hx hb hts iwX5 hown hK hP 3 rfl rfl 9 (by decide) fk30 (fun _ h9 => h9) rfl dX5_commit_63 ?_
      refine lv_iload_n hx hb dX5_commit_66 rfl (lv_at hl 3 rfl) ?_
      refine lv_aload_n hx hb dX5_commit_67 rfl (lv_at hl 0 rfl) ?_
      refine va_get (D := (dC, dI)) (ci := 4) (v := .ref qmh) (C := RX5) (T := TX5) (N := 15) hx hb hts iwX5 hown hK hP 3 rfl rfl 11 (by decide) fk33 (fun _ h9 => h9) rfl dX5_commit_68 ?_
      refine lv_iload_n hx hb dX5_commit_71 rfl (lv_at hl 3 rfl) ?_
      refine va_iald hx hb hK hP 5 0 rfl rfl (vp_in_nI (n := i) (by omega) (by decide)) dX5_commit_72 ?_
      refine zz_top (congrArg H1_16 (nI_clamp (n := i) (by omega))) ?_
      refine va_iast hx hb hK hP hD hS 4 0 rfl rfl (vp_in_nI (n := i) (by omega) (by decide)) dX5_commit_73 (fun H locs hP hD hS => ?_)
      rw [nI_clamp (n := i) (by omega)] at hP hD
      have hP : va_P (dC, dI) vwCl [(qmd, .inl (cyI, 512, .inl w)), (qmw, .inl (cyZ, 64, .inl WL)), (qmt, .inl (cyI, 400, .inl T)), (qm, .inr (4, [.ref qmd, .ref qmt, .int (nI 0), .int (bI true), .int lf, .int (nI dn), .int pl, .ref qml, .int (nI k), .ref qmk, .int (nI n), .ref qmh, .int (nI n), .int (nI 0), .ref qmw])), (qmk, .inl (cyI, 460, .inl (upd M9 i (H1_16 i)))), (qmh, .inl (cyI, 460, .inl H1_16))] H := hP
      have hD : va_D A [(qmd, .inl (cyI, 512, .inl w)), (qmw, .inl (cyZ, 64, .inl WL)), (qmt, .inl (cyI, 400, .inl T)), (qm, .inr (4, [.ref qmd, .ref qmt, .int (nI 0), .int (bI true), .int lf, .int (nI dn), .int pl, .ref qml, .int (nI k), .ref qmk, .int (nI n), .ref qmh, .int (nI n), .int (nI 0), .ref qmw])), (qmk, .inl (cyI, 460, .inl (upd M9 i (H1_16 i)))), (qmh, .inl (cyI, 460, .inl H1_16))] := hD
      refine lv_iinc (v := nI (i + 1)) (lv' := [(3, .int (nI (i + 1))), (0, .ref qm), (1, .int ky), (2, .int (nI 0))]) hx hb dX5_commit_74 hl (k := 3) rfl (nI_add i 1) (by decide) rfl (fun ls hl => ?_)
      refine lv_goto (tgt := 54) hx hb dX5_commit_77 (by decide) ?_
      exact ih54 (i + 1, upd M9 i (H1_16 i)) _ _ _ ⟨by omega, arr_step hM9 rfl, hP, hD, hS, lv_sub hl [1, 2, 3, 0] rfl⟩ (by first | omega | (dsimp only; omega))
  ·
    refine lv_iconst (v := nI 1) hx hb dX5_commit_34 (by decide) ?_
    refine lv_goto (tgt := 39) hx hb dX5_commit_35 (by decide) ?_
    refine lv_istore_n (lv' := [(2, .int (nI 1)), (0, .ref qm), (1, .int ky)]) hx hb dX5_commit_39 rfl hl (by decide) rfl (fun ls hl => ?_)
    refine lv_iload_n hx hb dX5_commit_40 rfl (lv_at hl 0 rfl) ?_
    refine lv_if_ne (tgt := 80) hx hb dX5_commit_41 (by decide) (fun c_41 => ?_) (fun c_41 => absurd c_41 (by decide))
    refine lv_aload_n hx hb dX5_commit_80 rfl (lv_at hl 1 rfl) ?_
    refine lv_iload_n hx hb dX5_commit_81 rfl (lv_at hl 2 rfl) ?_
    refine lv_iload_n hx hb dX5_commit_82 rfl (lv_at hl 0 rfl) ?_
    have hPc := hP.sub (ws' := [(qm, .inr (4, [.ref qmd, .ref qmt, .int (nI 0), .int (bI true), .int lf, .int (nI dn), .int pl, .ref qml, .int (nI k), .ref qmk, .int (nI m1_20), .ref qmh, .int (nI n), .int (nI 0), .ref qmw])), (qmd, .inl (cyI, 512, .inl w)), (qmk, .inl (cyI, 460, .inl M1_20)), (qmw, .inl (cyZ, 64, .inl WL))]) [3, 0, 4, 1] rfl
    have hKc := hK.sub (tys' := [(cyI, .int), (cyZ, .boolean)]) [0, 1] rfl
    have hDc := hD.sub (ws' := [(qm, .inr (4, [.ref qmd, .ref qmt, .int (nI 0), .int (bI true), .int lf, .int (nI dn), .int pl, .ref qml, .int (nI k), .ref qmk, .int (nI m1_20), .ref qmh, .int (nI n), .int (nI 0), .ref qmw])), (qmd, .inl (cyI, 512, .inl w)), (qmk, .inl (cyI, 460, .inl M1_20)), (qmw, .inl (cyZ, 64, .inl WL))]) [3, 0, 4, 1] (by decide) rfl
    have hFc := va_free (wc := [(qm, .inr (4, [.ref qmd, .ref qmt, .int (nI 0), .int (bI true), .int lf, .int (nI dn), .int pl, .ref qml, .int (nI k), .ref qmk, .int (nI m1_20), .ref qmh, .int (nI n), .int (nI 0), .ref qmw])), (qmd, .inl (cyI, 512, .inl w)), (qmk, .inl (cyI, 460, .inl M1_20)), (qmw, .inl (cyZ, 64, .inl WL))]) hD hS hA [3, 0, 4, 1] rfl
    refine va_calli (va_runV (As := [.int ky, .int (nI 1)]) (rest := []) ⟨hx, hb, hml, hown, hts⟩ (c_X5_putRecord l dC dI cyI cyZ qm qmd qmk qmw qmt qml qmh H.size 0 lf dn pl k m1_20 n (nI 0) w M1_20 WL ky 1 (by omega) (by omega) (HP0)) (cwV 2 hts gX5_commit_X5_putRecord rfl rfl rfl (by decide +kernel) ⟨Nat.le_of_ble_eq_true rfl, Nat.le_of_ble_eq_true rfl⟩) ⟨zz_blW, va_recv hKc hPc (ci := 4) (q0 := 0) rfl rfl, fun U hU hW => ⟨rfl, by rw [hU], by rw [hU]; exact hPc, va_K.moved hW.alike hKc, hDc.weaken (fun _ _ _ _ => trivial)⟩⟩ rfl rfl hl.1 rfl (lv_room (Nat.le_of_ble_eq_true rfl)) dX5_commit_83 ⟨Nat.zero_le _, Nat.zero_le _⟩) hS (fun q _ h => hFc q h) hFc (fun r_83 uU tS H1 locs ht9 hvm9 hw9 hB9 hz1 hk1 hS => ?_)
    obtain ⟨on1_83, w1_83, lf1_83, dn1_83, WL1_83⟩ := uU
    obtain ⟨hP1, hK1, hD1⟩ := hB9
    have hw9 : ((r_83, on1_83, w1_83, lf1_83, dn1_83) = kPut w lf dn ky 1 m1_20 M1_20) ∧ (dn ≤ dn1_83 ∧ dn1_83 ≤ dn + 64) := hw9
    obtain ⟨hPut_83, hdn1_83⟩ := hw9
    rw [ht9] at hP1
    have hK1 := va_K.moved hvm9.symm hK1
    obtain ⟨hP, hD⟩ := va_join (wr := [(qmt, .inl (cyI, 400, .inl T)), (qmh, .inl (cyI, 460, .inl H1_16))]) (w1 := [(qm, .inr (4, [.ref qmd, .ref qmt, .int (nI 0), .int (bI on1_83), .int (kUn on1_83 lf1_83), .int (nI dn1_83), .int pl, .ref qml, .int (nI k), .ref qmk, .int (nI m1_20), .ref qmh, .int (nI n), .int (nI 0), .ref qmw])), (qmd, .inl (cyI, 512, .inl w1_83)), (qmk, .inl (cyI, 460, .inl M1_20)), (qmw, .inl (cyZ, 64, .inl WL1_83))]) hP hD [3, 0, 4, 1] [2, 5] rfl rfl (by decide) (by decide) hk1 hFc hP1 hD1
    generalize H1 = H at hP hS ⊢
    have hP : va_P (dC, dI) vwCl [(qmt, .inl (cyI, 400, .inl T)), (qmh, .inl (cyI, 460, .inl H1_16)), (qm, .inr (4, [.ref qmd, .ref qmt, .int (nI 0), .int (bI on1_83), .int (kUn on1_83 lf1_83), .int (nI dn1_83), .int pl, .ref qml, .int (nI k), .ref qmk, .int (nI m1_20), .ref qmh, .int (nI n), .int (nI 0), .ref qmw])), (qmd, .inl (cyI, 512, .inl w1_83)), (qmk, .inl (cyI, 460, .inl M1_20)), (qmw, .inl (cyZ, 64, .inl WL1_83))] H := hP
    have hD : va_D A [(qmt, .inl (cyI, 400, .inl T)), (qmh, .inl (cyI, 460, .inl H1_16)), (qm, .inr (4, [.ref qmd, .ref qmt, .int (nI 0), .int (bI on1_83), .int (kUn on1_83 lf1_83), .int (nI dn1_83), .int pl, .ref qml, .int (nI k), .ref qmk, .int (nI m1_20), .ref qmh, .int (nI n), .int (nI 0), .ref qmw])), (qmd, .inl (cyI, 512, .inl w1_83)), (qmk, .inl (cyI, 460, .inl M1_20)), (qmw, .inl (cyZ, 64, .inl WL1_83))] := hD
    have eE : zE H1_16 n = zE T n := zE_cong hH1_16
    rw [eE] at hm1_20 hM1_20
    have hP9 := hP.sub (ws' := [(qm, .inr (4, [.ref qmd, .ref qmt, .int (nI 0), .int (bI on1_83), .int (kUn on1_83 lf1_83), .int (nI dn1_83), .int pl, .ref qml, .int (nI k), .ref qmk, .int (nI m1_20), .ref qmh, .int (nI n), .int (nI 0), .ref qmw])), (qmd, .inl (cyI, 512, .inl w1_83)), (qmt, .inl (cyI, 400, .inl T)), (qmk, .inl (cyI, 460, .inl M1_20)), (qmh, .inl (cyI, 460, .inl H1_16)), (qmw, .inl (cyZ, 64, .inl WL1_83))]) [2, 3, 0, 4, 1, 5] rfl
    have hD9 := hD.sub (ws' := [(qm, .inr (4, [.ref qmd, .ref qmt, .int (nI 0), .int (bI on1_83), .int (kUn on1_83 lf1_83), .int (nI dn1_83), .int pl, .ref qml, .int (nI k), .ref qmk, .int (nI m1_20), .ref qmh, .int (nI n), .int (nI 0), .ref qmw])), (qmd, .inl (cyI, 512, .inl w1_83)), (qmt, .inl (cyI, 400, .inl T)), (qmk, .inl (cyI, 460, .inl M1_20)), (qmh, .inl (cyI, 460, .inl H1_16)), (qmw, .inl (cyZ, 64, .inl WL1_83))]) [2, 3, 0, 4, 1, 5] (by decide) rfl
    have hK9 := hK.sub (tys' := [(cyI, .int), (cyZ, .boolean)]) [0, 1] rfl
    exact W.iret hx hb hr (fun tS ht hW => ⟨⟨_, (on1_83, w1_83, lf1_83, dn1_83, WL1_83, n, H1_16, m1_20, M1_20), rfl, ⟨by rw [hPut_83, kCommit, if_pos (by rw [← hm1_20]; exact Nat.lt_of_not_le (fun q => by omega)), ← hm1_20]; exact kPut_cong hM1_20, by omega⟩, by rw [ht]; exact hP9, va_K.moved hW.alike hK9, hD9⟩, hS.F ht⟩) hS.2.2 dX5_commit_86
set_option maxHeartbeats 4000000 in
set_option maxRecDepth 100000 in
theorem c_X5_delete (l : Launch) (dC : Nat → ClassId) (dI : Nat → Nat → Nat) (cyI cyZ : ClassId) (qm qmd qmk qmw qmt qml qmh : Nat) (sz : Nat) (n : Nat) (lf : Int32) (dn : Nat) (pl : Int32) (k mz nh : Nat) (th : Int32) (w : Nat → Int32) (M : Nat → Int32) (WL : Nat → Int32) (ky : Int32) (hdn0 : dn < 900000) (HP0 : kPos w) : Met l yX5_delete wsX5_delete ({ frames := 5, cells := 0, slots := 0, locals := 117 }) (va_Pc [.ref qm, .int ky] (fun U => U.heap.size = sz ∧ va_P (dC, dI) vwCl [(qm, .inr (4, [.ref qmd, .ref qmt, .int (nI n), .int (bI true), .int lf, .int (nI dn), .int pl, .ref qml, .int (nI k), .ref qmk, .int (nI mz), .ref qmh, .int (nI nh), .int th, .ref qmw])), (qmd, .inl (cyI, 512, .inl w)), (qmk, .inl (cyI, 460, .inl M)), (qmw, .inl (cyZ, 64, .inl WL))] U.heap ∧ va_K (dC, dI) vwCl [(cyI, .int), (cyZ, .boolean)] U ∧ va_D (fun _ => True) [(qm, .inr (4, [.ref qmd, .ref qmt, .int (nI n), .int (bI true), .int lf, .int (nI dn), .int pl, .ref qml, .int (nI k), .ref qmk, .int (nI mz), .ref qmh, .int (nI nh), .int th, .ref qmw])), (qmd, .inl (cyI, 512, .inl w)), (qmk, .inl (cyI, 460, .inl M)), (qmw, .inl (cyZ, 64, .inl WL))])) (va_Qi (S := Bool × (Nat → Int32) × Int32 × Nat × (Nat → Int32) × Nat) (fun (r : Int32) (uU : Bool × (Nat → Int32) × Int32 × Nat × (Nat → Int32) × Nat) => match uU with | (on1, w1, lf1, dn1, WL1, mz1) => ((r, on1, w1, lf1, dn1) = kDel w lf dn ky) ∧ (dn ≤ dn1 ∧ dn1 ≤ dn + 128)) (fun (uU : Bool × (Nat → Int32) × Int32 × Nat × (Nat → Int32) × Nat) tS => match uU with | (on1, w1, lf1, dn1, WL1, mz1) => va_P (dC, dI) vwCl [(qm, .inr (4, [.ref qmd, .ref qmt, .int (nI n), .int (bI on1), .int (kUn on1 lf1), .int (nI dn1), .int pl, .ref qml, .int (nI k), .ref qmk, .int (nI mz1), .ref qmh, .int (nI nh), .int (nI 0), .ref qmw])), (qmd, .inl (cyI, 512, .inl w1)), (qmk, .inl (cyI, 460, .inl M)), (qmw, .inl (cyZ, 64, .inl WL1))] tS.heap ∧ va_K (dC, dI) vwCl [(cyI, .int), (cyZ, .boolean)] tS ∧ va_D (va_A [(qm, .inr (4, [.ref qmd, .ref qmt, .int (nI n), .int (bI true), .int lf, .int (nI dn), .int pl, .ref qml, .int (nI k), .ref qmk, .int (nI mz), .ref qmh, .int (nI nh), .int th, .ref qmw])), (qmd, .inl (cyI, 512, .inl w)), (qmk, .inl (cyI, 460, .inl M)), (qmw, .inl (cyZ, 64, .inl WL))] sz) [(qm, .inr (4, [.ref qmd, .ref qmt, .int (nI n), .int (bI on1), .int (kUn on1 lf1), .int (nI dn1), .int pl, .ref qml, .int (nI k), .ref qmk, .int (nI mz1), .ref qmh, .int (nI nh), .int (nI 0), .ref qmw])), (qmd, .inl (cyI, 512, .inl w1)), (qmk, .inl (cyI, 460, .inl M)), (qmw, .inl (cyZ, 64, .inl WL1))]) (va_A [(qm, .inr (4, [.ref qmd, .ref qmt, .int (nI n), .int (bI true), .int lf, .int (nI dn), .int pl, .ref qml, .int (nI k), .ref qmk, .int (nI mz), .ref qmh, .int (nI nh), .int th, .ref qmw])), (qmd, .inl (cyI, 512, .inl w)), (qmk, .inl (cyI, 460, .inl M)), (qmw, .inl (cyZ, 64, .inl WL))] sz)) 0 0 (va_A [(qm, .inr (4, [.ref qmd, .ref qmt, .int (nI n), .int (bI true), .int lf, .int (nI dn), .int pl, .ref qml, .int (nI k), .ref qmk, .int (nI mz), .ref qmh, .int (nI nh), .int th, .ref qmw])), (qmd, .inl (cyI, 512, .inl w)), (qmk, .inl (cyI, 460, .inl M)), (qmw, .inl (cyZ, 64, .inl WL))] sz) := by
  refine Met.ofW (cc := cX5_delete) (maxL := 3) (ret := (some .int)) (by decide) rfl ?_
  intro pz ez sS mM args below meth cC s₁ B hml hv
  obtain ⟨rfl, hsz, hP, hK, hD0⟩ := hv
  have hx := B.exec
  have hb := B.bytes
  have hr := B.returns
  have hts := atoms_spec (ws := wsX5_delete) B.pre
  have hown : sS.vm.findClass RX5 = some mM.cls := findClass_of_methodNamed B.named
  have hlocks := B.notSynchronized
  subst hsz
  have hD := hD0.self (sz := sS.heap.size)
  generalize hAe : va_A [(qm, .inr (4, [.ref qmd, .ref qmt, .int (nI n), .int (bI true), .int lf, .int (nI dn), .int pl, .ref qml, .int (nI k), .ref qmk, .int (nI mz), .ref qmh, .int (nI nh), .int th, .ref qmw])), (qmd, .inl (cyI, 512, .inl w)), (qmk, .inl (cyI, 460, .inl M)), (qmw, .inl (cyZ, 64, .inl WL))] sS.heap.size = A at hD ⊢
  have hA : ∀ q : Nat, sS.heap.size ≤ q → A q := fun q h => by rw [← hAe]; exact Or.inr h
  have hS : va_S A sS.heap sS.heap [] := va_S.rf
  have hP : va_P (dC, dI) vwCl [(qm, .inr (4, [.ref qmd, .ref qmt, .int (nI n), .int (bI true), .int lf, .int (nI dn), .int pl, .ref qml, .int (nI k), .ref qmk, .int (nI mz), .ref qmh, .int (nI nh), .int th, .ref qmw])), (qmd, .inl (cyI, 512, .inl w)), (qmk, .inl (cyI, 460, .inl M)), (qmw, .inl (cyZ, 64, .inl WL))] sS.heap := hP
  have iwX5 : ∀ w ∈ wsX50, w ∈ wsX5_delete := by decide +kernel
  have fk16 := hts (.fieldLink RX5 16 "CodedStoreModel" "on" "Z") (by decide +kernel)
  have fk43 := hts (.fieldLink RX5 43 "CodedStoreModel" "thrown" "I") (by decide +kernel)
  have fk51 := hts (.fieldLink RX5 51 "CodedStoreModel" "madeSize" "I") (by decide +kernel)
  have hl := lv_entry ([.ref qm, .int ky]) (n := 3) (Nat.le_of_ble_eq_true rfl)
  rw [lg_entry_eq]
  generalize (lg_sl ([.ref qm, .int ky]) ++ List.replicate (3 - (lg_sl ([.ref qm, .int ky])).length) Slot.unset).toArray = ls at hl ⊢
  have hl : lv_has ls 3 [(0, .ref qm), (1, .int ky)] := hl
  refine lv_aload_n hx hb dX5_delete_0 rfl (lv_at hl 0 rfl) ?_
  refine lv_iconst (v := nI 0) hx hb dX5_delete_1 (by decide) ?_
  refine va_put (D := (dC, dI)) (ci := 4) (v := .int (nI 0)) (ty := .int) (C := RX5) (T := TX5) (N := 15) hx hb hts iwX5 tyX5 tyX5_ok nmX5 hown hK hP hD hS 0 rfl rfl 13 (by decide) fk43 (fun _ h9 => h9) rfl (by decide +kernel) rfl rfl (Nat.le_of_ble_eq_true rfl) dX5_delete_2 (fun H locs hP hD hS => ?_)
  have hP : va_P (dC, dI) vwCl [(qm, .inr (4, [.ref qmd, .ref qmt, .int (nI n), .int (bI true), .int lf, .int (nI dn), .int pl, .ref qml, .int (nI k), .ref qmk, .int (nI mz), .ref qmh, .int (nI nh), .int (nI 0), .ref qmw])), (qmd, .inl (cyI, 512, .inl w)), (qmk, .inl (cyI, 460, .inl M)), (qmw, .inl (cyZ, 64, .inl WL))] H := hP
  have hD : va_D A [(qm, .inr (4, [.ref qmd, .ref qmt, .int (nI n), .int (bI true), .int lf, .int (nI dn), .int pl, .ref qml, .int (nI k), .ref qmk, .int (nI mz), .ref qmh, .int (nI nh), .int (nI 0), .ref qmw])), (qmd, .inl (cyI, 512, .inl w)), (qmk, .inl (cyI, 460, .inl M)), (qmw, .inl (cyZ, 64, .inl WL))] := hD
  refine lv_aload_n hx hb dX5_delete_5 rfl (lv_at hl 0 rfl) ?_
  refine va_get (D := (dC, dI)) (ci := 4) (v := .int (bI true)) (C := RX5) (T := TX5) (N := 15) hx hb hts iwX5 hown hK hP 0 rfl rfl 3 (by decide) fk16 (fun _ h9 => h9) rfl dX5_delete_6 ?_
  refine lv_if_ne (tgt := 15) hx hb dX5_delete_9 (by decide) (fun c_9 => ?_) (fun c_9 => absurd c_9 (by decide))
  refine lv_aload_n hx hb dX5_delete_15 rfl (lv_at hl 0 rfl) ?_
  refine lv_iload_n hx hb dX5_delete_16 rfl (lv_at hl 1 rfl) ?_
  have hPc := hP.sub (ws' := [(qm, .inr (4, [.ref qmd, .ref qmt, .int (nI n), .int (bI true), .int lf, .int (nI dn), .int pl, .ref qml, .int (nI k), .ref qmk, .int (nI mz), .ref qmh, .int (nI nh), .int (nI 0), .ref qmw])), (qmd, .inl (cyI, 512, .inl w))]) [0, 1] rfl
  have hKc := hK.sub (tys' := [(cyI, .int), (cyZ, .boolean)]) [0, 1] rfl
  refine vp_callSi (va_Run.run (va_runV (As := [.int ky]) (rest := []) ⟨hx, hb, hml, hown, hts⟩ (c_X5_find l dC dI cyI cyZ qm qmd qmt qml qmk qmh qmw n true lf dn pl k mz nh (nI 0) w ky (HP0)) (cwV 1 hts gX5_delete_X5_find rfl rfl rfl (by decide +kernel) ⟨Nat.le_of_ble_eq_true rfl, Nat.le_of_ble_eq_true rfl⟩) ⟨zz_blR, va_recv hKc hPc (ci := 4) (q0 := 0) rfl rfl, fun U hU hW => ⟨rfl, by rw [hU]; exact hPc, va_K.moved hW.alike hKc⟩⟩ rfl rfl hl.1 rfl (lv_room (Nat.le_of_ble_eq_true rfl)) dX5_delete_17 ⟨Nat.zero_le _, Nat.zero_le _⟩)) (fun r_17 hr_17 => ?_)
  have hr_17 : zFI (zFst (kIs (kLive w) w ky) 64) 64 = r_17 := Eq.symm hr_17
  subst hr_17
  by_cases hf : zFst (kIs (kLive w) w ky) 64 < 64
  ·
    refine zz_top (zFI_t hf) ?_
    have hI := zFst_yes hf
    refine lv_istore_n (lv' := [(2, .int (nI (zFst (kIs (kLive w) w ky) 64))), (0, .ref qm), (1, .int ky)]) hx hb dX5_delete_20 rfl hl (by decide) rfl (fun ls hl => ?_)
    refine lv_iload_n hx hb dX5_delete_21 rfl (lv_at hl 0 rfl) ?_
    refine zn_if_lt (tgt := 34) hx hb dX5_delete_22 (by decide) (by omega) ?_
    refine lv_aload_n hx hb dX5_delete_25 rfl (lv_at hl 1 rfl) ?_
    refine lv_iload_n hx hb dX5_delete_26 rfl (lv_at hl 0 rfl) ?_
    have hPc := hP.sub (ws' := [(qm, .inr (4, [.ref qmd, .ref qmt, .int (nI n), .int (bI true), .int lf, .int (nI dn), .int pl, .ref qml, .int (nI k), .ref qmk, .int (nI mz), .ref qmh, .int (nI nh), .int (nI 0), .ref qmw])), (qmd, .inl (cyI, 512, .inl w))]) [0, 1] rfl
    have hKc := hK.sub (tys' := [(cyI, .int), (cyZ, .boolean)]) [0, 1] rfl
    refine vp_callSi (va_Run.run (va_runV (As := [.int (nI (zFst (kIs (kLive w) w ky) 64))]) (rest := []) ⟨hx, hb, hml, hown, hts⟩ (c_X5_formOf l dC dI cyI cyZ qm qmd qmt qml qmk qmh qmw n true lf dn pl k mz nh (nI 0) w (zFst (kIs (kLive w) w ky) 64) (hf)) (cwV 1 hts gX5_delete_X5_formOf rfl rfl rfl (by decide +kernel) ⟨Nat.le_of_ble_eq_true rfl, Nat.le_of_ble_eq_true rfl⟩) ⟨zz_blR, va_recv hKc hPc (ci := 4) (q0 := 0) rfl rfl, fun U hU hW => ⟨rfl, by rw [hU]; exact hPc, va_K.moved hW.alike hKc⟩⟩ rfl rfl hl.1 rfl (lv_room (Nat.le_of_ble_eq_true rfl)) dX5_delete_27 ⟨Nat.zero_le _, Nat.zero_le _⟩)) (fun r_27 hr_27 => ?_)
    have hr_27 : kForm w (zFst (kIs (kLive w) w ky) 64) = r_27 := Eq.symm hr_27
    subst hr_27
    refine lv_iconst (v := nI 2) hx hb dX5_delete_30 (by decide) ?_
    refine lv_icmp_ne (tgt := 37) hx hb dX5_delete_31 (by decide) (fun c_31 => ?_) (fun c_31 => ?_)
    ·
      refine lv_aload_n hx hb dX5_delete_37 rfl (lv_at hl 1 rfl) ?_
      refine lv_iconst (v := nI 0) hx hb dX5_delete_38 (by decide) ?_
      refine va_put (D := (dC, dI)) (ci := 4) (v := .int (nI 0)) (ty := .int) (C := RX5) (T := TX5) (N := 15) hx hb hts iwX5 tyX5 tyX5_ok nmX5 hown hK hP hD hS 0 rfl rfl 10 (by decide) fk51 (fun _ h9 => h9) rfl (by decide +kernel) rfl rfl (Nat.le_of_ble_eq_true rfl) dX5_delete_39 (fun H locs hP hD hS => ?_)
      have hP : va_P (dC, dI) vwCl [(qm, .inr (4, [.ref qmd, .ref qmt, .int (nI n), .int (bI true), .int lf, .int (nI dn), .int pl, .ref qml, .int (nI k), .ref qmk, .int (nI 0), .ref qmh, .int (nI nh), .int (nI 0), .ref qmw])), (qmd, .inl (cyI, 512, .inl w)), (qmk, .inl (cyI, 460, .inl M)), (qmw, .inl (cyZ, 64, .inl WL))] H := hP
      have hD : va_D A [(qm, .inr (4, [.ref qmd, .ref qmt, .int (nI n), .int (bI true), .int lf, .int (nI dn), .int pl, .ref qml, .int (nI k), .ref qmk, .int (nI 0), .ref qmh, .int (nI nh), .int (nI 0), .ref qmw])), (qmd, .inl (cyI, 512, .inl w)), (qmk, .inl (cyI, 460, .inl M)), (qmw, .inl (cyZ, 64, .inl WL))] := hD
      refine lv_aload_n hx hb dX5_delete_42 rfl (lv_at hl 1 rfl) ?_
      refine lv_iload_n hx hb dX5_delete_43 rfl (lv_at hl 2 rfl) ?_
      refine lv_iconst (v := nI 2) hx hb dX5_delete_44 (by decide) ?_
      have hPc := hP.sub (ws' := [(qm, .inr (4, [.ref qmd, .ref qmt, .int (nI n), .int (bI true), .int lf, .int (nI dn), .int pl, .ref qml, .int (nI k), .ref qmk, .int (nI 0), .ref qmh, .int (nI nh), .int (nI 0), .ref qmw])), (qmd, .inl (cyI, 512, .inl w)), (qmk, .inl (cyI, 460, .inl M)), (qmw, .inl (cyZ, 64, .inl WL))]) [0, 1, 2, 3] rfl
      have hKc := hK.sub (tys' := [(cyI, .int), (cyZ, .boolean)]) [0, 1] rfl
      have hDc := hD.sub (ws' := [(qm, .inr (4, [.ref qmd, .ref qmt, .int (nI n), .int (bI true), .int lf, .int (nI dn), .int pl, .ref qml, .int (nI k), .ref qmk, .int (nI 0), .ref qmh, .int (nI nh), .int (nI 0), .ref qmw])), (qmd, .inl (cyI, 512, .inl w)), (qmk, .inl (cyI, 460, .inl M)), (qmw, .inl (cyZ, 64, .inl WL))]) [0, 1, 2, 3] (by decide) rfl
      have hFc := va_free (wc := [(qm, .inr (4, [.ref qmd, .ref qmt, .int (nI n), .int (bI true), .int lf, .int (nI dn), .int pl, .ref qml, .int (nI k), .ref qmk, .int (nI 0), .ref qmh, .int (nI nh), .int (nI 0), .ref qmw])), (qmd, .inl (cyI, 512, .inl w)), (qmk, .inl (cyI, 460, .inl M)), (qmw, .inl (cyZ, 64, .inl WL))]) hD hS hA [0, 1, 2, 3] rfl
      refine va_calli (va_runV (As := [.int ky, .int (nI 2)]) (rest := []) ⟨hx, hb, hml, hown, hts⟩ (c_X5_putRecord l dC dI cyI cyZ qm qmd qmk qmw qmt qml qmh H.size n lf dn pl k 0 nh (nI 0) w M WL ky 2 (by omega) (by omega) (HP0)) (cwV 2 hts gX5_delete_X5_putRecord rfl rfl rfl (by decide +kernel) ⟨Nat.le_of_ble_eq_true rfl, Nat.le_of_ble_eq_true rfl⟩) ⟨zz_blW, va_recv hKc hPc (ci := 4) (q0 := 0) rfl rfl, fun U hU hW => ⟨rfl, by rw [hU], by rw [hU]; exact hPc, va_K.moved hW.alike hKc, hDc.weaken (fun _ _ _ _ => trivial)⟩⟩ rfl rfl hl.1 rfl (lv_room (Nat.le_of_ble_eq_true rfl)) dX5_delete_45 ⟨Nat.zero_le _, Nat.zero_le _⟩) hS (fun q _ h => hFc q h) hFc (fun r_45 uU tS H1 locs ht9 hvm9 hw9 hB9 hz1 hk1 hS => ?_)
      obtain ⟨on1_45, w1_45, lf1_45, dn1_45, WL1_45⟩ := uU
      obtain ⟨hP1, hK1, hD1⟩ := hB9
      have hw9 : ((r_45, on1_45, w1_45, lf1_45, dn1_45) = kPut w lf dn ky 2 0 M) ∧ (dn ≤ dn1_45 ∧ dn1_45 ≤ dn + 64) := hw9
      obtain ⟨hPut_45, hdn1_45⟩ := hw9
      rw [ht9] at hP1
      have hK1 := va_K.moved hvm9.symm hK1
      obtain ⟨hP, hD⟩ := va_join (wr := []) (w1 := [(qm, .inr (4, [.ref qmd, .ref qmt, .int (nI n), .int (bI on1_45), .int (kUn on1_45 lf1_45), .int (nI dn1_45), .int pl, .ref qml, .int (nI k), .ref qmk, .int (nI 0), .ref qmh, .int (nI nh), .int (nI 0), .ref qmw])), (qmd, .inl (cyI, 512, .inl w1_45)), (qmk, .inl (cyI, 460, .inl M)), (qmw, .inl (cyZ, 64, .inl WL1_45))]) hP hD [0, 1, 2, 3] [] rfl rfl (by decide) (by decide) hk1 hFc hP1 hD1
      generalize H1 = H at hP hS ⊢
      have hP : va_P (dC, dI) vwCl [(qm, .inr (4, [.ref qmd, .ref qmt, .int (nI n), .int (bI on1_45), .int (kUn on1_45 lf1_45), .int (nI dn1_45), .int pl, .ref qml, .int (nI k), .ref qmk, .int (nI 0), .ref qmh, .int (nI nh), .int (nI 0), .ref qmw])), (qmd, .inl (cyI, 512, .inl w1_45)), (qmk, .inl (cyI, 460, .inl M)), (qmw, .inl (cyZ, 64, .inl WL1_45))] H := hP
      have hD : va_D A [(qm, .inr (4, [.ref qmd, .ref qmt, .int (nI n), .int (bI on1_45), .int (kUn on1_45 lf1_45), .int (nI dn1_45), .int pl, .ref qml, .int (nI k), .ref qmk, .int (nI 0), .ref qmh, .int (nI nh), .int (nI 0), .ref qmw])), (qmd, .inl (cyI, 512, .inl w1_45)), (qmk, .inl (cyI, 460, .inl M)), (qmw, .inl (cyZ, 64, .inl WL1_45))] := hD
      have hP9 := hP.sub (ws' := [(qm, .inr (4, [.ref qmd, .ref qmt, .int (nI n), .int (bI on1_45), .int (kUn on1_45 lf1_45), .int (nI dn1_45), .int pl, .ref qml, .int (nI k), .ref qmk, .int (nI 0), .ref qmh, .int (nI nh), .int (nI 0), .ref qmw])), (qmd, .inl (cyI, 512, .inl w1_45)), (qmk, .inl (cyI, 460, .inl M)), (qmw, .inl (cyZ, 64, .inl WL1_45))]) [0, 1, 2, 3] rfl
      have hD9 := hD.sub (ws' := [(qm, .inr (4, [.ref qmd, .ref qmt, .int (nI n), .int (bI on1_45), .int (kUn on1_45 lf1_45), .int (nI dn1_45), .int pl, .ref qml, .int (nI k), .ref qmk, .int (nI 0), .ref qmh, .int (nI nh), .int (nI 0), .ref qmw])), (qmd, .inl (cyI, 512, .inl w1_45)), (qmk, .inl (cyI, 460, .inl M)), (qmw, .inl (cyZ, 64, .inl WL1_45))]) [0, 1, 2, 3] (by decide) rfl
      have hK9 := hK.sub (tys' := [(cyI, .int), (cyZ, .boolean)]) [0, 1] rfl
      exact W.iret hx hb hr (fun tS ht hW => ⟨⟨_, (on1_45, w1_45, lf1_45, dn1_45, WL1_45, 0), rfl, ⟨by rw [hPut_45]; exact (kDel_y hf (kIs_text hI c_31)).symm, by omega⟩, by rw [ht]; exact hP9, va_K.moved hW.alike hK9, hD9⟩, hS.F ht⟩) hS.2.2 dX5_delete_48
    ·
      refine lv_bipush (v := (-2)) hx hb dX5_delete_34 (by decide) ?_
      -- qm : .inr (4, [.ref qmd, .ref qmt, .int (nI n), .int (bI true), .int lf, .int (nI dn), .int pl, .ref qml, .int (nI k), .ref qmk, .int (nI mz), .ref qmh, .int (nI nh), .int (nI 0), .ref qmw])  ~  .inr (4, [.ref qmd, .ref qmt, .int (nI n), .int (bI true), .int (kUn true lf), .int (nI dn), .int pl, .ref qml, .int (nI k), .ref qmk, .int (nI mz), .ref qmh, .int (nI nh), .int (nI 0), .ref qmw])
      have hP9 := hP.sub (ws' := [(qm, .inr (4, [.ref qmd, .ref qmt, .int (nI n), .int (bI true), .int (kUn true lf), .int (nI dn), .int pl, .ref qml, .int (nI k), .ref qmk, .int (nI mz), .ref qmh, .int (nI nh), .int (nI 0), .ref qmw])), (qmd, .inl (cyI, 512, .inl w)), (qmk, .inl (cyI, 460, .inl M)), (qmw, .inl (cyZ, 64, .inl WL))]) [0, 1, 2, 3] rfl
      have hD9 := hD.sub (ws' := [(qm, .inr (4, [.ref qmd, .ref qmt, .int (nI n), .int (bI true), .int (kUn true lf), .int (nI dn), .int pl, .ref qml, .int (nI k), .ref qmk, .int (nI mz), .ref qmh, .int (nI nh), .int (nI 0), .ref qmw])), (qmd, .inl (cyI, 512, .inl w)), (qmk, .inl (cyI, 460, .inl M)), (qmw, .inl (cyZ, 64, .inl WL))]) [0, 1, 2, 3] (by decide) rfl
      have hK9 := hK.sub (tys' := [(cyI, .int), (cyZ, .boolean)]) [0, 1] rfl
      exact W.iret hx hb hr (fun tS ht hW => ⟨⟨_, (true, w, lf, dn, WL, mz), rfl, ⟨(kDel_n (fun _ => kIs_form2 c_31)).symm, ⟨Nat.le_refl _, by omega⟩⟩, by rw [ht]; exact hP9, va_K.moved hW.alike hK9, hD9⟩, hS.F ht⟩) hS.2.2 dX5_delete_36
  ·
    refine zz_top (zFI_f hf) ?_
    refine lv_istore_n (lv' := [(2, .int (-1)), (0, .ref qm), (1, .int ky)]) hx hb dX5_delete_20 rfl hl (by decide) rfl (fun ls hl => ?_)
    refine lv_iload_n hx hb dX5_delete_21 rfl (lv_at hl 0 rfl) ?_
    refine lv_if_lt (tgt := 34) hx hb dX5_delete_22 (by decide) (fun c_22 => ?_) (fun c_22 => absurd (by decide) c_22)
    refine lv_bipush (v := (-2)) hx hb dX5_delete_34 (by decide) ?_
    -- qm : .inr (4, [.ref qmd, .ref qmt, .int (nI n), .int (bI true), .int lf, .int (nI dn), .int pl, .ref qml, .int (nI k), .ref qmk, .int (nI mz), .ref qmh, .int (nI nh), .int (nI 0), .ref qmw])  ~  .inr (4, [.ref qmd, .ref qmt, .int (nI n), .int (bI true), .int (kUn true lf), .int (nI dn), .int pl, .ref qml, .int (nI k), .ref qmk, .int (nI mz), .ref qmh, .int (nI nh), .int (nI 0), .ref qmw])
    have hP9 := hP.sub (ws' := [(qm, .inr (4, [.ref qmd, .ref qmt, .int (nI n), .int (bI true), .int (kUn true lf), .int (nI dn), .int pl, .ref qml, .int (nI k), .ref qmk, .int (nI mz), .ref qmh, .int (nI nh), .int (nI 0), .ref qmw])), (qmd, .inl (cyI, 512, .inl w)), (qmk, .inl (cyI, 460, .inl M)), (qmw, .inl (cyZ, 64, .inl WL))]) [0, 1, 2, 3] rfl
    have hD9 := hD.sub (ws' := [(qm, .inr (4, [.ref qmd, .ref qmt, .int (nI n), .int (bI true), .int (kUn true lf), .int (nI dn), .int pl, .ref qml, .int (nI k), .ref qmk, .int (nI mz), .ref qmh, .int (nI nh), .int (nI 0), .ref qmw])), (qmd, .inl (cyI, 512, .inl w)), (qmk, .inl (cyI, 460, .inl M)), (qmw, .inl (cyZ, 64, .inl WL))]) [0, 1, 2, 3] (by decide) rfl
    have hK9 := hK.sub (tys' := [(cyI, .int), (cyZ, .boolean)]) [0, 1] rfl
    exact W.iret hx hb hr (fun tS ht hW => ⟨⟨_, (true, w, lf, dn, WL, mz), rfl, ⟨(kDel_n (fun h => absurd h hf)).symm, ⟨Nat.le_refl _, by omega⟩⟩, by rw [ht]; exact hP9, va_K.moved hW.alike hK9, hD9⟩, hS.F ht⟩) hS.2.2 dX5_delete_36
set_option maxHeartbeats 4000000 in
set_option maxRecDepth 100000 in
theorem c_X5_clean (l : Launch) (dC : Nat → ClassId) (dI : Nat → Nat → Nat) (cyI cyZ : ClassId) (qm qmd qmw qmt qml qmk qmh : Nat) (sz : Nat) (n : Nat) (lf : Int32) (dn : Nat) (pl : Int32) (k mz nh : Nat) (th : Int32) (w : Nat → Int32) (WL : Nat → Int32) (hdn0 : dn < 900000) (HP0 : kPos w) : Met l yX5_clean wsX5_clean ({ frames := 4, cells := 0, slots := 0, locals := 88 }) (va_Pc [.ref qm] (fun U => U.heap.size = sz ∧ va_P (dC, dI) vwCl [(qm, .inr (4, [.ref qmd, .ref qmt, .int (nI n), .int (bI true), .int lf, .int (nI dn), .int pl, .ref qml, .int (nI k), .ref qmk, .int (nI mz), .ref qmh, .int (nI nh), .int th, .ref qmw])), (qmd, .inl (cyI, 512, .inl w)), (qmw, .inl (cyZ, 64, .inl WL))] U.heap ∧ va_K (dC, dI) vwCl [(cyI, .int), (cyZ, .boolean)] U ∧ va_D (fun _ => True) [(qm, .inr (4, [.ref qmd, .ref qmt, .int (nI n), .int (bI true), .int lf, .int (nI dn), .int pl, .ref qml, .int (nI k), .ref qmk, .int (nI mz), .ref qmh, .int (nI nh), .int th, .ref qmw])), (qmd, .inl (cyI, 512, .inl w)), (qmw, .inl (cyZ, 64, .inl WL))])) (va_Qi (S := Bool × (Nat → Int32) × Int32 × Nat × (Nat → Int32)) (fun (r : Int32) (uU : Bool × (Nat → Int32) × Int32 × Nat × (Nat → Int32)) => match uU with | (on1, w1, lf1, dn1, WL1) => ((r, on1, w1, lf1, dn1) = kClean w lf dn) ∧ (dn ≤ dn1 ∧ dn1 ≤ dn + 128)) (fun (uU : Bool × (Nat → Int32) × Int32 × Nat × (Nat → Int32)) tS => match uU with | (on1, w1, lf1, dn1, WL1) => va_P (dC, dI) vwCl [(qm, .inr (4, [.ref qmd, .ref qmt, .int (nI n), .int (bI on1), .int (kUn on1 lf1), .int (nI dn1), .int pl, .ref qml, .int (nI k), .ref qmk, .int (nI mz), .ref qmh, .int (nI nh), .int (nI 0), .ref qmw])), (qmd, .inl (cyI, 512, .inl w1)), (qmw, .inl (cyZ, 64, .inl WL1))] tS.heap ∧ va_K (dC, dI) vwCl [(cyI, .int), (cyZ, .boolean)] tS ∧ va_D (va_A [(qm, .inr (4, [.ref qmd, .ref qmt, .int (nI n), .int (bI true), .int lf, .int (nI dn), .int pl, .ref qml, .int (nI k), .ref qmk, .int (nI mz), .ref qmh, .int (nI nh), .int th, .ref qmw])), (qmd, .inl (cyI, 512, .inl w)), (qmw, .inl (cyZ, 64, .inl WL))] sz) [(qm, .inr (4, [.ref qmd, .ref qmt, .int (nI n), .int (bI on1), .int (kUn on1 lf1), .int (nI dn1), .int pl, .ref qml, .int (nI k), .ref qmk, .int (nI mz), .ref qmh, .int (nI nh), .int (nI 0), .ref qmw])), (qmd, .inl (cyI, 512, .inl w1)), (qmw, .inl (cyZ, 64, .inl WL1))]) (va_A [(qm, .inr (4, [.ref qmd, .ref qmt, .int (nI n), .int (bI true), .int lf, .int (nI dn), .int pl, .ref qml, .int (nI k), .ref qmk, .int (nI mz), .ref qmh, .int (nI nh), .int th, .ref qmw])), (qmd, .inl (cyI, 512, .inl w)), (qmw, .inl (cyZ, 64, .inl WL))] sz)) 0 0 (va_A [(qm, .inr (4, [.ref qmd, .ref qmt, .int (nI n), .int (bI true), .int lf, .int (nI dn), .int pl, .ref qml, .int (nI k), .ref qmk, .int (nI mz), .ref qmh, .int (nI nh), .int th, .ref qmw])), (qmd, .inl (cyI, 512, .inl w)), (qmw, .inl (cyZ, 64, .inl WL))] sz) := by
  refine Met.ofW (cc := cX5_clean) (maxL := 4) (ret := (some .int)) (by decide) rfl ?_
  intro pz ez sS mM args below meth cC s₁ B hml hv
  obtain ⟨rfl, hsz, hP, hK, hD0⟩ := hv
  have hx := B.exec
  have hb := B.bytes
  have hr := B.returns
  have hts := atoms_spec (ws := wsX5_clean) B.pre
  have hown : sS.vm.findClass RX5 = some mM.cls := findClass_of_methodNamed B.named
  have hlocks := B.notSynchronized
  subst hsz
  have hD := hD0.self (sz := sS.heap.size)
  generalize hAe : va_A [(qm, .inr (4, [.ref qmd, .ref qmt, .int (nI n), .int (bI true), .int lf, .int (nI dn), .int pl, .ref qml, .int (nI k), .ref qmk, .int (nI mz), .ref qmh, .int (nI nh), .int th, .ref qmw])), (qmd, .inl (cyI, 512, .inl w)), (qmw, .inl (cyZ, 64, .inl WL))] sS.heap.size = A at hD ⊢
  have hA : ∀ q : Nat, sS.heap.size ≤ q → A q := fun q h => by rw [← hAe]; exact Or.inr h
  have hS : va_S A sS.heap sS.heap [] := va_S.rf
  have hP : va_P (dC, dI) vwCl [(qm, .inr (4, [.ref qmd, .ref qmt, .int (nI n), .int (bI true), .int lf, .int (nI dn), .int pl, .ref qml, .int (nI k), .ref qmk, .int (nI mz), .ref qmh, .int (nI nh), .int th, .ref qmw])), (qmd, .inl (cyI, 512, .inl w)), (qmw, .inl (cyZ, 64, .inl WL))] sS.heap := hP
  have iwX5 : ∀ w ∈ wsX50, w ∈ wsX5_clean := by decide +kernel
  have fk16 := hts (.fieldLink RX5 16 "CodedStoreModel" "on" "Z") (by decide +kernel)
  have fk36 := hts (.fieldLink RX5 36 "CodedStoreModel" "wasLive" "[Z") (by decide +kernel)
  have fk43 := hts (.fieldLink RX5 43 "CodedStoreModel" "thrown" "I") (by decide +kernel)
  have hl := lv_entry ([.ref qm]) (n := 4) (Nat.le_of_ble_eq_true rfl)
  rw [lg_entry_eq]
  generalize (lg_sl ([.ref qm]) ++ List.replicate (4 - (lg_sl ([.ref qm])).length) Slot.unset).toArray = ls at hl ⊢
  have hl : lv_has ls 4 [(0, .ref qm)] := hl
  obtain ⟨Y0, hY0⟩ : ∃ Z, Z = kZapF (kLeft (kLive w)) 64 0 w lf dn 0 := ⟨_, rfl⟩
  have hct := fb_ct_le (kLive w) 64
  refine lv_aload_n hx hb dX5_clean_0 rfl (lv_at hl 0 rfl) ?_
  refine lv_iconst (v := nI 0) hx hb dX5_clean_1 (by decide) ?_
  refine va_put (D := (dC, dI)) (ci := 4) (v := .int (nI 0)) (ty := .int) (C := RX5) (T := TX5) (N := 15) hx hb hts iwX5 tyX5 tyX5_ok nmX5 hown hK hP hD hS 0 rfl rfl 13 (by decide) fk43 (fun _ h9 => h9) rfl (by decide +kernel) rfl rfl (Nat.le_of_ble_eq_true rfl) dX5_clean_2 (fun H locs hP hD hS => ?_)
  have hP : va_P (dC, dI) vwCl [(qm, .inr (4, [.ref qmd, .ref qmt, .int (nI n), .int (bI true), .int lf, .int (nI dn), .int pl, .ref qml, .int (nI k), .ref qmk, .int (nI mz), .ref qmh, .int (nI nh), .int (nI 0), .ref qmw])), (qmd, .inl (cyI, 512, .inl w)), (qmw, .inl (cyZ, 64, .inl WL))] H := hP
  have hD : va_D A [(qm, .inr (4, [.ref qmd, .ref qmt, .int (nI n), .int (bI true), .int lf, .int (nI dn), .int pl, .ref qml, .int (nI k), .ref qmk, .int (nI mz), .ref qmh, .int (nI nh), .int (nI 0), .ref qmw])), (qmd, .inl (cyI, 512, .inl w)), (qmw, .inl (cyZ, 64, .inl WL))] := hD
  refine lv_aload_n hx hb dX5_clean_5 rfl (lv_at hl 0 rfl) ?_
  refine va_get (D := (dC, dI)) (ci := 4) (v := .int (bI true)) (C := RX5) (T := TX5) (N := 15) hx hb hts iwX5 hown hK hP 0 rfl rfl 3 (by decide) fk16 (fun _ h9 => h9) rfl dX5_clean_6 ?_
  refine lv_if_ne (tgt := 15) hx hb dX5_clean_9 (by decide) (fun c_9 => ?_) (fun c_9 => absurd c_9 (by decide))
  refine lv_iconst (v := nI 0) hx hb dX5_clean_15 (by decide) ?_
  refine lv_istore_n (lv' := [(1, .int (nI 0)), (0, .ref qm)]) hx hb dX5_clean_16 rfl hl (by decide) rfl (fun ls hl => ?_)
  refine lv_aload_n hx hb dX5_clean_17 rfl (lv_at hl 1 rfl) ?_
  have hPc := hP.sub (ws' := [(qm, .inr (4, [.ref qmd, .ref qmt, .int (nI n), .int (bI true), .int lf, .int (nI dn), .int pl, .ref qml, .int (nI k), .ref qmk, .int (nI mz), .ref qmh, .int (nI nh), .int (nI 0), .ref qmw])), (qmd, .inl (cyI, 512, .inl w)), (qmw, .inl (cyZ, 64, .inl WL))]) [0, 1, 2] rfl
  have hKc := hK.sub (tys' := [(cyI, .int), (cyZ, .boolean)]) [0, 1] rfl
  have hDc := hD.sub (ws' := [(qm, .inr (4, [.ref qmd, .ref qmt, .int (nI n), .int (bI true), .int lf, .int (nI dn), .int pl, .ref qml, .int (nI k), .ref qmk, .int (nI mz), .ref qmh, .int (nI nh), .int (nI 0), .ref qmw])), (qmd, .inl (cyI, 512, .inl w)), (qmw, .inl (cyZ, 64, .inl WL))]) [0, 1, 2] (by decide) rfl
  have hFc := va_free (wc := [(qm, .inr (4, [.ref qmd, .ref qmt, .int (nI n), .int (bI true), .int lf, .int (nI dn), .int pl, .ref qml, .int (nI k), .ref qmk, .int (nI mz), .ref qmh, .int (nI nh), .int (nI 0), .ref qmw])), (qmd, .inl (cyI, 512, .inl w)), (qmw, .inl (cyZ, 64, .inl WL))]) hD hS hA [0, 1, 2] rfl
  refine va_calli (va_runV (As := []) (rest := []) ⟨hx, hb, hml, hown, hts⟩ (c_X5_findLive l dC dI cyI cyZ qm qmd qmw qmt qml qmk qmh H.size n true lf dn pl k mz nh (nI 0) w WL (HP0)) (cwV 0 hts gX5_clean_X5_findLive rfl rfl rfl (by decide +kernel) ⟨Nat.le_of_ble_eq_true rfl, Nat.le_of_ble_eq_true rfl⟩) ⟨zz_blW, va_recv hKc hPc (ci := 4) (q0 := 0) rfl rfl, fun U hU hW => ⟨rfl, by rw [hU], by rw [hU]; exact hPc, va_K.moved hW.alike hKc, hDc.weaken (fun _ _ _ _ => trivial)⟩⟩ rfl rfl hl.1 rfl (lv_room (Nat.le_of_ble_eq_true rfl)) dX5_clean_18 ⟨Nat.zero_le _, Nat.zero_le _⟩) hS (fun q _ h => hFc q h) hFc (fun r_18 uU tS H1 locs ht9 hvm9 hw9 hB9 hz1 hk1 hS => ?_)
  obtain ⟨WL1_18, rfl⟩ : ∃ z, z = uU := ⟨_, rfl⟩
  obtain ⟨hP1, hK1, hD1⟩ := hB9
  have hw9 : (r_18 = nI (fb_ct (kLive w) 64)) ∧ (∀ j, j < 64 → WL1_18 j = bI (kLive w j)) := hw9
  obtain ⟨hr_18, HWL_18⟩ := hw9
  have hr_18 := Eq.symm hr_18
  subst hr_18
  rw [ht9] at hP1
  have hK1 := va_K.moved hvm9.symm hK1
  obtain ⟨hP, hD⟩ := va_join (wr := []) (w1 := [(qm, .inr (4, [.ref qmd, .ref qmt, .int (nI n), .int (bI true), .int lf, .int (nI dn), .int pl, .ref qml, .int (nI k), .ref qmk, .int (nI mz), .ref qmh, .int (nI nh), .int (nI 0), .ref qmw])), (qmd, .inl (cyI, 512, .inl w)), (qmw, .inl (cyZ, 64, .inl WL1_18))]) hP hD [0, 1, 2] [] rfl rfl (by decide) (by decide) hk1 hFc hP1 hD1
  generalize H1 = H at hP hS ⊢
  have hP : va_P (dC, dI) vwCl [(qm, .inr (4, [.ref qmd, .ref qmt, .int (nI n), .int (bI true), .int lf, .int (nI dn), .int pl, .ref qml, .int (nI k), .ref qmk, .int (nI mz), .ref qmh, .int (nI nh), .int (nI 0), .ref qmw])), (qmd, .inl (cyI, 512, .inl w)), (qmw, .inl (cyZ, 64, .inl WL1_18))] H := hP
  have hD : va_D A [(qm, .inr (4, [.ref qmd, .ref qmt, .int (nI n), .int (bI true), .int lf, .int (nI dn), .int pl, .ref qml, .int (nI k), .ref qmk, .int (nI mz), .ref qmh, .int (nI nh), .int (nI 0), .ref qmw])), (qmd, .inl (cyI, 512, .inl w)), (qmw, .inl (cyZ, 64, .inl WL1_18))] := hD
  refine lv_istore_n (lv' := [(2, .int (nI (fb_ct (kLive w) 64))), (1, .int (nI 0)), (0, .ref qm)]) hx hb dX5_clean_21 rfl hl (by decide) rfl (fun ls hl => ?_)
  refine lv_iconst (v := nI 0) hx hb dX5_clean_22 (by decide) ?_
  refine lv_istore_n (lv' := [(3, .int (nI 0)), (2, .int (nI (fb_ct (kLive w) 64))), (1, .int (nI 0)), (0, .ref qm)]) hx hb dX5_clean_23 rfl hl (by decide) rfl (fun ls hl => ?_)
  refine zz_loopW (pc := 24) (μ := fun (x : Nat × Nat × (Nat → Int32) × Int32 × Nat × Nat) => match x with | (b, f, w1, lf1, dn1, c) => 64 - b) (Inv := fun (x : Nat × Nat × (Nat → Int32) × Int32 × Nat × Nat) (H : Heap) (locs : List Loc) (ls : Array Slot) => match x with | (b, f, w1, lf1, dn1, c) => (b ≤ 64) ∧ (b + f = 64) ∧ (c ≤ b) ∧ (dn ≤ dn1) ∧ (dn1 ≤ dn + b) ∧ (kZapF (kLeft (kLive w)) f b w1 lf1 dn1 c = Y0) ∧ va_P (dC, dI) vwCl [(qm, .inr (4, [.ref qmd, .ref qmt, .int (nI n), .int (bI true), .int lf1, .int (nI dn1), .int pl, .ref qml, .int (nI k), .ref qmk, .int (nI mz), .ref qmh, .int (nI nh), .int (nI 0), .ref qmw])), (qmd, .inl (cyI, 512, .inl w1)), (qmw, .inl (cyZ, 64, .inl WL1_18))] H ∧ va_D A [(qm, .inr (4, [.ref qmd, .ref qmt, .int (nI n), .int (bI true), .int lf1, .int (nI dn1), .int pl, .ref qml, .int (nI k), .ref qmk, .int (nI mz), .ref qmh, .int (nI nh), .int (nI 0), .ref qmw])), (qmd, .inl (cyI, 512, .inl w1)), (qmw, .inl (cyZ, 64, .inl WL1_18))] ∧ va_S A sS.heap H locs ∧ lv_has ls 4 [(0, .ref qm), (1, .int (nI c)), (2, .int (nI (fb_ct (kLive w) 64))), (3, .int (nI b))]) (x0 := (0, 64, w, lf, dn, 0)) ⟨by omega, by omega, by omega, by omega, by omega, hY0.symm, hP, hD, hS, lv_sub hl [3, 2, 1, 0] rfl⟩ ?_
  intro ⟨b, f, w1, lf1, dn1, c⟩ H locs ls hI ih24
  obtain ⟨hb9, hf, hc, hd1, hd2, hE, hP, hD, hS, hl⟩ := hI
  have hl : lv_has ls 4 [(0, .ref qm), (1, .int (nI c)), (2, .int (nI (fb_ct (kLive w) 64))), (3, .int (nI b))] := hl
  have hP : va_P (dC, dI) vwCl [(qm, .inr (4, [.ref qmd, .ref qmt, .int (nI n), .int (bI true), .int lf1, .int (nI dn1), .int pl, .ref qml, .int (nI k), .ref qmk, .int (nI mz), .ref qmh, .int (nI nh), .int (nI 0), .ref qmw])), (qmd, .inl (cyI, 512, .inl w1)), (qmw, .inl (cyZ, 64, .inl WL1_18))] H := hP
  have hD : va_D A [(qm, .inr (4, [.ref qmd, .ref qmt, .int (nI n), .int (bI true), .int lf1, .int (nI dn1), .int pl, .ref qml, .int (nI k), .ref qmk, .int (nI mz), .ref qmh, .int (nI nh), .int (nI 0), .ref qmw])), (qmd, .inl (cyI, 512, .inl w1)), (qmw, .inl (cyZ, 64, .inl WL1_18))] := hD
  have hb9 : b ≤ 64 := hb9
  have hf : b + f = 64 := hf
  have hc : c ≤ b := hc
  have hd1 : dn ≤ dn1 := hd1
  have hd2 : dn1 ≤ dn + b := hd2
  have hE : kZapF (kLeft (kLive w)) f b w1 lf1 dn1 c = Y0 := hE
  refine lv_iload_n hx hb dX5_clean_24 rfl (lv_at hl 3 rfl) ?_
  refine lv_bipush (v := nI 64) hx hb dX5_clean_25 (by decide) ?_
  refine zn_icmp_ge (tgt := 67) hx hb dX5_clean_27 (by decide) (by omega) (by omega) (fun c_27 => ?_) (fun c_27 => ?_)
  ·
    refine lv_iconst (v := nI 0) hx hb dX5_clean_67 (by decide) ?_
    refine lv_istore_n (lv' := [(3, .int (nI 0)), (0, .ref qm), (1, .int (nI c)), (2, .int (nI (fb_ct (kLive w) 64)))]) hx hb dX5_clean_68 rfl hl (by decide) rfl (fun ls hl => ?_)
    have hY : kZapF (kLeft (kLive w)) 64 0 w lf dn 0 = (true, w1, lf1, dn1, c) := by
      rw [← hY0, ← hE]
      have e0 : f = 0 := by omega
      subst e0
      rfl
    obtain ⟨Z0, hZ0⟩ : ∃ Z, Z = kZapF (kGrave (kLive w)) 64 0 w1 lf1 dn1 c := ⟨_, rfl⟩
    refine zz_loopW (pc := 69) (μ := fun (x : Nat × Nat × (Nat → Int32) × Int32 × Nat × Nat) => match x with | (b, f, w2, lf2, dn2, c) => 64 - b) (Inv := fun (x : Nat × Nat × (Nat → Int32) × Int32 × Nat × Nat) (H : Heap) (locs : List Loc) (ls : Array Slot) => match x with | (b, f, w2, lf2, dn2, c) => (b ≤ 64) ∧ (b + f = 64) ∧ (c ≤ 64 + b) ∧ (dn ≤ dn2) ∧ (dn2 ≤ dn + 64 + b) ∧ (kZapF (kGrave (kLive w)) f b w2 lf2 dn2 c = Z0) ∧ va_P (dC, dI) vwCl [(qm, .inr (4, [.ref qmd, .ref qmt, .int (nI n), .int (bI true), .int lf2, .int (nI dn2), .int pl, .ref qml, .int (nI k), .ref qmk, .int (nI mz), .ref qmh, .int (nI nh), .int (nI 0), .ref qmw])), (qmd, .inl (cyI, 512, .inl w2)), (qmw, .inl (cyZ, 64, .inl WL1_18))] H ∧ va_D A [(qm, .inr (4, [.ref qmd, .ref qmt, .int (nI n), .int (bI true), .int lf2, .int (nI dn2), .int pl, .ref qml, .int (nI k), .ref qmk, .int (nI mz), .ref qmh, .int (nI nh), .int (nI 0), .ref qmw])), (qmd, .inl (cyI, 512, .inl w2)), (qmw, .inl (cyZ, 64, .inl WL1_18))] ∧ va_S A sS.heap H locs ∧ lv_has ls 4 [(0, .ref qm), (1, .int (nI c)), (2, .int (nI (fb_ct (kLive w) 64))), (3, .int (nI b))]) (x0 := (0, 64, w1, lf1, dn1, c)) ⟨by omega, by omega, by omega, by omega, by omega, hZ0.symm, hP, hD, hS, lv_sub hl [1, 2, 3, 0] rfl⟩ ?_
    intro ⟨b, f, w2, lf2, dn2, c⟩ H locs ls hI ih69
    obtain ⟨hb9, hf, hc, hd1, hd2, hE, hP, hD, hS, hl⟩ := hI
    have hl : lv_has ls 4 [(0, .ref qm), (1, .int (nI c)), (2, .int (nI (fb_ct (kLive w) 64))), (3, .int (nI b))] := hl
    have hP : va_P (dC, dI) vwCl [(qm, .inr (4, [.ref qmd, .ref qmt, .int (nI n), .int (bI true), .int lf2, .int (nI dn2), .int pl, .ref qml, .int (nI k), .ref qmk, .int (nI mz), .ref qmh, .int (nI nh), .int (nI 0), .ref qmw])), (qmd, .inl (cyI, 512, .inl w2)), (qmw, .inl (cyZ, 64, .inl WL1_18))] H := hP
    have hD : va_D A [(qm, .inr (4, [.ref qmd, .ref qmt, .int (nI n), .int (bI true), .int lf2, .int (nI dn2), .int pl, .ref qml, .int (nI k), .ref qmk, .int (nI mz), .ref qmh, .int (nI nh), .int (nI 0), .ref qmw])), (qmd, .inl (cyI, 512, .inl w2)), (qmw, .inl (cyZ, 64, .inl WL1_18))] := hD
    have hb9 : b ≤ 64 := hb9
    have hf : b + f = 64 := hf
    have hc : c ≤ 64 + b := hc
    have hd1 : dn ≤ dn2 := hd1
    have hd2 : dn2 ≤ dn + 64 + b := hd2
    have hE : kZapF (kGrave (kLive w)) f b w2 lf2 dn2 c = Z0 := hE
    refine lv_iload_n hx hb dX5_clean_69 rfl (lv_at hl 3 rfl) ?_
    refine lv_bipush (v := nI 64) hx hb dX5_clean_70 (by decide) ?_
    refine zn_icmp_ge (tgt := 113) hx hb dX5_clean_72 (by decide) (by omega) (by omega) (fun c_72 => ?_) (fun c_72 => ?_)
    ·
      refine lv_iload_n hx hb dX5_clean_113 rfl (lv_at hl 1 rfl) ?_
      have hend : kZapF (kGrave (kLive w)) f b w2 lf2 dn2 c = (true, w2, lf2, dn2, c) := by
        have e0 : f = 0 := by omega
        subst e0
        rfl
      -- qm : .inr (4, [.ref qmd, .ref qmt, .int (nI n), .int (bI true), .int lf2, .int (nI dn2), .int pl, .ref qml, .int (nI k), .ref qmk, .int (nI mz), .ref qmh, .int (nI nh), .int (nI 0), .ref qmw])  ~  .inr (4, [.ref qmd, .ref qmt, .int (nI n), .int (bI true), .int (kUn true lf2), .int (nI dn2), .int pl, .ref qml, .int (nI k), .ref qmk, .int (nI mz), .ref qmh, .int (nI nh), .int (nI 0), .ref qmw])
      have hP9 := hP.sub (ws' := [(qm, .inr (4, [.ref qmd, .ref qmt, .int (nI n), .int (bI true), .int (kUn true lf2), .int (nI dn2), .int pl, .ref qml, .int (nI k), .ref qmk, .int (nI mz), .ref qmh, .int (nI nh), .int (nI 0), .ref qmw])), (qmd, .inl (cyI, 512, .inl w2)), (qmw, .inl (cyZ, 64, .inl WL1_18))]) [0, 1, 2] rfl
      have hD9 := hD.sub (ws' := [(qm, .inr (4, [.ref qmd, .ref qmt, .int (nI n), .int (bI true), .int (kUn true lf2), .int (nI dn2), .int pl, .ref qml, .int (nI k), .ref qmk, .int (nI mz), .ref qmh, .int (nI nh), .int (nI 0), .ref qmw])), (qmd, .inl (cyI, 512, .inl w2)), (qmw, .inl (cyZ, 64, .inl WL1_18))]) [0, 1, 2] (by decide) rfl
      have hK9 := hK.sub (tys' := [(cyI, .int), (cyZ, .boolean)]) [0, 1] rfl
      exact W.iret hx hb hr (fun tS ht hW => ⟨⟨_, (true, w2, lf2, dn2, WL1_18), rfl, ⟨by rw [kClean_2 hY (hZ0.symm.trans (hE.symm.trans hend))]; rfl, by omega⟩, by rw [ht]; exact hP9, va_K.moved hW.alike hK9, hD9⟩, hS.F ht⟩) hS.2.2 dX5_clean_114
    ·
      obtain ⟨f9, e9⟩ : ∃ f9, f = f9 + 1 := ⟨f - 1, by omega⟩
      subst e9
      refine lv_aload_n hx hb dX5_clean_75 rfl (lv_at hl 0 rfl) ?_
      refine va_get (D := (dC, dI)) (ci := 4) (v := .ref qmw) (C := RX5) (T := TX5) (N := 15) hx hb hts iwX5 hown hK hP 0 rfl rfl 14 (by decide) fk36 (fun _ h9 => h9) rfl dX5_clean_76 ?_
      refine lv_iload_n hx hb dX5_clean_79 rfl (lv_at hl 3 rfl) ?_
      refine va_zald hx hb hK hP 2 1 rfl rfl (vp_in_nI (n := b) (by omega) (by decide)) dX5_clean_80 ?_
      refine zz_top (congrArg WL1_18 (nI_clamp (n := b) (by omega))) ?_
      refine zz_top (HWL_18 b (by omega)) ?_
      refine zb_if_eq (tgt := 107) hx hb dX5_clean_81 (by decide) (fun c_81 => ?_) (fun c_81 => ?_)
      ·
        refine lv_iinc (v := nI (b + 1)) (lv' := [(3, .int (nI (b + 1))), (0, .ref qm), (1, .int (nI c)), (2, .int (nI (fb_ct (kLive w) 64)))]) hx hb dX5_clean_107 hl (k := 3) rfl (nI_add b 1) (by decide) rfl (fun ls hl => ?_)
        refine lv_goto (tgt := 69) hx hb dX5_clean_110 (by decide) ?_
        exact ih69 (b + 1, f9, w2, lf2, dn2, c) _ _ _ ⟨by omega, by omega, by omega, by omega, by omega, (kZapF_no (by first| exact b_and_f1 c_81 | exact b_and_f2 (d_f c_90))).symm.trans hE, hP, hD, hS, lv_sub hl [1, 2, 3, 0] rfl⟩ (by first | omega | (dsimp only; omega))
      ·
        refine lv_aload_n hx hb dX5_clean_84 rfl (lv_at hl 0 rfl) ?_
        refine lv_iload_n hx hb dX5_clean_85 rfl (lv_at hl 3 rfl) ?_
        have hPc := hP.sub (ws' := [(qm, .inr (4, [.ref qmd, .ref qmt, .int (nI n), .int (bI true), .int lf2, .int (nI dn2), .int pl, .ref qml, .int (nI k), .ref qmk, .int (nI mz), .ref qmh, .int (nI nh), .int (nI 0), .ref qmw])), (qmd, .inl (cyI, 512, .inl w2))]) [0, 1] rfl
        have hKc := hK.sub (tys' := [(cyI, .int), (cyZ, .boolean)]) [0, 1] rfl
        refine vp_callSi (va_Run.run (va_runV (As := [.int (nI b)]) (rest := []) ⟨hx, hb, hml, hown, hts⟩ (c_X5_formOf l dC dI cyI cyZ qm qmd qmt qml qmk qmh qmw n true lf2 dn2 pl k mz nh (nI 0) w2 b (by omega)) (cwV 1 hts gX5_clean_X5_formOf rfl rfl rfl (by decide +kernel) ⟨Nat.le_of_ble_eq_true rfl, Nat.le_of_ble_eq_true rfl⟩) ⟨zz_blR, va_recv hKc hPc (ci := 4) (q0 := 0) rfl rfl, fun U hU hW => ⟨rfl, by rw [hU]; exact hPc, va_K.moved hW.alike hKc⟩⟩ rfl rfl hl.1 rfl (lv_room (Nat.le_of_ble_eq_true rfl)) dX5_clean_86 ⟨Nat.zero_le _, Nat.zero_le _⟩)) (fun r_86 hr_86 => ?_)
        have hr_86 : kForm w2 b = r_86 := Eq.symm hr_86
        subst hr_86
        refine lv_iconst (v := nI 2) hx hb dX5_clean_89 (by decide) ?_
        refine lv_icmp_ne (tgt := 107) hx hb dX5_clean_90 (by decide) (fun c_90 => ?_) (fun c_90 => ?_)
        ·
          refine lv_iinc (v := nI (b + 1)) (lv' := [(3, .int (nI (b + 1))), (0, .ref qm), (1, .int (nI c)), (2, .int (nI (fb_ct (kLive w) 64)))]) hx hb dX5_clean_107 hl (k := 3) rfl (nI_add b 1) (by decide) rfl (fun ls hl => ?_)
          refine lv_goto (tgt := 69) hx hb dX5_clean_110 (by decide) ?_
          exact ih69 (b + 1, f9, w2, lf2, dn2, c) _ _ _ ⟨by omega, by omega, by omega, by omega, by omega, (kZapF_no (by first| exact b_and_f1 c_81 | exact b_and_f2 (d_f c_90))).symm.trans hE, hP, hD, hS, lv_sub hl [1, 2, 3, 0] rfl⟩ (by first | omega | (dsimp only; omega))
        ·
          refine lv_aload_n hx hb dX5_clean_93 rfl (lv_at hl 0 rfl) ?_
          refine lv_iload_n hx hb dX5_clean_94 rfl (lv_at hl 3 rfl) ?_
          by_cases hz : lf2 = nI 0
          ·
            have hPc := hP.sub (ws' := [(qm, .inr (4, [.ref qmd, .ref qmt, .int (nI n), .int (bI true), .int lf2, .int (nI dn2), .int pl, .ref qml, .int (nI k), .ref qmk, .int (nI mz), .ref qmh, .int (nI nh), .int (nI 0), .ref qmw])), (qmd, .inl (cyI, 512, .inl w2))]) [0, 1] rfl
            have hKc := hK.sub (tys' := [(cyI, .int), (cyZ, .boolean)]) [0, 1] rfl
            have hDc := hD.sub (ws' := [(qm, .inr (4, [.ref qmd, .ref qmt, .int (nI n), .int (bI true), .int lf2, .int (nI dn2), .int pl, .ref qml, .int (nI k), .ref qmk, .int (nI mz), .ref qmh, .int (nI nh), .int (nI 0), .ref qmw])), (qmd, .inl (cyI, 512, .inl w2))]) [0, 1] (by decide) rfl
            have hFc := va_free (wc := [(qm, .inr (4, [.ref qmd, .ref qmt, .int (nI n), .int (bI true), .int lf2, .int (nI dn2), .int pl, .ref qml, .int (nI k), .ref qmk, .int (nI mz), .ref qmh, .int (nI nh), .int (nI 0), .ref qmw])), (qmd, .inl (cyI, 512, .inl w2))]) hD hS hA [0, 1] rfl
            refine va_calli (va_runV (As := [.int (nI b)]) (rest := []) ⟨hx, hb, hml, hown, hts⟩ (c_X5_zero_off l dC dI cyI cyZ qm qmd qmt qml qmk qmh qmw H.size n true lf2 dn2 pl k mz nh (nI 0) w2 b (by omega) (hz)) (cwV 1 hts gX5_clean_X5_zero rfl rfl rfl (by decide +kernel) ⟨Nat.le_of_ble_eq_true rfl, Nat.le_of_ble_eq_true rfl⟩) ⟨zz_blW, va_recv hKc hPc (ci := 4) (q0 := 0) rfl rfl, fun U hU hW => ⟨rfl, by rw [hU], by rw [hU]; exact hPc, va_K.moved hW.alike hKc, hDc.weaken (fun _ _ _ _ => trivial)⟩⟩ rfl rfl hl.1 rfl (lv_room (Nat.le_of_ble_eq_true rfl)) dX5_clean_95 ⟨Nat.zero_le _, Nat.zero_le _⟩) hS (fun q _ h => hFc q h) hFc (fun r_95 uU tS H1 locs ht9 hvm9 hw9 hB9 hz1 hk1 hS => ?_)
            obtain ⟨hP1, hK1, hD1⟩ := hB9
            have hw9 : (r_95 = bI false) := hw9
            have hr_95 := hw9
            have hr_95 := Eq.symm hr_95
            subst hr_95
            rw [ht9] at hP1
            have hK1 := va_K.moved hvm9.symm hK1
            obtain ⟨hP, hD⟩ := va_join (wr := [(qmw, .inl (cyZ, 64, .inl WL1_18))]) (w1 := [(qm, .inr (4, [.ref qmd, .ref qmt, .int (nI n), .int (bI false), .int (-1), .int (nI dn2), .int pl, .ref qml, .int (nI k), .ref qmk, .int (nI mz), .ref qmh, .int (nI nh), .int (nI 0), .ref qmw])), (qmd, .inl (cyI, 512, .inl w2))]) hP hD [0, 1] [2] rfl rfl (by decide) (by decide) hk1 hFc hP1 hD1
            generalize H1 = H at hP hS ⊢
            have hP : va_P (dC, dI) vwCl [(qmw, .inl (cyZ, 64, .inl WL1_18)), (qm, .inr (4, [.ref qmd, .ref qmt, .int (nI n), .int (bI false), .int (-1), .int (nI dn2), .int pl, .ref qml, .int (nI k), .ref qmk, .int (nI mz), .ref qmh, .int (nI nh), .int (nI 0), .ref qmw])), (qmd, .inl (cyI, 512, .inl w2))] H := hP
            have hD : va_D A [(qmw, .inl (cyZ, 64, .inl WL1_18)), (qm, .inr (4, [.ref qmd, .ref qmt, .int (nI n), .int (bI false), .int (-1), .int (nI dn2), .int pl, .ref qml, .int (nI k), .ref qmk, .int (nI mz), .ref qmh, .int (nI nh), .int (nI 0), .ref qmw])), (qmd, .inl (cyI, 512, .inl w2))] := hD
            refine lv_if_ne (tgt := 104) hx hb dX5_clean_98 (by decide) (fun c_98 => absurd (by decide) c_98) (fun c_98 => ?_)
            refine lv_bipush (v := (-4)) hx hb dX5_clean_101 (by decide) ?_
            -- qm : .inr (4, [.ref qmd, .ref qmt, .int (nI n), .int (bI false), .int (-1), .int (nI dn2), .int pl, .ref qml, .int (nI k), .ref qmk, .int (nI mz), .ref qmh, .int (nI nh), .int (nI 0), .ref qmw])  ~  .inr (4, [.ref qmd, .ref qmt, .int (nI n), .int (bI false), .int (kUn false lf2), .int (nI dn2), .int pl, .ref qml, .int (nI k), .ref qmk, .int (nI mz), .ref qmh, .int (nI nh), .int (nI 0), .ref qmw])
            have hP9 := hP.sub (ws' := [(qm, .inr (4, [.ref qmd, .ref qmt, .int (nI n), .int (bI false), .int (kUn false lf2), .int (nI dn2), .int pl, .ref qml, .int (nI k), .ref qmk, .int (nI mz), .ref qmh, .int (nI nh), .int (nI 0), .ref qmw])), (qmd, .inl (cyI, 512, .inl w2)), (qmw, .inl (cyZ, 64, .inl WL1_18))]) [1, 2, 0] rfl
            have hD9 := hD.sub (ws' := [(qm, .inr (4, [.ref qmd, .ref qmt, .int (nI n), .int (bI false), .int (kUn false lf2), .int (nI dn2), .int pl, .ref qml, .int (nI k), .ref qmk, .int (nI mz), .ref qmh, .int (nI nh), .int (nI 0), .ref qmw])), (qmd, .inl (cyI, 512, .inl w2)), (qmw, .inl (cyZ, 64, .inl WL1_18))]) [1, 2, 0] (by decide) rfl
            have hK9 := hK.sub (tys' := [(cyI, .int), (cyZ, .boolean)]) [0, 1] rfl
            exact W.iret hx hb hr (fun tS ht hW => ⟨⟨_, (false, w2, lf2, dn2, WL1_18), rfl, ⟨by rw [kClean_2 hY (hZ0.symm.trans (hE.symm.trans (kZapF_off (b_and_t c_81 (d_t c_90)) hz)))]; rfl, by omega⟩, by rw [ht]; exact hP9, va_K.moved hW.alike hK9, hD9⟩, hS.F ht⟩) hS.2.2 dX5_clean_103
          ·
            have hPc := hP.sub (ws' := [(qm, .inr (4, [.ref qmd, .ref qmt, .int (nI n), .int (bI true), .int lf2, .int (nI dn2), .int pl, .ref qml, .int (nI k), .ref qmk, .int (nI mz), .ref qmh, .int (nI nh), .int (nI 0), .ref qmw])), (qmd, .inl (cyI, 512, .inl w2))]) [0, 1] rfl
            have hKc := hK.sub (tys' := [(cyI, .int), (cyZ, .boolean)]) [0, 1] rfl
            have hDc := hD.sub (ws' := [(qm, .inr (4, [.ref qmd, .ref qmt, .int (nI n), .int (bI true), .int lf2, .int (nI dn2), .int pl, .ref qml, .int (nI k), .ref qmk, .int (nI mz), .ref qmh, .int (nI nh), .int (nI 0), .ref qmw])), (qmd, .inl (cyI, 512, .inl w2))]) [0, 1] (by decide) rfl
            have hFc := va_free (wc := [(qm, .inr (4, [.ref qmd, .ref qmt, .int (nI n), .int (bI true), .int lf2, .int (nI dn2), .int pl, .ref qml, .int (nI k), .ref qmk, .int (nI mz), .ref qmh, .int (nI nh), .int (nI 0), .ref qmw])), (qmd, .inl (cyI, 512, .inl w2))]) hD hS hA [0, 1] rfl
            refine va_calli (va_runV (As := [.int (nI b)]) (rest := []) ⟨hx, hb, hml, hown, hts⟩ (c_X5_zero_on l dC dI cyI cyZ qm qmd qmt qml qmk qmh qmw H.size n true lf2 dn2 pl k mz nh (nI 0) w2 b (by omega) (hz)) (cwV 1 hts gX5_clean_X5_zero rfl rfl rfl (by decide +kernel) ⟨Nat.le_of_ble_eq_true rfl, Nat.le_of_ble_eq_true rfl⟩) ⟨zz_blW, va_recv hKc hPc (ci := 4) (q0 := 0) rfl rfl, fun U hU hW => ⟨rfl, by rw [hU], by rw [hU]; exact hPc, va_K.moved hW.alike hKc, hDc.weaken (fun _ _ _ _ => trivial)⟩⟩ rfl rfl hl.1 rfl (lv_room (Nat.le_of_ble_eq_true rfl)) dX5_clean_95 ⟨Nat.zero_le _, Nat.zero_le _⟩) hS (fun q _ h => hFc q h) hFc (fun r_95 uU tS H1 locs ht9 hvm9 hw9 hB9 hz1 hk1 hS => ?_)
            obtain ⟨hP1, hK1, hD1⟩ := hB9
            have hw9 : (r_95 = bI true) := hw9
            have hr_95 := hw9
            have hr_95 := Eq.symm hr_95
            subst hr_95
            rw [ht9] at hP1
            have hK1 := va_K.moved hvm9.symm hK1
            obtain ⟨hP, hD⟩ := va_join (wr := [(qmw, .inl (cyZ, 64, .inl WL1_18))]) (w1 := [(qm, .inr (4, [.ref qmd, .ref qmt, .int (nI n), .int (bI true), .int (kDec lf2), .int (nI (dn2 + 1)), .int pl, .ref qml, .int (nI k), .ref qmk, .int (nI mz), .ref qmh, .int (nI nh), .int (nI 0), .ref qmw])), (qmd, .inl (cyI, 512, .inl (fb_put w2 (fun _ => nI 0) (8 * b) 8)))]) hP hD [0, 1] [2] rfl rfl (by decide) (by decide) hk1 hFc hP1 hD1
            generalize H1 = H at hP hS ⊢
            have hP : va_P (dC, dI) vwCl [(qmw, .inl (cyZ, 64, .inl WL1_18)), (qm, .inr (4, [.ref qmd, .ref qmt, .int (nI n), .int (bI true), .int (kDec lf2), .int (nI (dn2 + 1)), .int pl, .ref qml, .int (nI k), .ref qmk, .int (nI mz), .ref qmh, .int (nI nh), .int (nI 0), .ref qmw])), (qmd, .inl (cyI, 512, .inl (fb_put w2 (fun _ => nI 0) (8 * b) 8)))] H := hP
            have hD : va_D A [(qmw, .inl (cyZ, 64, .inl WL1_18)), (qm, .inr (4, [.ref qmd, .ref qmt, .int (nI n), .int (bI true), .int (kDec lf2), .int (nI (dn2 + 1)), .int pl, .ref qml, .int (nI k), .ref qmk, .int (nI mz), .ref qmh, .int (nI nh), .int (nI 0), .ref qmw])), (qmd, .inl (cyI, 512, .inl (fb_put w2 (fun _ => nI 0) (8 * b) 8)))] := hD
            refine lv_if_ne (tgt := 104) hx hb dX5_clean_98 (by decide) (fun c_98 => ?_) (fun c_98 => absurd c_98 (by decide))
            refine lv_iinc (v := nI (c + 1)) (lv' := [(1, .int (nI (c + 1))), (0, .ref qm), (2, .int (nI (fb_ct (kLive w) 64))), (3, .int (nI b))]) hx hb dX5_clean_104 hl (k := 1) rfl (nI_add c 1) (by decide) rfl (fun ls hl => ?_)
            refine lv_iinc (v := nI (b + 1)) (lv' := [(3, .int (nI (b + 1))), (1, .int (nI (c + 1))), (0, .ref qm), (2, .int (nI (fb_ct (kLive w) 64)))]) hx hb dX5_clean_107 hl (k := 3) rfl (nI_add b 1) (by decide) rfl (fun ls hl => ?_)
            refine lv_goto (tgt := 69) hx hb dX5_clean_110 (by decide) ?_
            have hP := hP.sub (ws' := [(qm, .inr (4, [.ref qmd, .ref qmt, .int (nI n), .int (bI true), .int (kDec lf2), .int (nI (dn2 + 1)), .int pl, .ref qml, .int (nI k), .ref qmk, .int (nI mz), .ref qmh, .int (nI nh), .int (nI 0), .ref qmw])), (qmd, .inl (cyI, 512, .inl (fb_put w2 (fun _ => nI 0) (8 * b) 8))), (qmw, .inl (cyZ, 64, .inl WL1_18))]) [1, 2, 0] rfl
            have hD := hD.sub (ws' := [(qm, .inr (4, [.ref qmd, .ref qmt, .int (nI n), .int (bI true), .int (kDec lf2), .int (nI (dn2 + 1)), .int pl, .ref qml, .int (nI k), .ref qmk, .int (nI mz), .ref qmh, .int (nI nh), .int (nI 0), .ref qmw])), (qmd, .inl (cyI, 512, .inl (fb_put w2 (fun _ => nI 0) (8 * b) 8))), (qmw, .inl (cyZ, 64, .inl WL1_18))]) [1, 2, 0] (by decide) rfl
            exact ih69 (b + 1, f9, fb_put w2 (fun _ => nI 0) (8 * b) 8, kDec lf2, dn2 + 1, c + 1) _ _ _ ⟨by omega, by omega, by omega, by omega, by omega, (kZapF_do (b_and_t c_81 (d_t c_90)) hz).symm.trans hE, hP, hD, hS, lv_sub hl [2, 1, 3, 0] rfl⟩ (by first | omega | (dsimp only; omega))
  ·
    obtain ⟨f9, e9⟩ : ∃ f9, f = f9 + 1 := ⟨f - 1, by omega⟩
    subst e9
    refine lv_aload_n hx hb dX5_clean_30 rfl (lv_at hl 0 rfl) ?_
    refine va_get (D := (dC, dI)) (ci := 4) (v := .ref qmw) (C := RX5) (T := TX5) (N := 15) hx hb hts iwX5 hown hK hP 0 rfl rfl 14 (by decide) fk36 (fun _ h9 => h9) rfl dX5_clean_31 ?_
    refine lv_iload_n hx hb dX5_clean_34 rfl (lv_at hl 3 rfl) ?_
    refine va_zald hx hb hK hP 2 1 rfl rfl (vp_in_nI (n := b) (by omega) (by decide)) dX5_clean_35 ?_
    refine zz_top (congrArg WL1_18 (nI_clamp (n := b) (by omega))) ?_
    refine zz_top (HWL_18 b (by omega)) ?_
    refine zb_if_ne (tgt := 61) hx hb dX5_clean_36 (by decide) (fun c_36 => ?_) (fun c_36 => ?_)
    ·
      refine lv_iinc (v := nI (b + 1)) (lv' := [(3, .int (nI (b + 1))), (0, .ref qm), (1, .int (nI c)), (2, .int (nI (fb_ct (kLive w) 64)))]) hx hb dX5_clean_61 hl (k := 3) rfl (nI_add b 1) (by decide) rfl (fun ls hl => ?_)
      refine lv_goto (tgt := 24) hx hb dX5_clean_64 (by decide) ?_
      exact ih24 (b + 1, f9, w1, lf1, dn1, c) _ _ _ ⟨by omega, by omega, by omega, by omega, by omega, (kZapF_no (by first| exact b_and_f1 (n_f c_36) | exact b_and_f2 (nd_f c_44))).symm.trans hE, hP, hD, hS, lv_sub hl [1, 2, 3, 0] rfl⟩ (by first | omega | (dsimp only; omega))
    ·
      refine lv_aload_n hx hb dX5_clean_39 rfl (lv_at hl 0 rfl) ?_
      refine lv_iload_n hx hb dX5_clean_40 rfl (lv_at hl 3 rfl) ?_
      have hPc := hP.sub (ws' := [(qm, .inr (4, [.ref qmd, .ref qmt, .int (nI n), .int (bI true), .int lf1, .int (nI dn1), .int pl, .ref qml, .int (nI k), .ref qmk, .int (nI mz), .ref qmh, .int (nI nh), .int (nI 0), .ref qmw])), (qmd, .inl (cyI, 512, .inl w1))]) [0, 1] rfl
      have hKc := hK.sub (tys' := [(cyI, .int), (cyZ, .boolean)]) [0, 1] rfl
      refine vp_callSi (va_Run.run (va_runV (As := [.int (nI b)]) (rest := []) ⟨hx, hb, hml, hown, hts⟩ (c_X5_numberOf l dC dI cyI cyZ qm qmd qmt qml qmk qmh qmw n true lf1 dn1 pl k mz nh (nI 0) w1 b (by omega)) (cwV 1 hts gX5_clean_X5_numberOf rfl rfl rfl (by decide +kernel) ⟨Nat.le_of_ble_eq_true rfl, Nat.le_of_ble_eq_true rfl⟩) ⟨zz_blR, va_recv hKc hPc (ci := 4) (q0 := 0) rfl rfl, fun U hU hW => ⟨rfl, by rw [hU]; exact hPc, va_K.moved hW.alike hKc⟩⟩ rfl rfl hl.1 rfl (lv_room (Nat.le_of_ble_eq_true rfl)) dX5_clean_41 ⟨Nat.zero_le _, Nat.zero_le _⟩)) (fun r_41 hr_41 => ?_)
      have hr_41 : kNum w1 b = r_41 := Eq.symm hr_41
      subst hr_41
      refine lv_if_eq (tgt := 61) hx hb dX5_clean_44 (by decide) (fun c_44 => ?_) (fun c_44 => ?_)
      ·
        refine lv_iinc (v := nI (b + 1)) (lv' := [(3, .int (nI (b + 1))), (0, .ref qm), (1, .int (nI c)), (2, .int (nI (fb_ct (kLive w) 64)))]) hx hb dX5_clean_61 hl (k := 3) rfl (nI_add b 1) (by decide) rfl (fun ls hl => ?_)
        refine lv_goto (tgt := 24) hx hb dX5_clean_64 (by decide) ?_
        exact ih24 (b + 1, f9, w1, lf1, dn1, c) _ _ _ ⟨by omega, by omega, by omega, by omega, by omega, (kZapF_no (by first| exact b_and_f1 (n_f c_36) | exact b_and_f2 (nd_f c_44))).symm.trans hE, hP, hD, hS, lv_sub hl [1, 2, 3, 0] rfl⟩ (by first | omega | (dsimp only; omega))
      ·
        refine lv_aload_n hx hb dX5_clean_47 rfl (lv_at hl 0 rfl) ?_
        refine lv_iload_n hx hb dX5_clean_48 rfl (lv_at hl 3 rfl) ?_
        by_cases hz : lf1 = nI 0
        ·
          have hPc := hP.sub (ws' := [(qm, .inr (4, [.ref qmd, .ref qmt, .int (nI n), .int (bI true), .int lf1, .int (nI dn1), .int pl, .ref qml, .int (nI k), .ref qmk, .int (nI mz), .ref qmh, .int (nI nh), .int (nI 0), .ref qmw])), (qmd, .inl (cyI, 512, .inl w1))]) [0, 1] rfl
          have hKc := hK.sub (tys' := [(cyI, .int), (cyZ, .boolean)]) [0, 1] rfl
          have hDc := hD.sub (ws' := [(qm, .inr (4, [.ref qmd, .ref qmt, .int (nI n), .int (bI true), .int lf1, .int (nI dn1), .int pl, .ref qml, .int (nI k), .ref qmk, .int (nI mz), .ref qmh, .int (nI nh), .int (nI 0), .ref qmw])), (qmd, .inl (cyI, 512, .inl w1))]) [0, 1] (by decide) rfl
          have hFc := va_free (wc := [(qm, .inr (4, [.ref qmd, .ref qmt, .int (nI n), .int (bI true), .int lf1, .int (nI dn1), .int pl, .ref qml, .int (nI k), .ref qmk, .int (nI mz), .ref qmh, .int (nI nh), .int (nI 0), .ref qmw])), (qmd, .inl (cyI, 512, .inl w1))]) hD hS hA [0, 1] rfl
          refine va_calli (va_runV (As := [.int (nI b)]) (rest := []) ⟨hx, hb, hml, hown, hts⟩ (c_X5_zero_off l dC dI cyI cyZ qm qmd qmt qml qmk qmh qmw H.size n true lf1 dn1 pl k mz nh (nI 0) w1 b (by omega) (hz)) (cwV 1 hts gX5_clean_X5_zero rfl rfl rfl (by decide +kernel) ⟨Nat.le_of_ble_eq_true rfl, Nat.le_of_ble_eq_true rfl⟩) ⟨zz_blW, va_recv hKc hPc (ci := 4) (q0 := 0) rfl rfl, fun U hU hW => ⟨rfl, by rw [hU], by rw [hU]; exact hPc, va_K.moved hW.alike hKc, hDc.weaken (fun _ _ _ _ => trivial)⟩⟩ rfl rfl hl.1 rfl (lv_room (Nat.le_of_ble_eq_true rfl)) dX5_clean_49 ⟨Nat.zero_le _, Nat.zero_le _⟩) hS (fun q _ h => hFc q h) hFc (fun r_49 uU tS H1 locs ht9 hvm9 hw9 hB9 hz1 hk1 hS => ?_)
          obtain ⟨hP1, hK1, hD1⟩ := hB9
          have hw9 : (r_49 = bI false) := hw9
          have hr_49 := hw9
          have hr_49 := Eq.symm hr_49
          subst hr_49
          rw [ht9] at hP1
          have hK1 := va_K.moved hvm9.symm hK1
          obtain ⟨hP, hD⟩ := va_join (wr := [(qmw, .inl (cyZ, 64, .inl WL1_18))]) (w1 := [(qm, .inr (4, [.ref qmd, .ref qmt, .int (nI n), .int (bI false), .int (-1), .int (nI dn1), .int pl, .ref qml, .int (nI k), .ref qmk, .int (nI mz), .ref qmh, .int (nI nh), .int (nI 0), .ref qmw])), (qmd, .inl (cyI, 512, .inl w1))]) hP hD [0, 1] [2] rfl rfl (by decide) (by decide) hk1 hFc hP1 hD1
          generalize H1 = H at hP hS ⊢
          have hP : va_P (dC, dI) vwCl [(qmw, .inl (cyZ, 64, .inl WL1_18)), (qm, .inr (4, [.ref qmd, .ref qmt, .int (nI n), .int (bI false), .int (-1), .int (nI dn1), .int pl, .ref qml, .int (nI k), .ref qmk, .int (nI mz), .ref qmh, .int (nI nh), .int (nI 0), .ref qmw])), (qmd, .inl (cyI, 512, .inl w1))] H := hP
          have hD : va_D A [(qmw, .inl (cyZ, 64, .inl WL1_18)), (qm, .inr (4, [.ref qmd, .ref qmt, .int (nI n), .int (bI false), .int (-1), .int (nI dn1), .int pl, .ref qml, .int (nI k), .ref qmk, .int (nI mz), .ref qmh, .int (nI nh), .int (nI 0), .ref qmw])), (qmd, .inl (cyI, 512, .inl w1))] := hD
          refine lv_if_ne (tgt := 58) hx hb dX5_clean_52 (by decide) (fun c_52 => absurd (by decide) c_52) (fun c_52 => ?_)
          refine lv_bipush (v := (-4)) hx hb dX5_clean_55 (by decide) ?_
          -- qm : .inr (4, [.ref qmd, .ref qmt, .int (nI n), .int (bI false), .int (-1), .int (nI dn1), .int pl, .ref qml, .int (nI k), .ref qmk, .int (nI mz), .ref qmh, .int (nI nh), .int (nI 0), .ref qmw])  ~  .inr (4, [.ref qmd, .ref qmt, .int (nI n), .int (bI false), .int (kUn false lf1), .int (nI dn1), .int pl, .ref qml, .int (nI k), .ref qmk, .int (nI mz), .ref qmh, .int (nI nh), .int (nI 0), .ref qmw])
          have hP9 := hP.sub (ws' := [(qm, .inr (4, [.ref qmd, .ref qmt, .int (nI n), .int (bI false), .int (kUn false lf1), .int (nI dn1), .int pl, .ref qml, .int (nI k), .ref qmk, .int (nI mz), .ref qmh, .int (nI nh), .int (nI 0), .ref qmw])), (qmd, .inl (cyI, 512, .inl w1)), (qmw, .inl (cyZ, 64, .inl WL1_18))]) [1, 2, 0] rfl
          have hD9 := hD.sub (ws' := [(qm, .inr (4, [.ref qmd, .ref qmt, .int (nI n), .int (bI false), .int (kUn false lf1), .int (nI dn1), .int pl, .ref qml, .int (nI k), .ref qmk, .int (nI mz), .ref qmh, .int (nI nh), .int (nI 0), .ref qmw])), (qmd, .inl (cyI, 512, .inl w1)), (qmw, .inl (cyZ, 64, .inl WL1_18))]) [1, 2, 0] (by decide) rfl
          have hK9 := hK.sub (tys' := [(cyI, .int), (cyZ, .boolean)]) [0, 1] rfl
          exact W.iret hx hb hr (fun tS ht hW => ⟨⟨_, (false, w1, lf1, dn1, WL1_18), rfl, ⟨(kClean_1 (hY0.symm.trans (hE.symm.trans (kZapF_off (b_and_t (n_t c_36) (nd_t c_44)) hz)))).symm, by omega⟩, by rw [ht]; exact hP9, va_K.moved hW.alike hK9, hD9⟩, hS.F ht⟩) hS.2.2 dX5_clean_57
        ·
          have hPc := hP.sub (ws' := [(qm, .inr (4, [.ref qmd, .ref qmt, .int (nI n), .int (bI true), .int lf1, .int (nI dn1), .int pl, .ref qml, .int (nI k), .ref qmk, .int (nI mz), .ref qmh, .int (nI nh), .int (nI 0), .ref qmw])), (qmd, .inl (cyI, 512, .inl w1))]) [0, 1] rfl
          have hKc := hK.sub (tys' := [(cyI, .int), (cyZ, .boolean)]) [0, 1] rfl
          have hDc := hD.sub (ws' := [(qm, .inr (4, [.ref qmd, .ref qmt, .int (nI n), .int (bI true), .int lf1, .int (nI dn1), .int pl, .ref qml, .int (nI k), .ref qmk, .int (nI mz), .ref qmh, .int (nI nh), .int (nI 0), .ref qmw])), (qmd, .inl (cyI, 512, .inl w1))]) [0, 1] (by decide) rfl
          have hFc := va_free (wc := [(qm, .inr (4, [.ref qmd, .ref qmt, .int (nI n), .int (bI true), .int lf1, .int (nI dn1), .int pl, .ref qml, .int (nI k), .ref qmk, .int (nI mz), .ref qmh, .int (nI nh), .int (nI 0), .ref qmw])), (qmd, .inl (cyI, 512, .inl w1))]) hD hS hA [0, 1] rfl
          refine va_calli (va_runV (As := [.int (nI b)]) (rest := []) ⟨hx, hb, hml, hown, hts⟩ (c_X5_zero_on l dC dI cyI cyZ qm qmd qmt qml qmk qmh qmw H.size n true lf1 dn1 pl k mz nh (nI 0) w1 b (by omega) (hz)) (cwV 1 hts gX5_clean_X5_zero rfl rfl rfl (by decide +kernel) ⟨Nat.le_of_ble_eq_true rfl, Nat.le_of_ble_eq_true rfl⟩) ⟨zz_blW, va_recv hKc hPc (ci := 4) (q0 := 0) rfl rfl, fun U hU hW => ⟨rfl, by rw [hU], by rw [hU]; exact hPc, va_K.moved hW.alike hKc, hDc.weaken (fun _ _ _ _ => trivial)⟩⟩ rfl rfl hl.1 rfl (lv_room (Nat.le_of_ble_eq_true rfl)) dX5_clean_49 ⟨Nat.zero_le _, Nat.zero_le _⟩) hS (fun q _ h => hFc q h) hFc (fun r_49 uU tS H1 locs ht9 hvm9 hw9 hB9 hz1 hk1 hS => ?_)
          obtain ⟨hP1, hK1, hD1⟩ := hB9
          have hw9 : (r_49 = bI true) := hw9
          have hr_49 := hw9
          have hr_49 := Eq.symm hr_49
          subst hr_49
          rw [ht9] at hP1
          have hK1 := va_K.moved hvm9.symm hK1
          obtain ⟨hP, hD⟩ := va_join (wr := [(qmw, .inl (cyZ, 64, .inl WL1_18))]) (w1 := [(qm, .inr (4, [.ref qmd, .ref qmt, .int (nI n), .int (bI true), .int (kDec lf1), .int (nI (dn1 + 1)), .int pl, .ref qml, .int (nI k), .ref qmk, .int (nI mz), .ref qmh, .int (nI nh), .int (nI 0), .ref qmw])), (qmd, .inl (cyI, 512, .inl (fb_put w1 (fun _ => nI 0) (8 * b) 8)))]) hP hD [0, 1] [2] rfl rfl (by decide) (by decide) hk1 hFc hP1 hD1
          generalize H1 = H at hP hS ⊢
          have hP : va_P (dC, dI) vwCl [(qmw, .inl (cyZ, 64, .inl WL1_18)), (qm, .inr (4, [.ref qmd, .ref qmt, .int (nI n), .int (bI true), .int (kDec lf1), .int (nI (dn1 + 1)), .int pl, .ref qml, .int (nI k), .ref qmk, .int (nI mz), .ref qmh, .int (nI nh), .int (nI 0), .ref qmw])), (qmd, .inl (cyI, 512, .inl (fb_put w1 (fun _ => nI 0) (8 * b) 8)))] H := hP
          have hD : va_D A [(qmw, .inl (cyZ, 64, .inl WL1_18)), (qm, .inr (4, [.ref qmd, .ref qmt, .int (nI n), .int (bI true), .int (kDec lf1), .int (nI (dn1 + 1)), .int pl, .ref qml, .int (nI k), .ref qmk, .int (nI mz), .ref qmh, .int (nI nh), .int (nI 0), .ref qmw])), (qmd, .inl (cyI, 512, .inl (fb_put w1 (fun _ => nI 0) (8 * b) 8)))] := hD
          refine lv_if_ne (tgt := 58) hx hb dX5_clean_52 (by decide) (fun c_52 => ?_) (fun c_52 => absurd c_52 (by decide))
          refine lv_iinc (v := nI (c + 1)) (lv' := [(1, .int (nI (c + 1))), (0, .ref qm), (2, .int (nI (fb_ct (kLive w) 64))), (3, .int (nI b))]) hx hb dX5_clean_58 hl (k := 1) rfl (nI_add c 1) (by decide) rfl (fun ls hl => ?_)
          refine lv_iinc (v := nI (b + 1)) (lv' := [(3, .int (nI (b + 1))), (1, .int (nI (c + 1))), (0, .ref qm), (2, .int (nI (fb_ct (kLive w) 64)))]) hx hb dX5_clean_61 hl (k := 3) rfl (nI_add b 1) (by decide) rfl (fun ls hl => ?_)
          refine lv_goto (tgt := 24) hx hb dX5_clean_64 (by decide) ?_
          have hP := hP.sub (ws' := [(qm, .inr (4, [.ref qmd, .ref qmt, .int (nI n), .int (bI true), .int (kDec lf1), .int (nI (dn1 + 1)), .int pl, .ref qml, .int (nI k), .ref qmk, .int (nI mz), .ref qmh, .int (nI nh), .int (nI 0), .ref qmw])), (qmd, .inl (cyI, 512, .inl (fb_put w1 (fun _ => nI 0) (8 * b) 8))), (qmw, .inl (cyZ, 64, .inl WL1_18))]) [1, 2, 0] rfl
          have hD := hD.sub (ws' := [(qm, .inr (4, [.ref qmd, .ref qmt, .int (nI n), .int (bI true), .int (kDec lf1), .int (nI (dn1 + 1)), .int pl, .ref qml, .int (nI k), .ref qmk, .int (nI mz), .ref qmh, .int (nI nh), .int (nI 0), .ref qmw])), (qmd, .inl (cyI, 512, .inl (fb_put w1 (fun _ => nI 0) (8 * b) 8))), (qmw, .inl (cyZ, 64, .inl WL1_18))]) [1, 2, 0] (by decide) rfl
          exact ih24 (b + 1, f9, fb_put w1 (fun _ => nI 0) (8 * b) 8, kDec lf1, dn1 + 1, c + 1) _ _ _ ⟨by omega, by omega, by omega, by omega, by omega, (kZapF_do (b_and_t (n_t c_36) (nd_t c_44)) hz).symm.trans hE, hP, hD, hS, lv_sub hl [2, 1, 3, 0] rfl⟩ (by first | omega | (dsimp only; omega))
set_option maxHeartbeats 4000000 in
set_option maxRecDepth 100000 in
theorem c_X5_recover (l : Launch) (dC : Nat → ClassId) (dI : Nat → Nat → Nat) (cyI cyZ : ClassId) (qm qmd qmt qml qmk qmh qmw : Nat) (sz : Nat) (n : Nat) (on : Bool) (lf : Int32) (dn : Nat) (pl : Int32) (k mz nh : Nat) (th : Int32) (w : Nat → Int32) (HP0 : kPos w) : Met l yX5_recover wsX5_recover ({ frames := 5, cells := 0, slots := 0, locals := 109 }) (va_Pc [.ref qm] (fun U => U.heap.size = sz ∧ va_P (dC, dI) vwCl [(qm, .inr (4, [.ref qmd, .ref qmt, .int (nI n), .int (bI on), .int lf, .int (nI dn), .int pl, .ref qml, .int (nI k), .ref qmk, .int (nI mz), .ref qmh, .int (nI nh), .int th, .ref qmw])), (qmd, .inl (cyI, 512, .inl w))] U.heap ∧ va_K (dC, dI) vwCl [(cyI, .int), (cyZ, .boolean)] U ∧ va_D (fun _ => True) [(qm, .inr (4, [.ref qmd, .ref qmt, .int (nI n), .int (bI on), .int lf, .int (nI dn), .int pl, .ref qml, .int (nI k), .ref qmk, .int (nI mz), .ref qmh, .int (nI nh), .int th, .ref qmw])), (qmd, .inl (cyI, 512, .inl w))])) (va_Qi (S := Unit) (fun (r : Int32) (_ : Unit) => r = nI (fb_ct (kText (kLive w) w) 64)) (fun (_ : Unit) tS => va_P (dC, dI) vwCl [(qm, .inr (4, [.ref qmd, .ref qmt, .int (nI 0), .int (bI true), .int (-1), .int (nI dn), .int (-1), .ref qml, .int (nI 0), .ref qmk, .int (nI mz), .ref qmh, .int (nI nh), .int (nI 0), .ref qmw])), (qmd, .inl (cyI, 512, .inl w))] tS.heap ∧ va_K (dC, dI) vwCl [(cyI, .int), (cyZ, .boolean)] tS ∧ va_D (va_A [(qm, .inr (4, [.ref qmd, .ref qmt, .int (nI n), .int (bI on), .int lf, .int (nI dn), .int pl, .ref qml, .int (nI k), .ref qmk, .int (nI mz), .ref qmh, .int (nI nh), .int th, .ref qmw])), (qmd, .inl (cyI, 512, .inl w))] sz) [(qm, .inr (4, [.ref qmd, .ref qmt, .int (nI 0), .int (bI true), .int (-1), .int (nI dn), .int (-1), .ref qml, .int (nI 0), .ref qmk, .int (nI mz), .ref qmh, .int (nI nh), .int (nI 0), .ref qmw])), (qmd, .inl (cyI, 512, .inl w))]) (va_A [(qm, .inr (4, [.ref qmd, .ref qmt, .int (nI n), .int (bI on), .int lf, .int (nI dn), .int pl, .ref qml, .int (nI k), .ref qmk, .int (nI mz), .ref qmh, .int (nI nh), .int th, .ref qmw])), (qmd, .inl (cyI, 512, .inl w))] sz)) 0 0 (va_A [(qm, .inr (4, [.ref qmd, .ref qmt, .int (nI n), .int (bI on), .int lf, .int (nI dn), .int pl, .ref qml, .int (nI k), .ref qmk, .int (nI mz), .ref qmh, .int (nI nh), .int th, .ref qmw])), (qmd, .inl (cyI, 512, .inl w))] sz) := by
  refine Met.ofW (cc := cX5_recover) (maxL := 1) (ret := (some .int)) (by decide) rfl ?_
  intro pz ez sS mM args below meth cC s₁ B hml hv
  obtain ⟨rfl, hsz, hP, hK, hD0⟩ := hv
  have hx := B.exec
  have hb := B.bytes
  have hr := B.returns
  have hts := atoms_spec (ws := wsX5_recover) B.pre
  have hown : sS.vm.findClass RX5 = some mM.cls := findClass_of_methodNamed B.named
  have hlocks := B.notSynchronized
  subst hsz
  have hD := hD0.self (sz := sS.heap.size)
  generalize hAe : va_A [(qm, .inr (4, [.ref qmd, .ref qmt, .int (nI n), .int (bI on), .int lf, .int (nI dn), .int pl, .ref qml, .int (nI k), .ref qmk, .int (nI mz), .ref qmh, .int (nI nh), .int th, .ref qmw])), (qmd, .inl (cyI, 512, .inl w))] sS.heap.size = A at hD ⊢
  have hA : ∀ q : Nat, sS.heap.size ≤ q → A q := fun q h => by rw [← hAe]; exact Or.inr h
  have hS : va_S A sS.heap sS.heap [] := va_S.rf
  have hP : va_P (dC, dI) vwCl [(qm, .inr (4, [.ref qmd, .ref qmt, .int (nI n), .int (bI on), .int lf, .int (nI dn), .int pl, .ref qml, .int (nI k), .ref qmk, .int (nI mz), .ref qmh, .int (nI nh), .int th, .ref qmw])), (qmd, .inl (cyI, 512, .inl w))] sS.heap := hP
  have iwX5 : ∀ w ∈ wsX50, w ∈ wsX5_recover := by decide +kernel
  have fk16 := hts (.fieldLink RX5 16 "CodedStoreModel" "on" "Z") (by decide +kernel)
  have fk20 := hts (.fieldLink RX5 20 "CodedStoreModel" "until" "I") (by decide +kernel)
  have fk24 := hts (.fieldLink RX5 24 "CodedStoreModel" "place" "I") (by decide +kernel)
  have fk40 := hts (.fieldLink RX5 40 "CodedStoreModel" "size" "I") (by decide +kernel)
  have fk43 := hts (.fieldLink RX5 43 "CodedStoreModel" "thrown" "I") (by decide +kernel)
  have fk66 := hts (.fieldLink RX5 66 "CodedStoreModel" "loadedSize" "I") (by decide +kernel)
  have hl := lv_entry ([.ref qm]) (n := 1) (Nat.le_of_ble_eq_true rfl)
  rw [lg_entry_eq]
  generalize (lg_sl ([.ref qm]) ++ List.replicate (1 - (lg_sl ([.ref qm])).length) Slot.unset).toArray = ls at hl ⊢
  have hl : lv_has ls 1 [(0, .ref qm)] := hl
  refine lv_aload_n hx hb dX5_recover_0 rfl (lv_at hl 0 rfl) ?_
  refine lv_iconst (v := nI 0) hx hb dX5_recover_1 (by decide) ?_
  refine va_put (D := (dC, dI)) (ci := 4) (v := .int (nI 0)) (ty := .int) (C := RX5) (T := TX5) (N := 15) hx hb hts iwX5 tyX5 tyX5_ok nmX5 hown hK hP hD hS 0 rfl rfl 13 (by decide) fk43 (fun _ h9 => h9) rfl (by decide +kernel) rfl rfl (Nat.le_of_ble_eq_true rfl) dX5_recover_2 (fun H locs hP hD hS => ?_)
  have hP : va_P (dC, dI) vwCl [(qm, .inr (4, [.ref qmd, .ref qmt, .int (nI n), .int (bI on), .int lf, .int (nI dn), .int pl, .ref qml, .int (nI k), .ref qmk, .int (nI mz), .ref qmh, .int (nI nh), .int (nI 0), .ref qmw])), (qmd, .inl (cyI, 512, .inl w))] H := hP
  have hD : va_D A [(qm, .inr (4, [.ref qmd, .ref qmt, .int (nI n), .int (bI on), .int lf, .int (nI dn), .int pl, .ref qml, .int (nI k), .ref qmk, .int (nI mz), .ref qmh, .int (nI nh), .int (nI 0), .ref qmw])), (qmd, .inl (cyI, 512, .inl w))] := hD
  refine lv_aload_n hx hb dX5_recover_5 rfl (lv_at hl 0 rfl) ?_
  refine lv_iconst (v := nI 1) hx hb dX5_recover_6 (by decide) ?_
  refine va_put (D := (dC, dI)) (ci := 4) (v := .int (nI 1)) (ty := .boolean) (C := RX5) (T := TX5) (N := 15) hx hb hts iwX5 tyX5 tyX5_ok nmX5 hown hK hP hD hS 0 rfl rfl 3 (by decide) fk16 (fun _ h9 => h9) rfl (by decide +kernel) rfl rfl (Nat.le_of_ble_eq_true rfl) dX5_recover_7 (fun H locs hP hD hS => ?_)
  have hP : va_P (dC, dI) vwCl [(qm, .inr (4, [.ref qmd, .ref qmt, .int (nI n), .int (nI 1), .int lf, .int (nI dn), .int pl, .ref qml, .int (nI k), .ref qmk, .int (nI mz), .ref qmh, .int (nI nh), .int (nI 0), .ref qmw])), (qmd, .inl (cyI, 512, .inl w))] H := hP
  have hD : va_D A [(qm, .inr (4, [.ref qmd, .ref qmt, .int (nI n), .int (nI 1), .int lf, .int (nI dn), .int pl, .ref qml, .int (nI k), .ref qmk, .int (nI mz), .ref qmh, .int (nI nh), .int (nI 0), .ref qmw])), (qmd, .inl (cyI, 512, .inl w))] := hD
  refine lv_aload_n hx hb dX5_recover_10 rfl (lv_at hl 0 rfl) ?_
  refine lv_iconst (v := (-1)) hx hb dX5_recover_11 (by decide) ?_
  refine va_put (D := (dC, dI)) (ci := 4) (v := .int (-1)) (ty := .int) (C := RX5) (T := TX5) (N := 15) hx hb hts iwX5 tyX5 tyX5_ok nmX5 hown hK hP hD hS 0 rfl rfl 4 (by decide) fk20 (fun _ h9 => h9) rfl (by decide +kernel) rfl rfl (Nat.le_of_ble_eq_true rfl) dX5_recover_12 (fun H locs hP hD hS => ?_)
  have hP : va_P (dC, dI) vwCl [(qm, .inr (4, [.ref qmd, .ref qmt, .int (nI n), .int (nI 1), .int (-1), .int (nI dn), .int pl, .ref qml, .int (nI k), .ref qmk, .int (nI mz), .ref qmh, .int (nI nh), .int (nI 0), .ref qmw])), (qmd, .inl (cyI, 512, .inl w))] H := hP
  have hD : va_D A [(qm, .inr (4, [.ref qmd, .ref qmt, .int (nI n), .int (nI 1), .int (-1), .int (nI dn), .int pl, .ref qml, .int (nI k), .ref qmk, .int (nI mz), .ref qmh, .int (nI nh), .int (nI 0), .ref qmw])), (qmd, .inl (cyI, 512, .inl w))] := hD
  refine lv_aload_n hx hb dX5_recover_15 rfl (lv_at hl 0 rfl) ?_
  refine lv_iconst (v := nI 0) hx hb dX5_recover_16 (by decide) ?_
  refine va_put (D := (dC, dI)) (ci := 4) (v := .int (nI 0)) (ty := .int) (C := RX5) (T := TX5) (N := 15) hx hb hts iwX5 tyX5 tyX5_ok nmX5 hown hK hP hD hS 0 rfl rfl 2 (by decide) fk40 (fun _ h9 => h9) rfl (by decide +kernel) rfl rfl (Nat.le_of_ble_eq_true rfl) dX5_recover_17 (fun H locs hP hD hS => ?_)
  have hP : va_P (dC, dI) vwCl [(qm, .inr (4, [.ref qmd, .ref qmt, .int (nI 0), .int (nI 1), .int (-1), .int (nI dn), .int pl, .ref qml, .int (nI k), .ref qmk, .int (nI mz), .ref qmh, .int (nI nh), .int (nI 0), .ref qmw])), (qmd, .inl (cyI, 512, .inl w))] H := hP
  have hD : va_D A [(qm, .inr (4, [.ref qmd, .ref qmt, .int (nI 0), .int (nI 1), .int (-1), .int (nI dn), .int pl, .ref qml, .int (nI k), .ref qmk, .int (nI mz), .ref qmh, .int (nI nh), .int (nI 0), .ref qmw])), (qmd, .inl (cyI, 512, .inl w))] := hD
  refine lv_aload_n hx hb dX5_recover_20 rfl (lv_at hl 0 rfl) ?_
  refine lv_iconst (v := nI 0) hx hb dX5_recover_21 (by decide) ?_
  refine va_put (D := (dC, dI)) (ci := 4) (v := .int (nI 0)) (ty := .int) (C := RX5) (T := TX5) (N := 15) hx hb hts iwX5 tyX5 tyX5_ok nmX5 hown hK hP hD hS 0 rfl rfl 8 (by decide) fk66 (fun _ h9 => h9) rfl (by decide +kernel) rfl rfl (Nat.le_of_ble_eq_true rfl) dX5_recover_22 (fun H locs hP hD hS => ?_)
  have hP : va_P (dC, dI) vwCl [(qm, .inr (4, [.ref qmd, .ref qmt, .int (nI 0), .int (nI 1), .int (-1), .int (nI dn), .int pl, .ref qml, .int (nI 0), .ref qmk, .int (nI mz), .ref qmh, .int (nI nh), .int (nI 0), .ref qmw])), (qmd, .inl (cyI, 512, .inl w))] H := hP
  have hD : va_D A [(qm, .inr (4, [.ref qmd, .ref qmt, .int (nI 0), .int (nI 1), .int (-1), .int (nI dn), .int pl, .ref qml, .int (nI 0), .ref qmk, .int (nI mz), .ref qmh, .int (nI nh), .int (nI 0), .ref qmw])), (qmd, .inl (cyI, 512, .inl w))] := hD
  refine lv_aload_n hx hb dX5_recover_25 rfl (lv_at hl 0 rfl) ?_
  refine lv_iconst (v := (-1)) hx hb dX5_recover_26 (by decide) ?_
  refine va_put (D := (dC, dI)) (ci := 4) (v := .int (-1)) (ty := .int) (C := RX5) (T := TX5) (N := 15) hx hb hts iwX5 tyX5 tyX5_ok nmX5 hown hK hP hD hS 0 rfl rfl 6 (by decide) fk24 (fun _ h9 => h9) rfl (by decide +kernel) rfl rfl (Nat.le_of_ble_eq_true rfl) dX5_recover_27 (fun H locs hP hD hS => ?_)
  have hP : va_P (dC, dI) vwCl [(qm, .inr (4, [.ref qmd, .ref qmt, .int (nI 0), .int (nI 1), .int (-1), .int (nI dn), .int (-1), .ref qml, .int (nI 0), .ref qmk, .int (nI mz), .ref qmh, .int (nI nh), .int (nI 0), .ref qmw])), (qmd, .inl (cyI, 512, .inl w))] H := hP
  have hD : va_D A [(qm, .inr (4, [.ref qmd, .ref qmt, .int (nI 0), .int (nI 1), .int (-1), .int (nI dn), .int (-1), .ref qml, .int (nI 0), .ref qmk, .int (nI mz), .ref qmh, .int (nI nh), .int (nI 0), .ref qmw])), (qmd, .inl (cyI, 512, .inl w))] := hD
  refine lv_aload_n hx hb dX5_recover_30 rfl (lv_at hl 0 rfl) ?_
  have hPc := hP.sub (ws' := [(qm, .inr (4, [.ref qmd, .ref qmt, .int (nI 0), .int (bI true), .int (-1), .int (nI dn), .int (-1), .ref qml, .int (nI 0), .ref qmk, .int (nI mz), .ref qmh, .int (nI nh), .int (nI 0), .ref qmw])), (qmd, .inl (cyI, 512, .inl w))]) [0, 1] rfl
  have hKc := hK.sub (tys' := [(cyI, .int), (cyZ, .boolean)]) [0, 1] rfl
  refine vp_callSi (va_Run.run (va_runV (As := []) (rest := []) ⟨hx, hb, hml, hown, hts⟩ (c_X5_texts l dC dI cyI cyZ qm qmd qmt qml qmk qmh qmw 0 true (-1) dn (-1) 0 mz nh (nI 0) w (HP0)) (cwV 0 hts gX5_recover_X5_texts rfl rfl rfl (by decide +kernel) ⟨Nat.le_of_ble_eq_true rfl, Nat.le_of_ble_eq_true rfl⟩) ⟨zz_blR, va_recv hKc hPc (ci := 4) (q0 := 0) rfl rfl, fun U hU hW => ⟨rfl, by rw [hU]; exact hPc, va_K.moved hW.alike hKc⟩⟩ rfl rfl hl.1 rfl (lv_room (Nat.le_of_ble_eq_true rfl)) dX5_recover_31 ⟨Nat.zero_le _, Nat.zero_le _⟩)) (fun r_31 hr_31 => ?_)
  have hr_31 : nI (fb_ct (kText (kLive w) w) 64) = r_31 := Eq.symm hr_31
  subst hr_31
  -- qm : .inr (4, [.ref qmd, .ref qmt, .int (nI 0), .int (nI 1), .int (-1), .int (nI dn), .int (-1), .ref qml, .int (nI 0), .ref qmk, .int (nI mz), .ref qmh, .int (nI nh), .int (nI 0), .ref qmw])  ~  .inr (4, [.ref qmd, .ref qmt, .int (nI 0), .int (bI true), .int (-1), .int (nI dn), .int (-1), .ref qml, .int (nI 0), .ref qmk, .int (nI mz), .ref qmh, .int (nI nh), .int (nI 0), .ref qmw])
  have hP9 := hP.sub (ws' := [(qm, .inr (4, [.ref qmd, .ref qmt, .int (nI 0), .int (bI true), .int (-1), .int (nI dn), .int (-1), .ref qml, .int (nI 0), .ref qmk, .int (nI mz), .ref qmh, .int (nI nh), .int (nI 0), .ref qmw])), (qmd, .inl (cyI, 512, .inl w))]) [0, 1] rfl
  have hD9 := hD.sub (ws' := [(qm, .inr (4, [.ref qmd, .ref qmt, .int (nI 0), .int (bI true), .int (-1), .int (nI dn), .int (-1), .ref qml, .int (nI 0), .ref qmk, .int (nI mz), .ref qmh, .int (nI nh), .int (nI 0), .ref qmw])), (qmd, .inl (cyI, 512, .inl w))]) [0, 1] (by decide) rfl
  have hK9 := hK.sub (tys' := [(cyI, .int), (cyZ, .boolean)]) [0, 1] rfl
  exact W.iret hx hb hr (fun tS ht hW => ⟨⟨_, (), rfl, rfl, by rw [ht]; exact hP9, va_K.moved hW.alike hK9, hD9⟩, hS.F ht⟩) hS.2.2 dX5_recover_34
set_option maxHeartbeats 4000000 in
set_option maxRecDepth 100000 in
theorem c_X5_number (l : Launch) (dC : Nat → ClassId) (dI : Nat → Nat → Nat) (cyI cyZ : ClassId) (qm qmd qmt qml qmk qmh qmw : Nat) (sz : Nat) (n : Nat) (on : Bool) (lf : Int32) (dn : Nat) (pl : Int32) (k mz nh : Nat) (th : Int32) (w : Nat → Int32) (ky : Int32) (HP0 : kPos w) : Met l yX5_number wsX5_number ({ frames := 4, cells := 0, slots := 0, locals := 88 }) (va_Pc [.ref qm, .int ky] (fun U => U.heap.size = sz ∧ va_P (dC, dI) vwCl [(qm, .inr (4, [.ref qmd, .ref qmt, .int (nI n), .int (bI on), .int lf, .int (nI dn), .int pl, .ref qml, .int (nI k), .ref qmk, .int (nI mz), .ref qmh, .int (nI nh), .int th, .ref qmw])), (qmd, .inl (cyI, 512, .inl w))] U.heap ∧ va_K (dC, dI) vwCl [(cyI, .int), (cyZ, .boolean)] U ∧ va_D (fun _ => True) [(qm, .inr (4, [.ref qmd, .ref qmt, .int (nI n), .int (bI on), .int lf, .int (nI dn), .int pl, .ref qml, .int (nI k), .ref qmk, .int (nI mz), .ref qmh, .int (nI nh), .int th, .ref qmw])), (qmd, .inl (cyI, 512, .inl w))])) (va_Qi (S := Unit) (fun (r : Int32) (_ : Unit) => r = kNo w ky) (fun (_ : Unit) tS => va_P (dC, dI) vwCl [(qm, .inr (4, [.ref qmd, .ref qmt, .int (nI n), .int (bI on), .int lf, .int (nI dn), .int pl, .ref qml, .int (nI k), .ref qmk, .int (nI mz), .ref qmh, .int (nI nh), .int (nI 0), .ref qmw])), (qmd, .inl (cyI, 512, .inl w))] tS.heap ∧ va_K (dC, dI) vwCl [(cyI, .int), (cyZ, .boolean)] tS ∧ va_D (va_A [(qm, .inr (4, [.ref qmd, .ref qmt, .int (nI n), .int (bI on), .int lf, .int (nI dn), .int pl, .ref qml, .int (nI k), .ref qmk, .int (nI mz), .ref qmh, .int (nI nh), .int th, .ref qmw])), (qmd, .inl (cyI, 512, .inl w))] sz) [(qm, .inr (4, [.ref qmd, .ref qmt, .int (nI n), .int (bI on), .int lf, .int (nI dn), .int pl, .ref qml, .int (nI k), .ref qmk, .int (nI mz), .ref qmh, .int (nI nh), .int (nI 0), .ref qmw])), (qmd, .inl (cyI, 512, .inl w))]) (va_A [(qm, .inr (4, [.ref qmd, .ref qmt, .int (nI n), .int (bI on), .int lf, .int (nI dn), .int pl, .ref qml, .int (nI k), .ref qmk, .int (nI mz), .ref qmh, .int (nI nh), .int th, .ref qmw])), (qmd, .inl (cyI, 512, .inl w))] sz)) 0 0 (va_A [(qm, .inr (4, [.ref qmd, .ref qmt, .int (nI n), .int (bI on), .int lf, .int (nI dn), .int pl, .ref qml, .int (nI k), .ref qmk, .int (nI mz), .ref qmh, .int (nI nh), .int th, .ref qmw])), (qmd, .inl (cyI, 512, .inl w))] sz) := by
  refine Met.ofW (cc := cX5_number) (maxL := 3) (ret := (some .int)) (by decide) rfl ?_
  intro pz ez sS mM args below meth cC s₁ B hml hv
  obtain ⟨rfl, hsz, hP, hK, hD0⟩ := hv
  have hx := B.exec
  have hb := B.bytes
  have hr := B.returns
  have hts := atoms_spec (ws := wsX5_number) B.pre
  have hown : sS.vm.findClass RX5 = some mM.cls := findClass_of_methodNamed B.named
  have hlocks := B.notSynchronized
  subst hsz
  have hD := hD0.self (sz := sS.heap.size)
  generalize hAe : va_A [(qm, .inr (4, [.ref qmd, .ref qmt, .int (nI n), .int (bI on), .int lf, .int (nI dn), .int pl, .ref qml, .int (nI k), .ref qmk, .int (nI mz), .ref qmh, .int (nI nh), .int th, .ref qmw])), (qmd, .inl (cyI, 512, .inl w))] sS.heap.size = A at hD ⊢
  have hA : ∀ q : Nat, sS.heap.size ≤ q → A q := fun q h => by rw [← hAe]; exact Or.inr h
  have hS : va_S A sS.heap sS.heap [] := va_S.rf
  have hP : va_P (dC, dI) vwCl [(qm, .inr (4, [.ref qmd, .ref qmt, .int (nI n), .int (bI on), .int lf, .int (nI dn), .int pl, .ref qml, .int (nI k), .ref qmk, .int (nI mz), .ref qmh, .int (nI nh), .int th, .ref qmw])), (qmd, .inl (cyI, 512, .inl w))] sS.heap := hP
  have iwX5 : ∀ w ∈ wsX50, w ∈ wsX5_number := by decide +kernel
  have fk43 := hts (.fieldLink RX5 43 "CodedStoreModel" "thrown" "I") (by decide +kernel)
  have hl := lv_entry ([.ref qm, .int ky]) (n := 3) (Nat.le_of_ble_eq_true rfl)
  rw [lg_entry_eq]
  generalize (lg_sl ([.ref qm, .int ky]) ++ List.replicate (3 - (lg_sl ([.ref qm, .int ky])).length) Slot.unset).toArray = ls at hl ⊢
  have hl : lv_has ls 3 [(0, .ref qm), (1, .int ky)] := hl
  refine lv_aload_n hx hb dX5_number_0 rfl (lv_at hl 0 rfl) ?_
  refine lv_iconst (v := nI 0) hx hb dX5_number_1 (by decide) ?_
  refine va_put (D := (dC, dI)) (ci := 4) (v := .int (nI 0)) (ty := .int) (C := RX5) (T := TX5) (N := 15) hx hb hts iwX5 tyX5 tyX5_ok nmX5 hown hK hP hD hS 0 rfl rfl 13 (by decide) fk43 (fun _ h9 => h9) rfl (by decide +kernel) rfl rfl (Nat.le_of_ble_eq_true rfl) dX5_number_2 (fun H locs hP hD hS => ?_)
  have hP : va_P (dC, dI) vwCl [(qm, .inr (4, [.ref qmd, .ref qmt, .int (nI n), .int (bI on), .int lf, .int (nI dn), .int pl, .ref qml, .int (nI k), .ref qmk, .int (nI mz), .ref qmh, .int (nI nh), .int (nI 0), .ref qmw])), (qmd, .inl (cyI, 512, .inl w))] H := hP
  have hD : va_D A [(qm, .inr (4, [.ref qmd, .ref qmt, .int (nI n), .int (bI on), .int lf, .int (nI dn), .int pl, .ref qml, .int (nI k), .ref qmk, .int (nI mz), .ref qmh, .int (nI nh), .int (nI 0), .ref qmw])), (qmd, .inl (cyI, 512, .inl w))] := hD
  refine lv_aload_n hx hb dX5_number_5 rfl (lv_at hl 0 rfl) ?_
  refine lv_iload_n hx hb dX5_number_6 rfl (lv_at hl 1 rfl) ?_
  have hPc := hP.sub (ws' := [(qm, .inr (4, [.ref qmd, .ref qmt, .int (nI n), .int (bI on), .int lf, .int (nI dn), .int pl, .ref qml, .int (nI k), .ref qmk, .int (nI mz), .ref qmh, .int (nI nh), .int (nI 0), .ref qmw])), (qmd, .inl (cyI, 512, .inl w))]) [0, 1] rfl
  have hKc := hK.sub (tys' := [(cyI, .int), (cyZ, .boolean)]) [0, 1] rfl
  refine vp_callSi (va_Run.run (va_runV (As := [.int ky]) (rest := []) ⟨hx, hb, hml, hown, hts⟩ (c_X5_find l dC dI cyI cyZ qm qmd qmt qml qmk qmh qmw n on lf dn pl k mz nh (nI 0) w ky (HP0)) (cwV 1 hts gX5_number_X5_find rfl rfl rfl (by decide +kernel) ⟨Nat.le_of_ble_eq_true rfl, Nat.le_of_ble_eq_true rfl⟩) ⟨zz_blR, va_recv hKc hPc (ci := 4) (q0 := 0) rfl rfl, fun U hU hW => ⟨rfl, by rw [hU]; exact hPc, va_K.moved hW.alike hKc⟩⟩ rfl rfl hl.1 rfl (lv_room (Nat.le_of_ble_eq_true rfl)) dX5_number_7 ⟨Nat.zero_le _, Nat.zero_le _⟩)) (fun r_7 hr_7 => ?_)
  have hr_7 : zFI (zFst (kIs (kLive w) w ky) 64) 64 = r_7 := Eq.symm hr_7
  subst hr_7
  by_cases hf : zFst (kIs (kLive w) w ky) 64 < 64
  ·
    refine zz_top (zFI_t hf) ?_
    have hI := zFst_yes hf
    refine lv_istore_n (lv' := [(2, .int (nI (zFst (kIs (kLive w) w ky) 64))), (0, .ref qm), (1, .int ky)]) hx hb dX5_number_10 rfl hl (by decide) rfl (fun ls hl => ?_)
    refine lv_iload_n hx hb dX5_number_11 rfl (lv_at hl 0 rfl) ?_
    refine zn_if_ge (tgt := 20) hx hb dX5_number_12 (by decide) (by omega) ?_
    refine lv_aload_n hx hb dX5_number_20 rfl (lv_at hl 1 rfl) ?_
    refine lv_iload_n hx hb dX5_number_21 rfl (lv_at hl 0 rfl) ?_
    have hPc := hP.sub (ws' := [(qm, .inr (4, [.ref qmd, .ref qmt, .int (nI n), .int (bI on), .int lf, .int (nI dn), .int pl, .ref qml, .int (nI k), .ref qmk, .int (nI mz), .ref qmh, .int (nI nh), .int (nI 0), .ref qmw])), (qmd, .inl (cyI, 512, .inl w))]) [0, 1] rfl
    have hKc := hK.sub (tys' := [(cyI, .int), (cyZ, .boolean)]) [0, 1] rfl
    refine vp_callSi (va_Run.run (va_runV (As := [.int (nI (zFst (kIs (kLive w) w ky) 64))]) (rest := []) ⟨hx, hb, hml, hown, hts⟩ (c_X5_formOf l dC dI cyI cyZ qm qmd qmt qml qmk qmh qmw n on lf dn pl k mz nh (nI 0) w (zFst (kIs (kLive w) w ky) 64) (hf)) (cwV 1 hts gX5_number_X5_formOf rfl rfl rfl (by decide +kernel) ⟨Nat.le_of_ble_eq_true rfl, Nat.le_of_ble_eq_true rfl⟩) ⟨zz_blR, va_recv hKc hPc (ci := 4) (q0 := 0) rfl rfl, fun U hU hW => ⟨rfl, by rw [hU]; exact hPc, va_K.moved hW.alike hKc⟩⟩ rfl rfl hl.1 rfl (lv_room (Nat.le_of_ble_eq_true rfl)) dX5_number_22 ⟨Nat.zero_le _, Nat.zero_le _⟩)) (fun r_22 hr_22 => ?_)
    have hr_22 : kForm w (zFst (kIs (kLive w) w ky) 64) = r_22 := Eq.symm hr_22
    subst hr_22
    refine lv_iconst (v := nI 2) hx hb dX5_number_25 (by decide) ?_
    refine lv_icmp_ne (tgt := 38) hx hb dX5_number_26 (by decide) (fun c_26 => ?_) (fun c_26 => ?_)
    ·
      refine lv_aload_n hx hb dX5_number_38 rfl (lv_at hl 1 rfl) ?_
      refine lv_iload_n hx hb dX5_number_39 rfl (lv_at hl 0 rfl) ?_
      have hPc := hP.sub (ws' := [(qm, .inr (4, [.ref qmd, .ref qmt, .int (nI n), .int (bI on), .int lf, .int (nI dn), .int pl, .ref qml, .int (nI k), .ref qmk, .int (nI mz), .ref qmh, .int (nI nh), .int (nI 0), .ref qmw])), (qmd, .inl (cyI, 512, .inl w))]) [0, 1] rfl
      have hKc := hK.sub (tys' := [(cyI, .int), (cyZ, .boolean)]) [0, 1] rfl
      refine vp_callSi (va_Run.run (va_runV (As := [.int (nI (zFst (kIs (kLive w) w ky) 64))]) (rest := []) ⟨hx, hb, hml, hown, hts⟩ (c_X5_numberOf l dC dI cyI cyZ qm qmd qmt qml qmk qmh qmw n on lf dn pl k mz nh (nI 0) w (zFst (kIs (kLive w) w ky) 64) (hf)) (cwV 1 hts gX5_number_X5_numberOf rfl rfl rfl (by decide +kernel) ⟨Nat.le_of_ble_eq_true rfl, Nat.le_of_ble_eq_true rfl⟩) ⟨zz_blR, va_recv hKc hPc (ci := 4) (q0 := 0) rfl rfl, fun U hU hW => ⟨rfl, by rw [hU]; exact hPc, va_K.moved hW.alike hKc⟩⟩ rfl rfl hl.1 rfl (lv_room (Nat.le_of_ble_eq_true rfl)) dX5_number_40 ⟨Nat.zero_le _, Nat.zero_le _⟩)) (fun r_40 hr_40 => ?_)
      have hr_40 : kNum w (zFst (kIs (kLive w) w ky) 64) = r_40 := Eq.symm hr_40
      subst hr_40
      have hP9 := hP.sub (ws' := [(qm, .inr (4, [.ref qmd, .ref qmt, .int (nI n), .int (bI on), .int lf, .int (nI dn), .int pl, .ref qml, .int (nI k), .ref qmk, .int (nI mz), .ref qmh, .int (nI nh), .int (nI 0), .ref qmw])), (qmd, .inl (cyI, 512, .inl w))]) [0, 1] rfl
      have hD9 := hD.sub (ws' := [(qm, .inr (4, [.ref qmd, .ref qmt, .int (nI n), .int (bI on), .int lf, .int (nI dn), .int pl, .ref qml, .int (nI k), .ref qmk, .int (nI mz), .ref qmh, .int (nI nh), .int (nI 0), .ref qmw])), (qmd, .inl (cyI, 512, .inl w))]) [0, 1] (by decide) rfl
      have hK9 := hK.sub (tys' := [(cyI, .int), (cyZ, .boolean)]) [0, 1] rfl
      have hret : (kNum w (zFst (kIs (kLive w) w ky) 64) : Int32) = kNo w ky := by first | exact (kNo_0 hf).symm | exact (kNo_g hf (kIs_form2 c_26)).symm | exact (kNo_t hf (kIs_text hI c_26)).symm
      refine zz_top hret ?_
      exact W.iret hx hb hr (fun tS ht hW => ⟨⟨_, (), rfl, rfl, by rw [ht]; exact hP9, va_K.moved hW.alike hK9, hD9⟩, hS.F ht⟩) hS.2.2 dX5_number_43
    ·
      refine lv_aload_n hx hb dX5_number_29 rfl (lv_at hl 1 rfl) ?_
      refine lv_iload_n hx hb dX5_number_30 rfl (lv_at hl 0 rfl) ?_
      have hPc := hP.sub (ws' := [(qm, .inr (4, [.ref qmd, .ref qmt, .int (nI n), .int (bI on), .int lf, .int (nI dn), .int pl, .ref qml, .int (nI k), .ref qmk, .int (nI mz), .ref qmh, .int (nI nh), .int (nI 0), .ref qmw])), (qmd, .inl (cyI, 512, .inl w))]) [0, 1] rfl
      have hKc := hK.sub (tys' := [(cyI, .int), (cyZ, .boolean)]) [0, 1] rfl
      refine vp_callSi (va_Run.run (va_runV (As := [.int (nI (zFst (kIs (kLive w) w ky) 64))]) (rest := []) ⟨hx, hb, hml, hown, hts⟩ (c_X5_numberOf l dC dI cyI cyZ qm qmd qmt qml qmk qmh qmw n on lf dn pl k mz nh (nI 0) w (zFst (kIs (kLive w) w ky) 64) (hf)) (cwV 1 hts gX5_number_X5_numberOf rfl rfl rfl (by decide +kernel) ⟨Nat.le_of_ble_eq_true rfl, Nat.le_of_ble_eq_true rfl⟩) ⟨zz_blR, va_recv hKc hPc (ci := 4) (q0 := 0) rfl rfl, fun U hU hW => ⟨rfl, by rw [hU]; exact hPc, va_K.moved hW.alike hKc⟩⟩ rfl rfl hl.1 rfl (lv_room (Nat.le_of_ble_eq_true rfl)) dX5_number_31 ⟨Nat.zero_le _, Nat.zero_le _⟩)) (fun r_31 hr_31 => ?_)
      have hr_31 : kNum w (zFst (kIs (kLive w) w ky) 64) = r_31 := Eq.symm hr_31
      subst hr_31
      refine lv_ineg hx hb dX5_number_34 ?_
      refine lv_goto (tgt := 43) hx hb dX5_number_35 (by decide) ?_
      have hP9 := hP.sub (ws' := [(qm, .inr (4, [.ref qmd, .ref qmt, .int (nI n), .int (bI on), .int lf, .int (nI dn), .int pl, .ref qml, .int (nI k), .ref qmk, .int (nI mz), .ref qmh, .int (nI nh), .int (nI 0), .ref qmw])), (qmd, .inl (cyI, 512, .inl w))]) [0, 1] rfl
      have hD9 := hD.sub (ws' := [(qm, .inr (4, [.ref qmd, .ref qmt, .int (nI n), .int (bI on), .int lf, .int (nI dn), .int pl, .ref qml, .int (nI k), .ref qmk, .int (nI mz), .ref qmh, .int (nI nh), .int (nI 0), .ref qmw])), (qmd, .inl (cyI, 512, .inl w))]) [0, 1] (by decide) rfl
      have hK9 := hK.sub (tys' := [(cyI, .int), (cyZ, .boolean)]) [0, 1] rfl
      have hret : (-(kNum w (zFst (kIs (kLive w) w ky) 64)) : Int32) = kNo w ky := by first | exact (kNo_0 hf).symm | exact (kNo_g hf (kIs_form2 c_26)).symm | exact (kNo_t hf (kIs_text hI c_26)).symm
      refine zz_top hret ?_
      exact W.iret hx hb hr (fun tS ht hW => ⟨⟨_, (), rfl, rfl, by rw [ht]; exact hP9, va_K.moved hW.alike hK9, hD9⟩, hS.F ht⟩) hS.2.2 dX5_number_43
  ·
    refine zz_top (zFI_f hf) ?_
    refine lv_istore_n (lv' := [(2, .int (-1)), (0, .ref qm), (1, .int ky)]) hx hb dX5_number_10 rfl hl (by decide) rfl (fun ls hl => ?_)
    refine lv_iload_n hx hb dX5_number_11 rfl (lv_at hl 0 rfl) ?_
    refine lv_if_ge (tgt := 20) hx hb dX5_number_12 (by decide) (fun c_12 => absurd c_12 (by decide)) (fun c_12 => ?_)
    refine lv_bipush (v := (-2)) hx hb dX5_number_15 (by decide) ?_
    refine lv_goto (tgt := 43) hx hb dX5_number_17 (by decide) ?_
    have hP9 := hP.sub (ws' := [(qm, .inr (4, [.ref qmd, .ref qmt, .int (nI n), .int (bI on), .int lf, .int (nI dn), .int pl, .ref qml, .int (nI k), .ref qmk, .int (nI mz), .ref qmh, .int (nI nh), .int (nI 0), .ref qmw])), (qmd, .inl (cyI, 512, .inl w))]) [0, 1] rfl
    have hD9 := hD.sub (ws' := [(qm, .inr (4, [.ref qmd, .ref qmt, .int (nI n), .int (bI on), .int lf, .int (nI dn), .int pl, .ref qml, .int (nI k), .ref qmk, .int (nI mz), .ref qmh, .int (nI nh), .int (nI 0), .ref qmw])), (qmd, .inl (cyI, 512, .inl w))]) [0, 1] (by decide) rfl
    have hK9 := hK.sub (tys' := [(cyI, .int), (cyZ, .boolean)]) [0, 1] rfl
    have hret : ((-2) : Int32) = kNo w ky := by first | exact (kNo_0 hf).symm | exact (kNo_g hf (kIs_form2 c_26)).symm | exact (kNo_t hf (kIs_text hI c_26)).symm
    refine zz_top hret ?_
    exact W.iret hx hb hr (fun tS ht hW => ⟨⟨_, (), rfl, rfl, by rw [ht]; exact hP9, va_K.moved hW.alike hK9, hD9⟩, hS.F ht⟩) hS.2.2 dX5_number_43
set_option maxHeartbeats 4000000 in
set_option maxRecDepth 100000 in
theorem c_X5_key (l : Launch) (dC : Nat → ClassId) (dI : Nat → Nat → Nat) (cyI cyZ : ClassId) (qm qmd qmt qml qmk qmh qmw : Nat) (sz : Nat) (n : Nat) (on : Bool) (lf : Int32) (dn : Nat) (pl : Int32) (k mz nh : Nat) (th : Int32) (w : Nat → Int32) (rk : Int32) (HP0 : kPos w) : Met l yX5_key wsX5_key ({ frames := 4, cells := 0, slots := 0, locals := 87 }) (va_Pc [.ref qm, .int rk] (fun U => U.heap.size = sz ∧ va_P (dC, dI) vwCl [(qm, .inr (4, [.ref qmd, .ref qmt, .int (nI n), .int (bI on), .int lf, .int (nI dn), .int pl, .ref qml, .int (nI k), .ref qmk, .int (nI mz), .ref qmh, .int (nI nh), .int th, .ref qmw])), (qmd, .inl (cyI, 512, .inl w))] U.heap ∧ va_K (dC, dI) vwCl [(cyI, .int), (cyZ, .boolean)] U ∧ va_D (fun _ => True) [(qm, .inr (4, [.ref qmd, .ref qmt, .int (nI n), .int (bI on), .int lf, .int (nI dn), .int pl, .ref qml, .int (nI k), .ref qmk, .int (nI mz), .ref qmh, .int (nI nh), .int th, .ref qmw])), (qmd, .inl (cyI, 512, .inl w))])) (va_Qi (S := Unit) (fun (r : Int32) (_ : Unit) => r = kKth w rk) (fun (_ : Unit) tS => va_P (dC, dI) vwCl [(qm, .inr (4, [.ref qmd, .ref qmt, .int (nI n), .int (bI on), .int lf, .int (nI dn), .int pl, .ref qml, .int (nI k), .ref qmk, .int (nI mz), .ref qmh, .int (nI nh), .int (nI 0), .ref qmw])), (qmd, .inl (cyI, 512, .inl w))] tS.heap ∧ va_K (dC, dI) vwCl [(cyI, .int), (cyZ, .boolean)] tS ∧ va_D (va_A [(qm, .inr (4, [.ref qmd, .ref qmt, .int (nI n), .int (bI on), .int lf, .int (nI dn), .int pl, .ref qml, .int (nI k), .ref qmk, .int (nI mz), .ref qmh, .int (nI nh), .int th, .ref qmw])), (qmd, .inl (cyI, 512, .inl w))] sz) [(qm, .inr (4, [.ref qmd, .ref qmt, .int (nI n), .int (bI on), .int lf, .int (nI dn), .int pl, .ref qml, .int (nI k), .ref qmk, .int (nI mz), .ref qmh, .int (nI nh), .int (nI 0), .ref qmw])), (qmd, .inl (cyI, 512, .inl w))]) (va_A [(qm, .inr (4, [.ref qmd, .ref qmt, .int (nI n), .int (bI on), .int lf, .int (nI dn), .int pl, .ref qml, .int (nI k), .ref qmk, .int (nI mz), .ref qmh, .int (nI nh), .int th, .ref qmw])), (qmd, .inl (cyI, 512, .inl w))] sz)) 0 0 (va_A [(qm, .inr (4, [.ref qmd, .ref qmt, .int (nI n), .int (bI on), .int lf, .int (nI dn), .int pl, .ref qml, .int (nI k), .ref qmk, .int (nI mz), .ref qmh, .int (nI nh), .int th, .ref qmw])), (qmd, .inl (cyI, 512, .inl w))] sz) := by
  refine Met.ofW (cc := cX5_key) (maxL := 5) (ret := (some .int)) (by decide) rfl ?_
  intro pz ez sS mM args below meth cC s₁ B hml hv
  obtain ⟨rfl, hsz, hP, hK, hD0⟩ := hv
  have hx := B.exec
  have hb := B.bytes
  have hr := B.returns
  have hts := atoms_spec (ws := wsX5_key) B.pre
  have hown : sS.vm.findClass RX5 = some mM.cls := findClass_of_methodNamed B.named
  have hlocks := B.notSynchronized
  subst hsz
  have hD := hD0.self (sz := sS.heap.size)
  generalize hAe : va_A [(qm, .inr (4, [.ref qmd, .ref qmt, .int (nI n), .int (bI on), .int lf, .int (nI dn), .int pl, .ref qml, .int (nI k), .ref qmk, .int (nI mz), .ref qmh, .int (nI nh), .int th, .ref qmw])), (qmd, .inl (cyI, 512, .inl w))] sS.heap.size = A at hD ⊢
  have hA : ∀ q : Nat, sS.heap.size ≤ q → A q := fun q h => by rw [← hAe]; exact Or.inr h
  have hS : va_S A sS.heap sS.heap [] := va_S.rf
  have hP : va_P (dC, dI) vwCl [(qm, .inr (4, [.ref qmd, .ref qmt, .int (nI n), .int (bI on), .int lf, .int (nI dn), .int pl, .ref qml, .int (nI k), .ref qmk, .int (nI mz), .ref qmh, .int (nI nh), .int th, .ref qmw])), (qmd, .inl (cyI, 512, .inl w))] sS.heap := hP
  have iwX5 : ∀ w ∈ wsX50, w ∈ wsX5_key := by decide +kernel
  have fk43 := hts (.fieldLink RX5 43 "CodedStoreModel" "thrown" "I") (by decide +kernel)
  have hl := lv_entry ([.ref qm, .int rk]) (n := 5) (Nat.le_of_ble_eq_true rfl)
  rw [lg_entry_eq]
  generalize (lg_sl ([.ref qm, .int rk]) ++ List.replicate (5 - (lg_sl ([.ref qm, .int rk])).length) Slot.unset).toArray = ls at hl ⊢
  have hl : lv_has ls 5 [(0, .ref qm), (1, .int rk)] := hl
  refine lv_aload_n hx hb dX5_key_0 rfl (lv_at hl 0 rfl) ?_
  refine lv_iconst (v := nI 0) hx hb dX5_key_1 (by decide) ?_
  refine va_put (D := (dC, dI)) (ci := 4) (v := .int (nI 0)) (ty := .int) (C := RX5) (T := TX5) (N := 15) hx hb hts iwX5 tyX5 tyX5_ok nmX5 hown hK hP hD hS 0 rfl rfl 13 (by decide) fk43 (fun _ h9 => h9) rfl (by decide +kernel) rfl rfl (Nat.le_of_ble_eq_true rfl) dX5_key_2 (fun H locs hP hD hS => ?_)
  have hP : va_P (dC, dI) vwCl [(qm, .inr (4, [.ref qmd, .ref qmt, .int (nI n), .int (bI on), .int lf, .int (nI dn), .int pl, .ref qml, .int (nI k), .ref qmk, .int (nI mz), .ref qmh, .int (nI nh), .int (nI 0), .ref qmw])), (qmd, .inl (cyI, 512, .inl w))] H := hP
  have hD : va_D A [(qm, .inr (4, [.ref qmd, .ref qmt, .int (nI n), .int (bI on), .int lf, .int (nI dn), .int pl, .ref qml, .int (nI k), .ref qmk, .int (nI mz), .ref qmh, .int (nI nh), .int (nI 0), .ref qmw])), (qmd, .inl (cyI, 512, .inl w))] := hD
  refine lv_iconst (v := nI 0) hx hb dX5_key_5 (by decide) ?_
  refine lv_istore_n (lv' := [(2, .int (nI 0)), (0, .ref qm), (1, .int rk)]) hx hb dX5_key_6 rfl hl (by decide) rfl (fun ls hl => ?_)
  refine zz_loopW (pc := 7) (μ := fun (v : Nat) => 64 - v) (Inv := fun (v : Nat) (H : Heap) (locs : List Loc) (ls : Array Slot) => (v ≤ 64) ∧ (∀ j, j < v → kRank (kLive w) w rk j = false) ∧ va_P (dC, dI) vwCl [(qm, .inr (4, [.ref qmd, .ref qmt, .int (nI n), .int (bI on), .int lf, .int (nI dn), .int pl, .ref qml, .int (nI k), .ref qmk, .int (nI mz), .ref qmh, .int (nI nh), .int (nI 0), .ref qmw])), (qmd, .inl (cyI, 512, .inl w))] H ∧ va_D A [(qm, .inr (4, [.ref qmd, .ref qmt, .int (nI n), .int (bI on), .int lf, .int (nI dn), .int pl, .ref qml, .int (nI k), .ref qmk, .int (nI mz), .ref qmh, .int (nI nh), .int (nI 0), .ref qmw])), (qmd, .inl (cyI, 512, .inl w))] ∧ va_S A sS.heap H locs ∧ lv_has ls 5 [(0, .ref qm), (1, .int rk), (2, .int (nI v))]) (x0 := (0)) ⟨by omega, no_lt0, hP, hD, hS, lv_sub hl [1, 2, 0] rfl⟩ ?_
  intro v H locs ls hI ih7
  obtain ⟨hv9, hj, hP, hD, hS, hl⟩ := hI
  have hl : lv_has ls 5 [(0, .ref qm), (1, .int rk), (2, .int (nI v))] := hl
  have hP : va_P (dC, dI) vwCl [(qm, .inr (4, [.ref qmd, .ref qmt, .int (nI n), .int (bI on), .int lf, .int (nI dn), .int pl, .ref qml, .int (nI k), .ref qmk, .int (nI mz), .ref qmh, .int (nI nh), .int (nI 0), .ref qmw])), (qmd, .inl (cyI, 512, .inl w))] H := hP
  have hD : va_D A [(qm, .inr (4, [.ref qmd, .ref qmt, .int (nI n), .int (bI on), .int lf, .int (nI dn), .int pl, .ref qml, .int (nI k), .ref qmk, .int (nI mz), .ref qmh, .int (nI nh), .int (nI 0), .ref qmw])), (qmd, .inl (cyI, 512, .inl w))] := hD
  have hv9 : v ≤ 64 := hv9
  have hj : ∀ j, j < v → kRank (kLive w) w rk j = false := hj
  refine lv_iload_n hx hb dX5_key_7 rfl (lv_at hl 2 rfl) ?_
  refine lv_bipush (v := nI 64) hx hb dX5_key_8 (by decide) ?_
  refine zn_icmp_ge (tgt := 87) hx hb dX5_key_10 (by decide) (by omega) (by omega) (fun c_10 => ?_) (fun c_10 => ?_)
  ·
    refine lv_iconst (v := nI 0) hx hb dX5_key_87 (by decide) ?_
    have hP9 := hP.sub (ws' := [(qm, .inr (4, [.ref qmd, .ref qmt, .int (nI n), .int (bI on), .int lf, .int (nI dn), .int pl, .ref qml, .int (nI k), .ref qmk, .int (nI mz), .ref qmh, .int (nI nh), .int (nI 0), .ref qmw])), (qmd, .inl (cyI, 512, .inl w))]) [0, 1] rfl
    have hD9 := hD.sub (ws' := [(qm, .inr (4, [.ref qmd, .ref qmt, .int (nI n), .int (bI on), .int lf, .int (nI dn), .int pl, .ref qml, .int (nI k), .ref qmk, .int (nI mz), .ref qmh, .int (nI nh), .int (nI 0), .ref qmw])), (qmd, .inl (cyI, 512, .inl w))]) [0, 1] (by decide) rfl
    have hK9 := hK.sub (tys' := [(cyI, .int), (cyZ, .boolean)]) [0, 1] rfl
    have hret : (nI 0 : Int32) = kKth w rk := (kRank_no (by rw [zFst_no (fun j h => hj j (by omega))]; omega)).symm
    refine zz_top hret ?_
    exact W.iret hx hb hr (fun tS ht hW => ⟨⟨_, (), rfl, rfl, by rw [ht]; exact hP9, va_K.moved hW.alike hK9, hD9⟩, hS.F ht⟩) hS.2.2 dX5_key_88
  ·
    refine lv_aload_n hx hb dX5_key_13 rfl (lv_at hl 0 rfl) ?_
    refine lv_iload_n hx hb dX5_key_14 rfl (lv_at hl 2 rfl) ?_
    have hPc := hP.sub (ws' := [(qm, .inr (4, [.ref qmd, .ref qmt, .int (nI n), .int (bI on), .int lf, .int (nI dn), .int pl, .ref qml, .int (nI k), .ref qmk, .int (nI mz), .ref qmh, .int (nI nh), .int (nI 0), .ref qmw])), (qmd, .inl (cyI, 512, .inl w))]) [0, 1] rfl
    have hKc := hK.sub (tys' := [(cyI, .int), (cyZ, .boolean)]) [0, 1] rfl
    refine vp_callSi (va_Run.run (va_runV (As := [.int (nI v)]) (rest := []) ⟨hx, hb, hml, hown, hts⟩ (c_X5_isText l dC dI cyI cyZ qm qmd qmt qml qmk qmh qmw n on lf dn pl k mz nh (nI 0) w v (by omega) (HP0)) (cwV 1 hts gX5_key_X5_isText rfl rfl rfl (by decide +kernel) ⟨Nat.le_of_ble_eq_true rfl, Nat.le_of_ble_eq_true rfl⟩) ⟨zz_blR, va_recv hKc hPc (ci := 4) (q0 := 0) rfl rfl, fun U hU hW => ⟨rfl, by rw [hU]; exact hPc, va_K.moved hW.alike hKc⟩⟩ rfl rfl hl.1 rfl (lv_room (Nat.le_of_ble_eq_true rfl)) dX5_key_15 ⟨Nat.zero_le _, Nat.zero_le _⟩)) (fun r_15 hr_15 => ?_)
    have hr_15 : bI (kText (kLive w) w v) = r_15 := Eq.symm hr_15
    subst hr_15
    refine zb_if_eq (tgt := 81) hx hb dX5_key_18 (by decide) (fun c_18 => ?_) (fun c_18 => ?_)
    ·
      refine lv_iinc (v := nI (v + 1)) (lv' := [(2, .int (nI (v + 1))), (0, .ref qm), (1, .int rk)]) hx hb dX5_key_81 hl (k := 2) rfl (nI_add v 1) (by decide) rfl (fun ls hl => ?_)
      refine lv_goto (tgt := 7) hx hb dX5_key_84 (by decide) ?_
      exact ih7 (v + 1) _ _ _ ⟨by omega, lt_step hj (by first | exact b_and_f1 c_18 | exact b_and_f2 (d_f c_72)), hP, hD, hS, lv_sub hl [1, 2, 0] rfl⟩ (by first | omega | (dsimp only; omega))
    ·
      refine lv_iconst (v := nI 0) hx hb dX5_key_21 (by decide) ?_
      refine lv_istore_n (lv' := [(3, .int (nI 0)), (0, .ref qm), (1, .int rk), (2, .int (nI v))]) hx hb dX5_key_22 rfl hl (by decide) rfl (fun ls hl => ?_)
      refine lv_iconst (v := nI 0) hx hb dX5_key_23 (by decide) ?_
      refine lv_istore (lv' := [(4, .int (nI 0)), (3, .int (nI 0)), (0, .ref qm), (1, .int rk), (2, .int (nI v))]) hx hb dX5_key_24 hl (by decide) rfl (fun ls hl => ?_)
      refine zz_loopW (pc := 26) (μ := fun (u : Nat) => 64 - u) (Inv := fun (u : Nat) (H : Heap) (locs : List Loc) (ls : Array Slot) => (u ≤ 64) ∧ va_P (dC, dI) vwCl [(qm, .inr (4, [.ref qmd, .ref qmt, .int (nI n), .int (bI on), .int lf, .int (nI dn), .int pl, .ref qml, .int (nI k), .ref qmk, .int (nI mz), .ref qmh, .int (nI nh), .int (nI 0), .ref qmw])), (qmd, .inl (cyI, 512, .inl w))] H ∧ va_D A [(qm, .inr (4, [.ref qmd, .ref qmt, .int (nI n), .int (bI on), .int lf, .int (nI dn), .int pl, .ref qml, .int (nI k), .ref qmk, .int (nI mz), .ref qmh, .int (nI nh), .int (nI 0), .ref qmw])), (qmd, .inl (cyI, 512, .inl w))] ∧ va_S A sS.heap H locs ∧ lv_has ls 5 [(0, .ref qm), (1, .int rk), (2, .int (nI v)), (3, .int (nI (fb_ct (kTB (kLive w) w (kKey w v)) u))), (4, .int (nI u))]) (x0 := (0)) ⟨by omega, hP, hD, hS, lv_sub hl [2, 3, 4, 1, 0] rfl⟩ ?_
      intro u H locs ls hI ih26
      obtain ⟨hu9, hP, hD, hS, hl⟩ := hI
      have hl : lv_has ls 5 [(0, .ref qm), (1, .int rk), (2, .int (nI v)), (3, .int (nI (fb_ct (kTB (kLive w) w (kKey w v)) u))), (4, .int (nI u))] := hl
      have hP : va_P (dC, dI) vwCl [(qm, .inr (4, [.ref qmd, .ref qmt, .int (nI n), .int (bI on), .int lf, .int (nI dn), .int pl, .ref qml, .int (nI k), .ref qmk, .int (nI mz), .ref qmh, .int (nI nh), .int (nI 0), .ref qmw])), (qmd, .inl (cyI, 512, .inl w))] H := hP
      have hD : va_D A [(qm, .inr (4, [.ref qmd, .ref qmt, .int (nI n), .int (bI on), .int lf, .int (nI dn), .int pl, .ref qml, .int (nI k), .ref qmk, .int (nI mz), .ref qmh, .int (nI nh), .int (nI 0), .ref qmw])), (qmd, .inl (cyI, 512, .inl w))] := hD
      have hu9 : u ≤ 64 := hu9
      refine lv_iload hx hb dX5_key_26 (lv_at hl 4 rfl) ?_
      refine lv_bipush (v := nI 64) hx hb dX5_key_28 (by decide) ?_
      refine zn_icmp_ge (tgt := 70) hx hb dX5_key_30 (by decide) (by omega) (by omega) (fun c_30 => ?_) (fun c_30 => ?_)
      ·
        refine lv_iload_n hx hb dX5_key_70 rfl (lv_at hl 3 rfl) ?_
        refine lv_iload_n hx hb dX5_key_71 rfl (lv_at hl 1 rfl) ?_
        refine lv_icmp_ne (tgt := 81) hx hb dX5_key_72 (by decide) (fun c_72 => ?_) (fun c_72 => ?_)
        ·
          rw [show u = 64 by omega] at c_72
          refine lv_iinc (v := nI (v + 1)) (lv' := [(2, .int (nI (v + 1))), (0, .ref qm), (1, .int rk), (3, .int (nI (fb_ct (kTB (kLive w) w (kKey w v)) u))), (4, .int (nI u))]) hx hb dX5_key_81 hl (k := 2) rfl (nI_add v 1) (by decide) rfl (fun ls hl => ?_)
          refine lv_goto (tgt := 7) hx hb dX5_key_84 (by decide) ?_
          exact ih7 (v + 1) _ _ _ ⟨by omega, lt_step hj (by first | exact b_and_f1 c_18 | exact b_and_f2 (d_f c_72)), hP, hD, hS, lv_sub hl [1, 2, 0] rfl⟩ (by first | omega | (dsimp only; omega))
        ·
          rw [show u = 64 by omega] at c_72
          refine lv_aload_n hx hb dX5_key_75 rfl (lv_at hl 0 rfl) ?_
          refine lv_iload_n hx hb dX5_key_76 rfl (lv_at hl 2 rfl) ?_
          have hPc := hP.sub (ws' := [(qm, .inr (4, [.ref qmd, .ref qmt, .int (nI n), .int (bI on), .int lf, .int (nI dn), .int pl, .ref qml, .int (nI k), .ref qmk, .int (nI mz), .ref qmh, .int (nI nh), .int (nI 0), .ref qmw])), (qmd, .inl (cyI, 512, .inl w))]) [0, 1] rfl
          have hKc := hK.sub (tys' := [(cyI, .int), (cyZ, .boolean)]) [0, 1] rfl
          refine vp_callSi (va_Run.run (va_runV (As := [.int (nI v)]) (rest := []) ⟨hx, hb, hml, hown, hts⟩ (c_X5_keyOf l dC dI cyI cyZ qm qmd qmt qml qmk qmh qmw n on lf dn pl k mz nh (nI 0) w v (by omega)) (cwV 1 hts gX5_key_X5_keyOf rfl rfl rfl (by decide +kernel) ⟨Nat.le_of_ble_eq_true rfl, Nat.le_of_ble_eq_true rfl⟩) ⟨zz_blR, va_recv hKc hPc (ci := 4) (q0 := 0) rfl rfl, fun U hU hW => ⟨rfl, by rw [hU]; exact hPc, va_K.moved hW.alike hKc⟩⟩ rfl rfl hl.1 rfl (lv_room (Nat.le_of_ble_eq_true rfl)) dX5_key_77 ⟨Nat.zero_le _, Nat.zero_le _⟩)) (fun r_77 hr_77 => ?_)
          have hr_77 : kKey w v = r_77 := Eq.symm hr_77
          subst hr_77
          have hP9 := hP.sub (ws' := [(qm, .inr (4, [.ref qmd, .ref qmt, .int (nI n), .int (bI on), .int lf, .int (nI dn), .int pl, .ref qml, .int (nI k), .ref qmk, .int (nI mz), .ref qmh, .int (nI nh), .int (nI 0), .ref qmw])), (qmd, .inl (cyI, 512, .inl w))]) [0, 1] rfl
          have hD9 := hD.sub (ws' := [(qm, .inr (4, [.ref qmd, .ref qmt, .int (nI n), .int (bI on), .int lf, .int (nI dn), .int pl, .ref qml, .int (nI k), .ref qmk, .int (nI mz), .ref qmh, .int (nI nh), .int (nI 0), .ref qmw])), (qmd, .inl (cyI, 512, .inl w))]) [0, 1] (by decide) rfl
          have hK9 := hK.sub (tys' := [(cyI, .int), (cyZ, .boolean)]) [0, 1] rfl
          have hret : (kKey w v : Int32) = kKth w rk := (by rw [kRank_at (by rw [zFst_is (by omega) (b_and_t c_18 (d_t c_72)) hj]; omega), zFst_is (by omega) (b_and_t c_18 (d_t c_72)) hj])
          refine zz_top hret ?_
          exact W.iret hx hb hr (fun tS ht hW => ⟨⟨_, (), rfl, rfl, by rw [ht]; exact hP9, va_K.moved hW.alike hK9, hD9⟩, hS.F ht⟩) hS.2.2 dX5_key_80
      ·
        refine lv_iload_n hx hb dX5_key_33 rfl (lv_at hl 3 rfl) ?_
        refine lv_aload_n hx hb dX5_key_34 rfl (lv_at hl 0 rfl) ?_
        refine lv_iload hx hb dX5_key_35 (lv_at hl 4 rfl) ?_
        have hPc := hP.sub (ws' := [(qm, .inr (4, [.ref qmd, .ref qmt, .int (nI n), .int (bI on), .int lf, .int (nI dn), .int pl, .ref qml, .int (nI k), .ref qmk, .int (nI mz), .ref qmh, .int (nI nh), .int (nI 0), .ref qmw])), (qmd, .inl (cyI, 512, .inl w))]) [0, 1] rfl
        have hKc := hK.sub (tys' := [(cyI, .int), (cyZ, .boolean)]) [0, 1] rfl
        refine vp_callSi (va_Run.run (va_runV (As := [.int (nI u)]) (rest := [.int (nI (fb_ct (kTB (kLive w) w (kKey w v)) u))]) ⟨hx, hb, hml, hown, hts⟩ (c_X5_isText l dC dI cyI cyZ qm qmd qmt qml qmk qmh qmw n on lf dn pl k mz nh (nI 0) w u (by omega) (HP0)) (cwV 1 hts gX5_key_X5_isText rfl rfl rfl (by decide +kernel) ⟨Nat.le_of_ble_eq_true rfl, Nat.le_of_ble_eq_true rfl⟩) ⟨zz_blR, va_recv hKc hPc (ci := 4) (q0 := 0) rfl rfl, fun U hU hW => ⟨rfl, by rw [hU]; exact hPc, va_K.moved hW.alike hKc⟩⟩ rfl rfl hl.1 rfl (lv_room (Nat.le_of_ble_eq_true rfl)) dX5_key_37 ⟨Nat.zero_le _, Nat.zero_le _⟩)) (fun r_37 hr_37 => ?_)
        have hr_37 : bI (kText (kLive w) w u) = r_37 := Eq.symm hr_37
        subst hr_37
        refine zb_if_eq (tgt := 61) hx hb dX5_key_40 (by decide) (fun c_40 => ?_) (fun c_40 => ?_)
        ·
          refine lv_iconst (v := nI 0) hx hb dX5_key_61 (by decide) ?_
          refine lv_iadd hx hb dX5_key_62 ?_
          refine zz_top (nI_add (fb_ct (kTB (kLive w) w (kKey w v)) u) 0) ?_
          refine lv_istore_n (lv' := [(3, .int (nI (fb_ct (kTB (kLive w) w (kKey w v)) u))), (0, .ref qm), (1, .int rk), (2, .int (nI v)), (4, .int (nI u))]) hx hb dX5_key_63 rfl hl (by decide) rfl (fun ls hl => ?_)
          refine lv_iinc (v := nI (u + 1)) (lv' := [(4, .int (nI (u + 1))), (3, .int (nI (fb_ct (kTB (kLive w) w (kKey w v)) u))), (0, .ref qm), (1, .int rk), (2, .int (nI v))]) hx hb dX5_key_64 hl (k := 4) rfl (nI_add u 1) (by decide) rfl (fun ls hl => ?_)
          refine lv_goto (tgt := 26) hx hb dX5_key_67 (by decide) ?_
          rw [kct_n (q := kTB (kLive w) w (kKey w v)) (k := u) (by first | exact b_and_f1 c_40 | exact b_and_f2 (d_f (Int32.not_lt.mpr c_54)))] at hl
          -- local 3: .int (nI (fb_ct (kTB (kLive w) w (kKey w v)) u)) ~ .int (nI (fb_ct (kTB (kLive w) w (kKey w v)) (u + 1)))
          exact ih26 (u + 1) _ _ _ ⟨by omega, hP, hD, hS, lv_sub hl [2, 3, 4, 1, 0] rfl⟩ (by first | omega | (dsimp only; omega))
        ·
          refine lv_aload_n hx hb dX5_key_43 rfl (lv_at hl 0 rfl) ?_
          refine lv_iload hx hb dX5_key_44 (lv_at hl 4 rfl) ?_
          have hPc := hP.sub (ws' := [(qm, .inr (4, [.ref qmd, .ref qmt, .int (nI n), .int (bI on), .int lf, .int (nI dn), .int pl, .ref qml, .int (nI k), .ref qmk, .int (nI mz), .ref qmh, .int (nI nh), .int (nI 0), .ref qmw])), (qmd, .inl (cyI, 512, .inl w))]) [0, 1] rfl
          have hKc := hK.sub (tys' := [(cyI, .int), (cyZ, .boolean)]) [0, 1] rfl
          refine vp_callSi (va_Run.run (va_runV (As := [.int (nI u)]) (rest := [.int (nI (fb_ct (kTB (kLive w) w (kKey w v)) u))]) ⟨hx, hb, hml, hown, hts⟩ (c_X5_keyOf l dC dI cyI cyZ qm qmd qmt qml qmk qmh qmw n on lf dn pl k mz nh (nI 0) w u (by omega)) (cwV 1 hts gX5_key_X5_keyOf rfl rfl rfl (by decide +kernel) ⟨Nat.le_of_ble_eq_true rfl, Nat.le_of_ble_eq_true rfl⟩) ⟨zz_blR, va_recv hKc hPc (ci := 4) (q0 := 0) rfl rfl, fun U hU hW => ⟨rfl, by rw [hU]; exact hPc, va_K.moved hW.alike hKc⟩⟩ rfl rfl hl.1 rfl (lv_room (Nat.le_of_ble_eq_true rfl)) dX5_key_46 ⟨Nat.zero_le _, Nat.zero_le _⟩)) (fun r_46 hr_46 => ?_)
          have hr_46 : kKey w u = r_46 := Eq.symm hr_46
          subst hr_46
          refine lv_aload_n hx hb dX5_key_49 rfl (lv_at hl 0 rfl) ?_
          refine lv_iload_n hx hb dX5_key_50 rfl (lv_at hl 2 rfl) ?_
          have hPc := hP.sub (ws' := [(qm, .inr (4, [.ref qmd, .ref qmt, .int (nI n), .int (bI on), .int lf, .int (nI dn), .int pl, .ref qml, .int (nI k), .ref qmk, .int (nI mz), .ref qmh, .int (nI nh), .int (nI 0), .ref qmw])), (qmd, .inl (cyI, 512, .inl w))]) [0, 1] rfl
          have hKc := hK.sub (tys' := [(cyI, .int), (cyZ, .boolean)]) [0, 1] rfl
          refine vp_callSi (va_Run.run (va_runV (As := [.int (nI v)]) (rest := [.int (kKey w u), .int (nI (fb_ct (kTB (kLive w) w (kKey w v)) u))]) ⟨hx, hb, hml, hown, hts⟩ (c_X5_keyOf l dC dI cyI cyZ qm qmd qmt qml qmk qmh qmw n on lf dn pl k mz nh (nI 0) w v (by omega)) (cwV 1 hts gX5_key_X5_keyOf rfl rfl rfl (by decide +kernel) ⟨Nat.le_of_ble_eq_true rfl, Nat.le_of_ble_eq_true rfl⟩) ⟨zz_blR, va_recv hKc hPc (ci := 4) (q0 := 0) rfl rfl, fun U hU hW => ⟨rfl, by rw [hU]; exact hPc, va_K.moved hW.alike hKc⟩⟩ rfl rfl hl.1 rfl (lv_room (Nat.le_of_ble_eq_true rfl)) dX5_key_51 ⟨Nat.zero_le _, Nat.zero_le _⟩)) (fun r_51 hr_51 => ?_)
          have hr_51 : kKey w v = r_51 := Eq.symm hr_51
          subst hr_51
          refine lv_icmp_ge (tgt := 61) hx hb dX5_key_54 (by decide) (fun c_54 => ?_) (fun c_54 => ?_)
          ·
            refine lv_iconst (v := nI 0) hx hb dX5_key_61 (by decide) ?_
            refine lv_iadd hx hb dX5_key_62 ?_
            refine zz_top (nI_add (fb_ct (kTB (kLive w) w (kKey w v)) u) 0) ?_
            refine lv_istore_n (lv' := [(3, .int (nI (fb_ct (kTB (kLive w) w (kKey w v)) u))), (0, .ref qm), (1, .int rk), (2, .int (nI v)), (4, .int (nI u))]) hx hb dX5_key_63 rfl hl (by decide) rfl (fun ls hl => ?_)
            refine lv_iinc (v := nI (u + 1)) (lv' := [(4, .int (nI (u + 1))), (3, .int (nI (fb_ct (kTB (kLive w) w (kKey w v)) u))), (0, .ref qm), (1, .int rk), (2, .int (nI v))]) hx hb dX5_key_64 hl (k := 4) rfl (nI_add u 1) (by decide) rfl (fun ls hl => ?_)
            refine lv_goto (tgt := 26) hx hb dX5_key_67 (by decide) ?_
            rw [kct_n (q := kTB (kLive w) w (kKey w v)) (k := u) (by first | exact b_and_f1 c_40 | exact b_and_f2 (d_f (Int32.not_lt.mpr c_54)))] at hl
            -- local 3: .int (nI (fb_ct (kTB (kLive w) w (kKey w v)) u)) ~ .int (nI (fb_ct (kTB (kLive w) w (kKey w v)) (u + 1)))
            exact ih26 (u + 1) _ _ _ ⟨by omega, hP, hD, hS, lv_sub hl [2, 3, 4, 1, 0] rfl⟩ (by first | omega | (dsimp only; omega))
          ·
            refine lv_iconst (v := nI 1) hx hb dX5_key_57 (by decide) ?_
            refine lv_goto (tgt := 62) hx hb dX5_key_58 (by decide) ?_
            refine lv_iadd hx hb dX5_key_62 ?_
            refine zz_top (nI_add (fb_ct (kTB (kLive w) w (kKey w v)) u) 1) ?_
            refine lv_istore_n (lv' := [(3, .int (nI (fb_ct (kTB (kLive w) w (kKey w v)) u + 1))), (0, .ref qm), (1, .int rk), (2, .int (nI v)), (4, .int (nI u))]) hx hb dX5_key_63 rfl hl (by decide) rfl (fun ls hl => ?_)
            refine lv_iinc (v := nI (u + 1)) (lv' := [(4, .int (nI (u + 1))), (3, .int (nI (fb_ct (kTB (kLive w) w (kKey w v)) u + 1))), (0, .ref qm), (1, .int rk), (2, .int (nI v))]) hx hb dX5_key_64 hl (k := 4) rfl (nI_add u 1) (by decide) rfl (fun ls hl => ?_)
            refine lv_goto (tgt := 26) hx hb dX5_key_67 (by decide) ?_
            rw [kct_y (q := kTB (kLive w) w (kKey w v)) (k := u) (b_and_t c_40 (d_t (Int32.not_le.mp c_54)))] at hl
            -- local 3: .int (nI (fb_ct (kTB (kLive w) w (kKey w v)) u + 1)) ~ .int (nI (fb_ct (kTB (kLive w) w (kKey w v)) (u + 1)))
            exact ih26 (u + 1) _ _ _ ⟨by omega, hP, hD, hS, lv_sub hl [2, 3, 4, 1, 0] rfl⟩ (by first | omega | (dsimp only; omega))
set_option maxHeartbeats 4000000 in
set_option maxRecDepth 100000 in
theorem c_X5_out (l : Launch) (dC : Nat → ClassId) (dI : Nat → Nat → Nat) (cyI cyZ : ClassId) (qm qml qmd qmt qmk qmh qmw : Nat) (sz : Nat) (n : Nat) (on : Bool) (lf : Int32) (dn : Nat) (pl : Int32) (k mz nh : Nat) (th : Int32) (P : Nat → Int32) (ix : Int32) (hk : k ≤ 450) : Met l yX5_out wsX5_out ({ frames := 0, cells := 0, slots := 0, locals := 0 }) (va_Pc [.ref qm, .int ix] (fun U => U.heap.size = sz ∧ va_P (dC, dI) vwCl [(qm, .inr (4, [.ref qmd, .ref qmt, .int (nI n), .int (bI on), .int lf, .int (nI dn), .int pl, .ref qml, .int (nI k), .ref qmk, .int (nI mz), .ref qmh, .int (nI nh), .int th, .ref qmw])), (qml, .inl (cyI, 460, .inl P))] U.heap ∧ va_K (dC, dI) vwCl [(cyI, .int), (cyZ, .boolean)] U ∧ va_D (fun _ => True) [(qm, .inr (4, [.ref qmd, .ref qmt, .int (nI n), .int (bI on), .int lf, .int (nI dn), .int pl, .ref qml, .int (nI k), .ref qmk, .int (nI mz), .ref qmh, .int (nI nh), .int th, .ref qmw])), (qml, .inl (cyI, 460, .inl P))])) (va_Qi (S := Unit) (fun (r : Int32) (_ : Unit) => r = zOut P k ix) (fun (_ : Unit) tS => va_P (dC, dI) vwCl [(qm, .inr (4, [.ref qmd, .ref qmt, .int (nI n), .int (bI on), .int lf, .int (nI dn), .int pl, .ref qml, .int (nI k), .ref qmk, .int (nI mz), .ref qmh, .int (nI nh), .int (nI 0), .ref qmw])), (qml, .inl (cyI, 460, .inl P))] tS.heap ∧ va_K (dC, dI) vwCl [(cyI, .int), (cyZ, .boolean)] tS ∧ va_D (va_A [(qm, .inr (4, [.ref qmd, .ref qmt, .int (nI n), .int (bI on), .int lf, .int (nI dn), .int pl, .ref qml, .int (nI k), .ref qmk, .int (nI mz), .ref qmh, .int (nI nh), .int th, .ref qmw])), (qml, .inl (cyI, 460, .inl P))] sz) [(qm, .inr (4, [.ref qmd, .ref qmt, .int (nI n), .int (bI on), .int lf, .int (nI dn), .int pl, .ref qml, .int (nI k), .ref qmk, .int (nI mz), .ref qmh, .int (nI nh), .int (nI 0), .ref qmw])), (qml, .inl (cyI, 460, .inl P))]) (va_A [(qm, .inr (4, [.ref qmd, .ref qmt, .int (nI n), .int (bI on), .int lf, .int (nI dn), .int pl, .ref qml, .int (nI k), .ref qmk, .int (nI mz), .ref qmh, .int (nI nh), .int th, .ref qmw])), (qml, .inl (cyI, 460, .inl P))] sz)) 0 0 (va_A [(qm, .inr (4, [.ref qmd, .ref qmt, .int (nI n), .int (bI on), .int lf, .int (nI dn), .int pl, .ref qml, .int (nI k), .ref qmk, .int (nI mz), .ref qmh, .int (nI nh), .int th, .ref qmw])), (qml, .inl (cyI, 460, .inl P))] sz) := by
  refine Met.ofW (cc := cX5_out) (maxL := 2) (ret := (some .int)) (by decide) rfl ?_
  intro pz ez sS mM args below meth cC s₁ B hml hv
  obtain ⟨rfl, hsz, hP, hK, hD0⟩ := hv
  have hx := B.exec
  have hb := B.bytes
  have hr := B.returns
  have hts := atoms_spec (ws := wsX5_out) B.pre
  have hown : sS.vm.findClass RX5 = some mM.cls := findClass_of_methodNamed B.named
  have hlocks := B.notSynchronized
  subst hsz
  have hD := hD0.self (sz := sS.heap.size)
  generalize hAe : va_A [(qm, .inr (4, [.ref qmd, .ref qmt, .int (nI n), .int (bI on), .int lf, .int (nI dn), .int pl, .ref qml, .int (nI k), .ref qmk, .int (nI mz), .ref qmh, .int (nI nh), .int th, .ref qmw])), (qml, .inl (cyI, 460, .inl P))] sS.heap.size = A at hD ⊢
  have hA : ∀ q : Nat, sS.heap.size ≤ q → A q := fun q h => by rw [← hAe]; exact Or.inr h
  have hS : va_S A sS.heap sS.heap [] := va_S.rf
  have hP : va_P (dC, dI) vwCl [(qm, .inr (4, [.ref qmd, .ref qmt, .int (nI n), .int (bI on), .int lf, .int (nI dn), .int pl, .ref qml, .int (nI k), .ref qmk, .int (nI mz), .ref qmh, .int (nI nh), .int th, .ref qmw])), (qml, .inl (cyI, 460, .inl P))] sS.heap := hP
  have iwX5 : ∀ w ∈ wsX50, w ∈ wsX5_out := by decide +kernel
  have fk27 := hts (.fieldLink RX5 27 "CodedStoreModel" "loaded" "[I") (by decide +kernel)
  have fk43 := hts (.fieldLink RX5 43 "CodedStoreModel" "thrown" "I") (by decide +kernel)
  have fk66 := hts (.fieldLink RX5 66 "CodedStoreModel" "loadedSize" "I") (by decide +kernel)
  have hl := lv_entry ([.ref qm, .int ix]) (n := 2) (Nat.le_of_ble_eq_true rfl)
  rw [lg_entry_eq]
  generalize (lg_sl ([.ref qm, .int ix]) ++ List.replicate (2 - (lg_sl ([.ref qm, .int ix])).length) Slot.unset).toArray = ls at hl ⊢
  have hl : lv_has ls 2 [(0, .ref qm), (1, .int ix)] := hl
  refine lv_aload_n hx hb dX5_out_0 rfl (lv_at hl 0 rfl) ?_
  refine lv_iconst (v := nI 0) hx hb dX5_out_1 (by decide) ?_
  refine va_put (D := (dC, dI)) (ci := 4) (v := .int (nI 0)) (ty := .int) (C := RX5) (T := TX5) (N := 15) hx hb hts iwX5 tyX5 tyX5_ok nmX5 hown hK hP hD hS 0 rfl rfl 13 (by decide) fk43 (fun _ h9 => h9) rfl (by decide +kernel) rfl rfl (Nat.le_of_ble_eq_true rfl) dX5_out_2 (fun H locs hP hD hS => ?_)
  have hP : va_P (dC, dI) vwCl [(qm, .inr (4, [.ref qmd, .ref qmt, .int (nI n), .int (bI on), .int lf, .int (nI dn), .int pl, .ref qml, .int (nI k), .ref qmk, .int (nI mz), .ref qmh, .int (nI nh), .int (nI 0), .ref qmw])), (qml, .inl (cyI, 460, .inl P))] H := hP
  have hD : va_D A [(qm, .inr (4, [.ref qmd, .ref qmt, .int (nI n), .int (bI on), .int lf, .int (nI dn), .int pl, .ref qml, .int (nI k), .ref qmk, .int (nI mz), .ref qmh, .int (nI nh), .int (nI 0), .ref qmw])), (qml, .inl (cyI, 460, .inl P))] := hD
  refine lv_iload_n hx hb dX5_out_5 rfl (lv_at hl 1 rfl) ?_
  refine lv_if_lt (tgt := 17) hx hb dX5_out_6 (by decide) (fun c_6 => ?_) (fun c_6 => ?_)
  ·
    refine lv_iconst (v := (-1)) hx hb dX5_out_17 (by decide) ?_
    refine lv_goto (tgt := 27) hx hb dX5_out_18 (by decide) ?_
    have hP9 := hP.sub (ws' := [(qm, .inr (4, [.ref qmd, .ref qmt, .int (nI n), .int (bI on), .int lf, .int (nI dn), .int pl, .ref qml, .int (nI k), .ref qmk, .int (nI mz), .ref qmh, .int (nI nh), .int (nI 0), .ref qmw])), (qml, .inl (cyI, 460, .inl P))]) [0, 1] rfl
    have hD9 := hD.sub (ws' := [(qm, .inr (4, [.ref qmd, .ref qmt, .int (nI n), .int (bI on), .int lf, .int (nI dn), .int pl, .ref qml, .int (nI k), .ref qmk, .int (nI mz), .ref qmh, .int (nI nh), .int (nI 0), .ref qmw])), (qml, .inl (cyI, 460, .inl P))]) [0, 1] (by decide) rfl
    have hK9 := hK.sub (tys' := [(cyI, .int), (cyZ, .boolean)]) [0, 1] rfl
    have hret : ((-1) : Int32) = zOut P k ix := (by first | exact (zOut_lo c_6).symm | exact (zOut_hi (Int32.not_lt.mp c_14)).symm | exact (zOut_in hj (by omega)).symm)
    refine zz_top hret ?_
    exact W.iret hx hb hr (fun tS ht hW => ⟨⟨_, (), rfl, rfl, by rw [ht]; exact hP9, va_K.moved hW.alike hK9, hD9⟩, hS.F ht⟩) hS.2.2 dX5_out_27
  ·
    refine lv_iload_n hx hb dX5_out_9 rfl (lv_at hl 1 rfl) ?_
    refine lv_aload_n hx hb dX5_out_10 rfl (lv_at hl 0 rfl) ?_
    refine va_get (D := (dC, dI)) (ci := 4) (v := .int (nI k)) (C := RX5) (T := TX5) (N := 15) hx hb hts iwX5 hown hK hP 0 rfl rfl 8 (by decide) fk66 (fun _ h9 => h9) rfl dX5_out_11 ?_
    refine lv_icmp_lt (tgt := 21) hx hb dX5_out_14 (by decide) (fun c_14 => ?_) (fun c_14 => ?_)
    ·
      obtain ⟨j, hj, ej⟩ := i_nat c_6 c_14 (by omega)
      subst ej
      refine lv_aload_n hx hb dX5_out_21 rfl (lv_at hl 0 rfl) ?_
      refine va_get (D := (dC, dI)) (ci := 4) (v := .ref qml) (C := RX5) (T := TX5) (N := 15) hx hb hts iwX5 hown hK hP 0 rfl rfl 7 (by decide) fk27 (fun _ h9 => h9) rfl dX5_out_22 ?_
      refine lv_iload_n hx hb dX5_out_25 rfl (lv_at hl 1 rfl) ?_
      refine va_iald hx hb hK hP 1 0 rfl rfl (vp_in_nI (n := j) (by omega) (by decide)) dX5_out_26 ?_
      refine zz_top (congrArg P (nI_clamp (n := j) (by omega))) ?_
      have hP9 := hP.sub (ws' := [(qm, .inr (4, [.ref qmd, .ref qmt, .int (nI n), .int (bI on), .int lf, .int (nI dn), .int pl, .ref qml, .int (nI k), .ref qmk, .int (nI mz), .ref qmh, .int (nI nh), .int (nI 0), .ref qmw])), (qml, .inl (cyI, 460, .inl P))]) [0, 1] rfl
      have hD9 := hD.sub (ws' := [(qm, .inr (4, [.ref qmd, .ref qmt, .int (nI n), .int (bI on), .int lf, .int (nI dn), .int pl, .ref qml, .int (nI k), .ref qmk, .int (nI mz), .ref qmh, .int (nI nh), .int (nI 0), .ref qmw])), (qml, .inl (cyI, 460, .inl P))]) [0, 1] (by decide) rfl
      have hK9 := hK.sub (tys' := [(cyI, .int), (cyZ, .boolean)]) [0, 1] rfl
      have hret : (P j : Int32) = zOut P k (nI j) := (by first | exact (zOut_lo c_6).symm | exact (zOut_hi (Int32.not_lt.mp c_14)).symm | exact (zOut_in hj (by omega)).symm)
      refine zz_top hret ?_
      exact W.iret hx hb hr (fun tS ht hW => ⟨⟨_, (), rfl, rfl, by rw [ht]; exact hP9, va_K.moved hW.alike hK9, hD9⟩, hS.F ht⟩) hS.2.2 dX5_out_27
    ·
      refine lv_iconst (v := (-1)) hx hb dX5_out_17 (by decide) ?_
      refine lv_goto (tgt := 27) hx hb dX5_out_18 (by decide) ?_
      have hP9 := hP.sub (ws' := [(qm, .inr (4, [.ref qmd, .ref qmt, .int (nI n), .int (bI on), .int lf, .int (nI dn), .int pl, .ref qml, .int (nI k), .ref qmk, .int (nI mz), .ref qmh, .int (nI nh), .int (nI 0), .ref qmw])), (qml, .inl (cyI, 460, .inl P))]) [0, 1] rfl
      have hD9 := hD.sub (ws' := [(qm, .inr (4, [.ref qmd, .ref qmt, .int (nI n), .int (bI on), .int lf, .int (nI dn), .int pl, .ref qml, .int (nI k), .ref qmk, .int (nI mz), .ref qmh, .int (nI nh), .int (nI 0), .ref qmw])), (qml, .inl (cyI, 460, .inl P))]) [0, 1] (by decide) rfl
      have hK9 := hK.sub (tys' := [(cyI, .int), (cyZ, .boolean)]) [0, 1] rfl
      have hret : ((-1) : Int32) = zOut P k ix := (by first | exact (zOut_lo c_6).symm | exact (zOut_hi (Int32.not_lt.mp c_14)).symm | exact (zOut_in hj (by omega)).symm)
      refine zz_top hret ?_
      exact W.iret hx hb hr (fun tS ht hW => ⟨⟨_, (), rfl, rfl, by rw [ht]; exact hP9, va_K.moved hW.alike hK9, hD9⟩, hS.F ht⟩) hS.2.2 dX5_out_27
set_option maxHeartbeats 4000000 in
set_option maxRecDepth 100000 in
theorem c_X5_place (l : Launch) (dC : Nat → ClassId) (dI : Nat → Nat → Nat) (cyI cyZ : ClassId) (qm qmd qmt qml qmk qmh qmw : Nat) (sz : Nat) (n : Nat) (on : Bool) (lf : Int32) (dn : Nat) (pl : Int32) (k mz nh : Nat) (th : Int32)  : Met l yX5_place wsX5_place ({ frames := 0, cells := 0, slots := 0, locals := 0 }) (va_Pc [.ref qm] (fun U => U.heap.size = sz ∧ va_P (dC, dI) vwCl [(qm, .inr (4, [.ref qmd, .ref qmt, .int (nI n), .int (bI on), .int lf, .int (nI dn), .int pl, .ref qml, .int (nI k), .ref qmk, .int (nI mz), .ref qmh, .int (nI nh), .int th, .ref qmw]))] U.heap ∧ va_K (dC, dI) vwCl [(cyI, .int), (cyZ, .boolean)] U ∧ va_D (fun _ => True) [(qm, .inr (4, [.ref qmd, .ref qmt, .int (nI n), .int (bI on), .int lf, .int (nI dn), .int pl, .ref qml, .int (nI k), .ref qmk, .int (nI mz), .ref qmh, .int (nI nh), .int th, .ref qmw]))])) (va_Qi (S := Unit) (fun (r : Int32) (_ : Unit) => r = pl) (fun (_ : Unit) tS => va_P (dC, dI) vwCl [(qm, .inr (4, [.ref qmd, .ref qmt, .int (nI n), .int (bI on), .int lf, .int (nI dn), .int pl, .ref qml, .int (nI k), .ref qmk, .int (nI mz), .ref qmh, .int (nI nh), .int (nI 0), .ref qmw]))] tS.heap ∧ va_K (dC, dI) vwCl [(cyI, .int), (cyZ, .boolean)] tS ∧ va_D (va_A [(qm, .inr (4, [.ref qmd, .ref qmt, .int (nI n), .int (bI on), .int lf, .int (nI dn), .int pl, .ref qml, .int (nI k), .ref qmk, .int (nI mz), .ref qmh, .int (nI nh), .int th, .ref qmw]))] sz) [(qm, .inr (4, [.ref qmd, .ref qmt, .int (nI n), .int (bI on), .int lf, .int (nI dn), .int pl, .ref qml, .int (nI k), .ref qmk, .int (nI mz), .ref qmh, .int (nI nh), .int (nI 0), .ref qmw]))]) (va_A [(qm, .inr (4, [.ref qmd, .ref qmt, .int (nI n), .int (bI on), .int lf, .int (nI dn), .int pl, .ref qml, .int (nI k), .ref qmk, .int (nI mz), .ref qmh, .int (nI nh), .int th, .ref qmw]))] sz)) 0 0 (va_A [(qm, .inr (4, [.ref qmd, .ref qmt, .int (nI n), .int (bI on), .int lf, .int (nI dn), .int pl, .ref qml, .int (nI k), .ref qmk, .int (nI mz), .ref qmh, .int (nI nh), .int th, .ref qmw]))] sz) := by
  refine Met.ofW (cc := cX5_place) (maxL := 1) (ret := (some .int)) (by decide) rfl ?_
  intro pz ez sS mM args below meth cC s₁ B hml hv
  obtain ⟨rfl, hsz, hP, hK, hD0⟩ := hv
  have hx := B.exec
  have hb := B.bytes
  have hr := B.returns
  have hts := atoms_spec (ws := wsX5_place) B.pre
  have hown : sS.vm.findClass RX5 = some mM.cls := findClass_of_methodNamed B.named
  have hlocks := B.notSynchronized
  subst hsz
  have hD := hD0.self (sz := sS.heap.size)
  generalize hAe : va_A [(qm, .inr (4, [.ref qmd, .ref qmt, .int (nI n), .int (bI on), .int lf, .int (nI dn), .int pl, .ref qml, .int (nI k), .ref qmk, .int (nI mz), .ref qmh, .int (nI nh), .int th, .ref qmw]))] sS.heap.size = A at hD ⊢
  have hA : ∀ q : Nat, sS.heap.size ≤ q → A q := fun q h => by rw [← hAe]; exact Or.inr h
  have hS : va_S A sS.heap sS.heap [] := va_S.rf
  have hP : va_P (dC, dI) vwCl [(qm, .inr (4, [.ref qmd, .ref qmt, .int (nI n), .int (bI on), .int lf, .int (nI dn), .int pl, .ref qml, .int (nI k), .ref qmk, .int (nI mz), .ref qmh, .int (nI nh), .int th, .ref qmw]))] sS.heap := hP
  have iwX5 : ∀ w ∈ wsX50, w ∈ wsX5_place := by decide +kernel
  have fk24 := hts (.fieldLink RX5 24 "CodedStoreModel" "place" "I") (by decide +kernel)
  have fk43 := hts (.fieldLink RX5 43 "CodedStoreModel" "thrown" "I") (by decide +kernel)
  have hl := lv_entry ([.ref qm]) (n := 1) (Nat.le_of_ble_eq_true rfl)
  rw [lg_entry_eq]
  generalize (lg_sl ([.ref qm]) ++ List.replicate (1 - (lg_sl ([.ref qm])).length) Slot.unset).toArray = ls at hl ⊢
  have hl : lv_has ls 1 [(0, .ref qm)] := hl
  refine lv_aload_n hx hb dX5_place_0 rfl (lv_at hl 0 rfl) ?_
  refine lv_iconst (v := nI 0) hx hb dX5_place_1 (by decide) ?_
  refine va_put (D := (dC, dI)) (ci := 4) (v := .int (nI 0)) (ty := .int) (C := RX5) (T := TX5) (N := 15) hx hb hts iwX5 tyX5 tyX5_ok nmX5 hown hK hP hD hS 0 rfl rfl 13 (by decide) fk43 (fun _ h9 => h9) rfl (by decide +kernel) rfl rfl (Nat.le_of_ble_eq_true rfl) dX5_place_2 (fun H locs hP hD hS => ?_)
  have hP : va_P (dC, dI) vwCl [(qm, .inr (4, [.ref qmd, .ref qmt, .int (nI n), .int (bI on), .int lf, .int (nI dn), .int pl, .ref qml, .int (nI k), .ref qmk, .int (nI mz), .ref qmh, .int (nI nh), .int (nI 0), .ref qmw]))] H := hP
  have hD : va_D A [(qm, .inr (4, [.ref qmd, .ref qmt, .int (nI n), .int (bI on), .int lf, .int (nI dn), .int pl, .ref qml, .int (nI k), .ref qmk, .int (nI mz), .ref qmh, .int (nI nh), .int (nI 0), .ref qmw]))] := hD
  refine lv_aload_n hx hb dX5_place_5 rfl (lv_at hl 0 rfl) ?_
  refine va_get (D := (dC, dI)) (ci := 4) (v := .int pl) (C := RX5) (T := TX5) (N := 15) hx hb hts iwX5 hown hK hP 0 rfl rfl 6 (by decide) fk24 (fun _ h9 => h9) rfl dX5_place_6 ?_
  have hP9 := hP.sub (ws' := [(qm, .inr (4, [.ref qmd, .ref qmt, .int (nI n), .int (bI on), .int lf, .int (nI dn), .int pl, .ref qml, .int (nI k), .ref qmk, .int (nI mz), .ref qmh, .int (nI nh), .int (nI 0), .ref qmw]))]) [0] rfl
  have hD9 := hD.sub (ws' := [(qm, .inr (4, [.ref qmd, .ref qmt, .int (nI n), .int (bI on), .int lf, .int (nI dn), .int pl, .ref qml, .int (nI k), .ref qmk, .int (nI mz), .ref qmh, .int (nI nh), .int (nI 0), .ref qmw]))]) [0] (by decide) rfl
  have hK9 := hK.sub (tys' := [(cyI, .int), (cyZ, .boolean)]) [0, 1] rfl
  exact W.iret hx hb hr (fun tS ht hW => ⟨⟨_, (), rfl, rfl, by rw [ht]; exact hP9, va_K.moved hW.alike hK9, hD9⟩, hS.F ht⟩) hS.2.2 dX5_place_9
set_option maxHeartbeats 4000000 in
set_option maxRecDepth 100000 in
theorem c_X5_pack (l : Launch) (dC : Nat → ClassId) (dI : Nat → Nat → Nat) (cyI cyZ : ClassId) (qm qmt qml qmk qmh qmd qmw : Nat) (sz : Nat) (n : Nat) (on : Bool) (lf : Int32) (dn : Nat) (pl : Int32) (k mz nh : Nat) (th : Int32) (T : Nat → Int32) (P : Nat → Int32) (M : Nat → Int32) (Hd : Nat → Int32) (hn : n ≤ 400) : Met l yX5_pack wsX5_pack ({ frames := 2, cells := 0, slots := 0, locals := 50 }) (va_Pc [.ref qm] (fun U => U.heap.size = sz ∧ va_P (dC, dI) vwCl [(qm, .inr (4, [.ref qmd, .ref qmt, .int (nI n), .int (bI on), .int lf, .int (nI dn), .int pl, .ref qml, .int (nI k), .ref qmk, .int (nI mz), .ref qmh, .int (nI nh), .int th, .ref qmw])), (qmt, .inl (cyI, 400, .inl T)), (qml, .inl (cyI, 460, .inl P)), (qmk, .inl (cyI, 460, .inl M)), (qmh, .inl (cyI, 460, .inl Hd))] U.heap ∧ va_K (dC, dI) vwCl [(cyI, .int), (cyZ, .boolean)] U ∧ va_D (fun _ => True) [(qm, .inr (4, [.ref qmd, .ref qmt, .int (nI n), .int (bI on), .int lf, .int (nI dn), .int pl, .ref qml, .int (nI k), .ref qmk, .int (nI mz), .ref qmh, .int (nI nh), .int th, .ref qmw])), (qmt, .inl (cyI, 400, .inl T)), (qml, .inl (cyI, 460, .inl P)), (qmk, .inl (cyI, 460, .inl M)), (qmh, .inl (cyI, 460, .inl Hd))])) (va_Qi (S := Nat × (Nat → Int32) × (Nat → Int32) × (Nat → Int32) × Nat) (fun (r : Int32) (uU : Nat × (Nat → Int32) × (Nat → Int32) × (Nat → Int32) × Nat) => match uU with | (k1, P1, M1, H1, nh1) => r = nI k1 ∧ (k1 = (zE T n).1) ∧ (∀ j, j < k1 → P1 j = (zE T n).2 j)) (fun (uU : Nat × (Nat → Int32) × (Nat → Int32) × (Nat → Int32) × Nat) tS => match uU with | (k1, P1, M1, H1, nh1) => va_P (dC, dI) vwCl [(qm, .inr (4, [.ref qmd, .ref qmt, .int (nI 0), .int (bI on), .int lf, .int (nI dn), .int pl, .ref qml, .int (nI k1), .ref qmk, .int (nI k1), .ref qmh, .int (nI nh1), .int (nI 0), .ref qmw])), (qmt, .inl (cyI, 400, .inl T)), (qml, .inl (cyI, 460, .inl P1)), (qmk, .inl (cyI, 460, .inl M1)), (qmh, .inl (cyI, 460, .inl H1))] tS.heap ∧ va_K (dC, dI) vwCl [(cyI, .int), (cyZ, .boolean)] tS ∧ va_D (va_A [(qm, .inr (4, [.ref qmd, .ref qmt, .int (nI n), .int (bI on), .int lf, .int (nI dn), .int pl, .ref qml, .int (nI k), .ref qmk, .int (nI mz), .ref qmh, .int (nI nh), .int th, .ref qmw])), (qmt, .inl (cyI, 400, .inl T)), (qml, .inl (cyI, 460, .inl P)), (qmk, .inl (cyI, 460, .inl M)), (qmh, .inl (cyI, 460, .inl Hd))] sz) [(qm, .inr (4, [.ref qmd, .ref qmt, .int (nI 0), .int (bI on), .int lf, .int (nI dn), .int pl, .ref qml, .int (nI k1), .ref qmk, .int (nI k1), .ref qmh, .int (nI nh1), .int (nI 0), .ref qmw])), (qmt, .inl (cyI, 400, .inl T)), (qml, .inl (cyI, 460, .inl P1)), (qmk, .inl (cyI, 460, .inl M1)), (qmh, .inl (cyI, 460, .inl H1))]) (va_A [(qm, .inr (4, [.ref qmd, .ref qmt, .int (nI n), .int (bI on), .int lf, .int (nI dn), .int pl, .ref qml, .int (nI k), .ref qmk, .int (nI mz), .ref qmh, .int (nI nh), .int th, .ref qmw])), (qmt, .inl (cyI, 400, .inl T)), (qml, .inl (cyI, 460, .inl P)), (qmk, .inl (cyI, 460, .inl M)), (qmh, .inl (cyI, 460, .inl Hd))] sz)) 0 0 (va_A [(qm, .inr (4, [.ref qmd, .ref qmt, .int (nI n), .int (bI on), .int lf, .int (nI dn), .int pl, .ref qml, .int (nI k), .ref qmk, .int (nI mz), .ref qmh, .int (nI nh), .int th, .ref qmw])), (qmt, .inl (cyI, 400, .inl T)), (qml, .inl (cyI, 460, .inl P)), (qmk, .inl (cyI, 460, .inl M)), (qmh, .inl (cyI, 460, .inl Hd))] sz) := by
  refine Met.ofW (cc := cX5_pack) (maxL := 1) (ret := (some .int)) (by decide) rfl ?_
  intro pz ez sS mM args below meth cC s₁ B hml hv
  obtain ⟨rfl, hsz, hP, hK, hD0⟩ := hv
  have hx := B.exec
  have hb := B.bytes
  have hr := B.returns
  have hts := atoms_spec (ws := wsX5_pack) B.pre
  have hown : sS.vm.findClass RX5 = some mM.cls := findClass_of_methodNamed B.named
  have hlocks := B.notSynchronized
  subst hsz
  have hD := hD0.self (sz := sS.heap.size)
  generalize hAe : va_A [(qm, .inr (4, [.ref qmd, .ref qmt, .int (nI n), .int (bI on), .int lf, .int (nI dn), .int pl, .ref qml, .int (nI k), .ref qmk, .int (nI mz), .ref qmh, .int (nI nh), .int th, .ref qmw])), (qmt, .inl (cyI, 400, .inl T)), (qml, .inl (cyI, 460, .inl P)), (qmk, .inl (cyI, 460, .inl M)), (qmh, .inl (cyI, 460, .inl Hd))] sS.heap.size = A at hD ⊢
  have hA : ∀ q : Nat, sS.heap.size ≤ q → A q := fun q h => by rw [← hAe]; exact Or.inr h
  have hS : va_S A sS.heap sS.heap [] := va_S.rf
  have hP : va_P (dC, dI) vwCl [(qm, .inr (4, [.ref qmd, .ref qmt, .int (nI n), .int (bI on), .int lf, .int (nI dn), .int pl, .ref qml, .int (nI k), .ref qmk, .int (nI mz), .ref qmh, .int (nI nh), .int th, .ref qmw])), (qmt, .inl (cyI, 400, .inl T)), (qml, .inl (cyI, 460, .inl P)), (qmk, .inl (cyI, 460, .inl M)), (qmh, .inl (cyI, 460, .inl Hd))] sS.heap := hP
  have iwX5 : ∀ w ∈ wsX50, w ∈ wsX5_pack := by decide +kernel
  have fk43 := hts (.fieldLink RX5 43 "CodedStoreModel" "thrown" "I") (by decide +kernel)
  have fk66 := hts (.fieldLink RX5 66 "CodedStoreModel" "loadedSize" "I") (by decide +kernel)
  have hl := lv_entry ([.ref qm]) (n := 1) (Nat.le_of_ble_eq_true rfl)
  rw [lg_entry_eq]
  generalize (lg_sl ([.ref qm]) ++ List.replicate (1 - (lg_sl ([.ref qm])).length) Slot.unset).toArray = ls at hl ⊢
  have hl : lv_has ls 1 [(0, .ref qm)] := hl
  refine lv_aload_n hx hb dX5_pack_0 rfl (lv_at hl 0 rfl) ?_
  refine lv_iconst (v := nI 0) hx hb dX5_pack_1 (by decide) ?_
  refine va_put (D := (dC, dI)) (ci := 4) (v := .int (nI 0)) (ty := .int) (C := RX5) (T := TX5) (N := 15) hx hb hts iwX5 tyX5 tyX5_ok nmX5 hown hK hP hD hS 0 rfl rfl 13 (by decide) fk43 (fun _ h9 => h9) rfl (by decide +kernel) rfl rfl (Nat.le_of_ble_eq_true rfl) dX5_pack_2 (fun H locs hP hD hS => ?_)
  have hP : va_P (dC, dI) vwCl [(qm, .inr (4, [.ref qmd, .ref qmt, .int (nI n), .int (bI on), .int lf, .int (nI dn), .int pl, .ref qml, .int (nI k), .ref qmk, .int (nI mz), .ref qmh, .int (nI nh), .int (nI 0), .ref qmw])), (qmt, .inl (cyI, 400, .inl T)), (qml, .inl (cyI, 460, .inl P)), (qmk, .inl (cyI, 460, .inl M)), (qmh, .inl (cyI, 460, .inl Hd))] H := hP
  have hD : va_D A [(qm, .inr (4, [.ref qmd, .ref qmt, .int (nI n), .int (bI on), .int lf, .int (nI dn), .int pl, .ref qml, .int (nI k), .ref qmk, .int (nI mz), .ref qmh, .int (nI nh), .int (nI 0), .ref qmw])), (qmt, .inl (cyI, 400, .inl T)), (qml, .inl (cyI, 460, .inl P)), (qmk, .inl (cyI, 460, .inl M)), (qmh, .inl (cyI, 460, .inl Hd))] := hD
  refine lv_aload_n hx hb dX5_pack_5 rfl (lv_at hl 0 rfl) ?_
  have hPc := hP.sub (ws' := [(qm, .inr (4, [.ref qmd, .ref qmt, .int (nI n), .int (bI on), .int lf, .int (nI dn), .int pl, .ref qml, .int (nI k), .ref qmk, .int (nI mz), .ref qmh, .int (nI nh), .int (nI 0), .ref qmw])), (qmt, .inl (cyI, 400, .inl T)), (qmh, .inl (cyI, 460, .inl Hd))]) [0, 1, 4] rfl
  have hKc := hK.sub (tys' := [(cyI, .int), (cyZ, .boolean)]) [0, 1] rfl
  have hDc := hD.sub (ws' := [(qm, .inr (4, [.ref qmd, .ref qmt, .int (nI n), .int (bI on), .int lf, .int (nI dn), .int pl, .ref qml, .int (nI k), .ref qmk, .int (nI mz), .ref qmh, .int (nI nh), .int (nI 0), .ref qmw])), (qmt, .inl (cyI, 400, .inl T)), (qmh, .inl (cyI, 460, .inl Hd))]) [0, 1, 4] (by decide) rfl
  have hFc := va_free (wc := [(qm, .inr (4, [.ref qmd, .ref qmt, .int (nI n), .int (bI on), .int lf, .int (nI dn), .int pl, .ref qml, .int (nI k), .ref qmk, .int (nI mz), .ref qmh, .int (nI nh), .int (nI 0), .ref qmw])), (qmt, .inl (cyI, 400, .inl T)), (qmh, .inl (cyI, 460, .inl Hd))]) hD hS hA [0, 1, 4] rfl
  refine va_callv (va_runV (As := []) (rest := []) ⟨hx, hb, hml, hown, hts⟩ (c_X5_takeTape l dC dI cyI cyZ qm qmt qmh qmd qml qmk qmw H.size n on lf dn pl k mz nh (nI 0) T Hd (by omega)) (cwV 0 hts gX5_pack_X5_takeTape rfl rfl rfl (by decide +kernel) ⟨Nat.le_of_ble_eq_true rfl, Nat.le_of_ble_eq_true rfl⟩) ⟨zz_blW, va_recv hKc hPc (ci := 4) (q0 := 0) rfl rfl, fun U hU hW => ⟨rfl, by rw [hU], by rw [hU]; exact hPc, va_K.moved hW.alike hKc, hDc.weaken (fun _ _ _ _ => trivial)⟩⟩ rfl rfl hl.1 rfl (lv_room (Nat.le_of_ble_eq_true rfl)) dX5_pack_6 ⟨Nat.zero_le _, Nat.zero_le _⟩) hS (fun q _ h => hFc q h) hFc (fun uU tS H1 locs ht9 hvm9 hw9 hB9 hz1 hk1 hS => ?_)
  obtain ⟨H1_6, rfl⟩ : ∃ z, z = uU := ⟨_, rfl⟩
  obtain ⟨hP1, hK1, hD1⟩ := hB9
  have hw9 : (∀ j, j < n → H1_6 j = T j) := hw9
  have hH1_6 := hw9
  rw [ht9] at hP1
  have hK1 := va_K.moved hvm9.symm hK1
  obtain ⟨hP, hD⟩ := va_join (wr := [(qml, .inl (cyI, 460, .inl P)), (qmk, .inl (cyI, 460, .inl M))]) (w1 := [(qm, .inr (4, [.ref qmd, .ref qmt, .int (nI 0), .int (bI on), .int lf, .int (nI dn), .int pl, .ref qml, .int (nI k), .ref qmk, .int (nI mz), .ref qmh, .int (nI n), .int (nI 0), .ref qmw])), (qmt, .inl (cyI, 400, .inl T)), (qmh, .inl (cyI, 460, .inl H1_6))]) hP hD [0, 1, 4] [2, 3] rfl rfl (by decide) (by decide) hk1 hFc hP1 hD1
  generalize H1 = H at hP hS ⊢
  have hP : va_P (dC, dI) vwCl [(qml, .inl (cyI, 460, .inl P)), (qmk, .inl (cyI, 460, .inl M)), (qm, .inr (4, [.ref qmd, .ref qmt, .int (nI 0), .int (bI on), .int lf, .int (nI dn), .int pl, .ref qml, .int (nI k), .ref qmk, .int (nI mz), .ref qmh, .int (nI n), .int (nI 0), .ref qmw])), (qmt, .inl (cyI, 400, .inl T)), (qmh, .inl (cyI, 460, .inl H1_6))] H := hP
  have hD : va_D A [(qml, .inl (cyI, 460, .inl P)), (qmk, .inl (cyI, 460, .inl M)), (qm, .inr (4, [.ref qmd, .ref qmt, .int (nI 0), .int (bI on), .int lf, .int (nI dn), .int pl, .ref qml, .int (nI k), .ref qmk, .int (nI mz), .ref qmh, .int (nI n), .int (nI 0), .ref qmw])), (qmt, .inl (cyI, 400, .inl T)), (qmh, .inl (cyI, 460, .inl H1_6))] := hD
  refine lv_aload_n hx hb dX5_pack_9 rfl (lv_at hl 0 rfl) ?_
  have hPc := hP.sub (ws' := [(qm, .inr (4, [.ref qmd, .ref qmt, .int (nI 0), .int (bI on), .int lf, .int (nI dn), .int pl, .ref qml, .int (nI k), .ref qmk, .int (nI mz), .ref qmh, .int (nI n), .int (nI 0), .ref qmw])), (qmk, .inl (cyI, 460, .inl M)), (qmh, .inl (cyI, 460, .inl H1_6))]) [2, 1, 4] rfl
  have hKc := hK.sub (tys' := [(cyI, .int), (cyZ, .boolean)]) [0, 1] rfl
  have hDc := hD.sub (ws' := [(qm, .inr (4, [.ref qmd, .ref qmt, .int (nI 0), .int (bI on), .int lf, .int (nI dn), .int pl, .ref qml, .int (nI k), .ref qmk, .int (nI mz), .ref qmh, .int (nI n), .int (nI 0), .ref qmw])), (qmk, .inl (cyI, 460, .inl M)), (qmh, .inl (cyI, 460, .inl H1_6))]) [2, 1, 4] (by decide) rfl
  have hFc := va_free (wc := [(qm, .inr (4, [.ref qmd, .ref qmt, .int (nI 0), .int (bI on), .int lf, .int (nI dn), .int pl, .ref qml, .int (nI k), .ref qmk, .int (nI mz), .ref qmh, .int (nI n), .int (nI 0), .ref qmw])), (qmk, .inl (cyI, 460, .inl M)), (qmh, .inl (cyI, 460, .inl H1_6))]) hD hS hA [2, 1, 4] rfl
  refine va_callv (va_runV (As := []) (rest := []) ⟨hx, hb, hml, hown, hts⟩ (c_X5_code l dC dI cyI cyZ qm qmk qmh qmd qmt qml qmw H.size 0 on lf dn pl k mz n (nI 0) M H1_6 (by omega)) (cwV 0 hts gX5_pack_X5_code rfl rfl rfl (by decide +kernel) ⟨Nat.le_of_ble_eq_true rfl, Nat.le_of_ble_eq_true rfl⟩) ⟨zz_blW, va_recv hKc hPc (ci := 4) (q0 := 0) rfl rfl, fun U hU hW => ⟨rfl, by rw [hU], by rw [hU]; exact hPc, va_K.moved hW.alike hKc, hDc.weaken (fun _ _ _ _ => trivial)⟩⟩ rfl rfl hl.1 rfl (lv_room (Nat.le_of_ble_eq_true rfl)) dX5_pack_10 ⟨Nat.zero_le _, Nat.zero_le _⟩) hS (fun q _ h => hFc q h) hFc (fun uU tS H1 locs ht9 hvm9 hw9 hB9 hz1 hk1 hS => ?_)
  obtain ⟨m1_10, M1_10⟩ := uU
  obtain ⟨hP1, hK1, hD1⟩ := hB9
  have hw9 : (m1_10 = (zE H1_6 n).1) ∧ (∀ j, j < m1_10 → M1_10 j = (zE H1_6 n).2 j) ∧ (m1_10 ≤ 450) := hw9
  obtain ⟨hm1_10, hM1_10, hmm_10⟩ := hw9
  rw [ht9] at hP1
  have hK1 := va_K.moved hvm9.symm hK1
  obtain ⟨hP, hD⟩ := va_join (wr := [(qml, .inl (cyI, 460, .inl P)), (qmt, .inl (cyI, 400, .inl T))]) (w1 := [(qm, .inr (4, [.ref qmd, .ref qmt, .int (nI 0), .int (bI on), .int lf, .int (nI dn), .int pl, .ref qml, .int (nI k), .ref qmk, .int (nI m1_10), .ref qmh, .int (nI n), .int (nI 0), .ref qmw])), (qmk, .inl (cyI, 460, .inl M1_10)), (qmh, .inl (cyI, 460, .inl H1_6))]) hP hD [2, 1, 4] [0, 3] rfl rfl (by decide) (by decide) hk1 hFc hP1 hD1
  generalize H1 = H at hP hS ⊢
  have hP : va_P (dC, dI) vwCl [(qml, .inl (cyI, 460, .inl P)), (qmt, .inl (cyI, 400, .inl T)), (qm, .inr (4, [.ref qmd, .ref qmt, .int (nI 0), .int (bI on), .int lf, .int (nI dn), .int pl, .ref qml, .int (nI k), .ref qmk, .int (nI m1_10), .ref qmh, .int (nI n), .int (nI 0), .ref qmw])), (qmk, .inl (cyI, 460, .inl M1_10)), (qmh, .inl (cyI, 460, .inl H1_6))] H := hP
  have hD : va_D A [(qml, .inl (cyI, 460, .inl P)), (qmt, .inl (cyI, 400, .inl T)), (qm, .inr (4, [.ref qmd, .ref qmt, .int (nI 0), .int (bI on), .int lf, .int (nI dn), .int pl, .ref qml, .int (nI k), .ref qmk, .int (nI m1_10), .ref qmh, .int (nI n), .int (nI 0), .ref qmw])), (qmk, .inl (cyI, 460, .inl M1_10)), (qmh, .inl (cyI, 460, .inl H1_6))] := hD
  refine lv_aload_n hx hb dX5_pack_13 rfl (lv_at hl 0 rfl) ?_
  have hPc := hP.sub (ws' := [(qm, .inr (4, [.ref qmd, .ref qmt, .int (nI 0), .int (bI on), .int lf, .int (nI dn), .int pl, .ref qml, .int (nI k), .ref qmk, .int (nI m1_10), .ref qmh, .int (nI n), .int (nI 0), .ref qmw])), (qml, .inl (cyI, 460, .inl P)), (qmk, .inl (cyI, 460, .inl M1_10))]) [2, 0, 3] rfl
  have hKc := hK.sub (tys' := [(cyI, .int), (cyZ, .boolean)]) [0, 1] rfl
  have hDc := hD.sub (ws' := [(qm, .inr (4, [.ref qmd, .ref qmt, .int (nI 0), .int (bI on), .int lf, .int (nI dn), .int pl, .ref qml, .int (nI k), .ref qmk, .int (nI m1_10), .ref qmh, .int (nI n), .int (nI 0), .ref qmw])), (qml, .inl (cyI, 460, .inl P)), (qmk, .inl (cyI, 460, .inl M1_10))]) [2, 0, 3] (by decide) rfl
  have hFc := va_free (wc := [(qm, .inr (4, [.ref qmd, .ref qmt, .int (nI 0), .int (bI on), .int lf, .int (nI dn), .int pl, .ref qml, .int (nI k), .ref qmk, .int (nI m1_10), .ref qmh, .int (nI n), .int (nI 0), .ref qmw])), (qml, .inl (cyI, 460, .inl P)), (qmk, .inl (cyI, 460, .inl M1_10))]) hD hS hA [2, 0, 3] rfl
  refine va_callv (va_runV (As := []) (rest := []) ⟨hx, hb, hml, hown, hts⟩ (c_X5_load0 l dC dI cyI cyZ qm qml qmk qmd qmt qmh qmw H.size 0 on lf dn pl k m1_10 n (nI 0) P M1_10 (by omega)) (cwV 0 hts gX5_pack_X5_load0 rfl rfl rfl (by decide +kernel) ⟨Nat.le_of_ble_eq_true rfl, Nat.le_of_ble_eq_true rfl⟩) ⟨zz_blW, va_recv hKc hPc (ci := 4) (q0 := 0) rfl rfl, fun U hU hW => ⟨rfl, by rw [hU], by rw [hU]; exact hPc, va_K.moved hW.alike hKc, hDc.weaken (fun _ _ _ _ => trivial)⟩⟩ rfl rfl hl.1 rfl (lv_room (Nat.le_of_ble_eq_true rfl)) dX5_pack_14 ⟨Nat.zero_le _, Nat.zero_le _⟩) hS (fun q _ h => hFc q h) hFc (fun uU tS H1 locs ht9 hvm9 hw9 hB9 hz1 hk1 hS => ?_)
  obtain ⟨P1_14, rfl⟩ : ∃ z, z = uU := ⟨_, rfl⟩
  obtain ⟨hP1, hK1, hD1⟩ := hB9
  have hw9 : (∀ j, j < m1_10 → P1_14 j = M1_10 j) := hw9
  have hP1_14 := hw9
  rw [ht9] at hP1
  have hK1 := va_K.moved hvm9.symm hK1
  obtain ⟨hP, hD⟩ := va_join (wr := [(qmt, .inl (cyI, 400, .inl T)), (qmh, .inl (cyI, 460, .inl H1_6))]) (w1 := [(qm, .inr (4, [.ref qmd, .ref qmt, .int (nI 0), .int (bI on), .int lf, .int (nI dn), .int pl, .ref qml, .int (nI m1_10), .ref qmk, .int (nI m1_10), .ref qmh, .int (nI n), .int (nI 0), .ref qmw])), (qml, .inl (cyI, 460, .inl P1_14)), (qmk, .inl (cyI, 460, .inl M1_10))]) hP hD [2, 0, 3] [1, 4] rfl rfl (by decide) (by decide) hk1 hFc hP1 hD1
  generalize H1 = H at hP hS ⊢
  have hP : va_P (dC, dI) vwCl [(qmt, .inl (cyI, 400, .inl T)), (qmh, .inl (cyI, 460, .inl H1_6)), (qm, .inr (4, [.ref qmd, .ref qmt, .int (nI 0), .int (bI on), .int lf, .int (nI dn), .int pl, .ref qml, .int (nI m1_10), .ref qmk, .int (nI m1_10), .ref qmh, .int (nI n), .int (nI 0), .ref qmw])), (qml, .inl (cyI, 460, .inl P1_14)), (qmk, .inl (cyI, 460, .inl M1_10))] H := hP
  have hD : va_D A [(qmt, .inl (cyI, 400, .inl T)), (qmh, .inl (cyI, 460, .inl H1_6)), (qm, .inr (4, [.ref qmd, .ref qmt, .int (nI 0), .int (bI on), .int lf, .int (nI dn), .int pl, .ref qml, .int (nI m1_10), .ref qmk, .int (nI m1_10), .ref qmh, .int (nI n), .int (nI 0), .ref qmw])), (qml, .inl (cyI, 460, .inl P1_14)), (qmk, .inl (cyI, 460, .inl M1_10))] := hD
  refine lv_aload_n hx hb dX5_pack_17 rfl (lv_at hl 0 rfl) ?_
  refine va_get (D := (dC, dI)) (ci := 4) (v := .int (nI m1_10)) (C := RX5) (T := TX5) (N := 15) hx hb hts iwX5 hown hK hP 2 rfl rfl 8 (by decide) fk66 (fun _ h9 => h9) rfl dX5_pack_18 ?_
  have eE : zE H1_6 n = zE T n := zE_cong hH1_6
  rw [eE] at hm1_10 hM1_10
  have hP9 := hP.sub (ws' := [(qm, .inr (4, [.ref qmd, .ref qmt, .int (nI 0), .int (bI on), .int lf, .int (nI dn), .int pl, .ref qml, .int (nI m1_10), .ref qmk, .int (nI m1_10), .ref qmh, .int (nI n), .int (nI 0), .ref qmw])), (qmt, .inl (cyI, 400, .inl T)), (qml, .inl (cyI, 460, .inl P1_14)), (qmk, .inl (cyI, 460, .inl M1_10)), (qmh, .inl (cyI, 460, .inl H1_6))]) [2, 0, 3, 4, 1] rfl
  have hD9 := hD.sub (ws' := [(qm, .inr (4, [.ref qmd, .ref qmt, .int (nI 0), .int (bI on), .int lf, .int (nI dn), .int pl, .ref qml, .int (nI m1_10), .ref qmk, .int (nI m1_10), .ref qmh, .int (nI n), .int (nI 0), .ref qmw])), (qmt, .inl (cyI, 400, .inl T)), (qml, .inl (cyI, 460, .inl P1_14)), (qmk, .inl (cyI, 460, .inl M1_10)), (qmh, .inl (cyI, 460, .inl H1_6))]) [2, 0, 3, 4, 1] (by decide) rfl
  have hK9 := hK.sub (tys' := [(cyI, .int), (cyZ, .boolean)]) [0, 1] rfl
  exact W.iret hx hb hr (fun tS ht hW => ⟨⟨_, (m1_10, P1_14, M1_10, H1_6, n), rfl, ⟨rfl, hm1_10, fun j hj => (hP1_14 j hj).trans (hM1_10 j hj)⟩, by rw [ht]; exact hP9, va_K.moved hW.alike hK9, hD9⟩, hS.F ht⟩) hS.2.2 dX5_pack_21
set_option maxHeartbeats 4000000 in
set_option maxRecDepth 100000 in
theorem c_X5_unpack (l : Launch) (dC : Nat → ClassId) (dI : Nat → Nat → Nat) (cyI cyZ : ClassId) (qm qmt qml qmk qmh qmd qmw : Nat) (sz : Nat) (n : Nat) (on : Bool) (lf : Int32) (dn : Nat) (pl : Int32) (k mz nh : Nat) (th : Int32) (T : Nat → Int32) (P : Nat → Int32) (M : Nat → Int32) (Hd : Nat → Int32) (hn : n ≤ 400) (HT : ∀ j, j < n → zO (T j)) : Met l yX5_unpack wsX5_unpack ({ frames := 2, cells := 0, slots := 0, locals := 48 }) (va_Pc [.ref qm] (fun U => U.heap.size = sz ∧ va_P (dC, dI) vwCl [(qm, .inr (4, [.ref qmd, .ref qmt, .int (nI n), .int (bI on), .int lf, .int (nI dn), .int pl, .ref qml, .int (nI k), .ref qmk, .int (nI mz), .ref qmh, .int (nI nh), .int th, .ref qmw])), (qmt, .inl (cyI, 400, .inl T)), (qml, .inl (cyI, 460, .inl P)), (qmk, .inl (cyI, 460, .inl M)), (qmh, .inl (cyI, 460, .inl Hd))] U.heap ∧ va_K (dC, dI) vwCl [(cyI, .int), (cyZ, .boolean)] U ∧ va_D (fun _ => True) [(qm, .inr (4, [.ref qmd, .ref qmt, .int (nI n), .int (bI on), .int lf, .int (nI dn), .int pl, .ref qml, .int (nI k), .ref qmk, .int (nI mz), .ref qmh, .int (nI nh), .int th, .ref qmw])), (qmt, .inl (cyI, 400, .inl T)), (qml, .inl (cyI, 460, .inl P)), (qmk, .inl (cyI, 460, .inl M)), (qmh, .inl (cyI, 460, .inl Hd))])) (va_Qi (S := Nat × (Nat → Int32) × Nat × (Nat → Int32) × (Nat → Int32) × Nat × Int32) (fun (r : Int32) (uU : Nat × (Nat → Int32) × Nat × (Nat → Int32) × (Nat → Int32) × Nat × Int32) => match uU with | (k1, P1, mz1, M1, H1, nh1, pl1) => (((zD T n).1 = 0 ∧ r = nI k1 ∧ k1 = (zD T n).2.1 ∧ (∀ j, j < k1 → P1 j = (zD T n).2.2 j) ∧ pl1 = pl) ∨ (¬ (zD T n).1 = 0 ∧ r = (-1) ∧ k1 = k ∧ P1 = P ∧ pl1 = zPl (zD T n).1))) (fun (uU : Nat × (Nat → Int32) × Nat × (Nat → Int32) × (Nat → Int32) × Nat × Int32) tS => match uU with | (k1, P1, mz1, M1, H1, nh1, pl1) => va_P (dC, dI) vwCl [(qm, .inr (4, [.ref qmd, .ref qmt, .int (nI 0), .int (bI on), .int lf, .int (nI dn), .int pl1, .ref qml, .int (nI k1), .ref qmk, .int (nI mz1), .ref qmh, .int (nI nh1), .int (nI 0), .ref qmw])), (qmt, .inl (cyI, 400, .inl T)), (qml, .inl (cyI, 460, .inl P1)), (qmk, .inl (cyI, 460, .inl M1)), (qmh, .inl (cyI, 460, .inl H1))] tS.heap ∧ va_K (dC, dI) vwCl [(cyI, .int), (cyZ, .boolean)] tS ∧ va_D (va_A [(qm, .inr (4, [.ref qmd, .ref qmt, .int (nI n), .int (bI on), .int lf, .int (nI dn), .int pl, .ref qml, .int (nI k), .ref qmk, .int (nI mz), .ref qmh, .int (nI nh), .int th, .ref qmw])), (qmt, .inl (cyI, 400, .inl T)), (qml, .inl (cyI, 460, .inl P)), (qmk, .inl (cyI, 460, .inl M)), (qmh, .inl (cyI, 460, .inl Hd))] sz) [(qm, .inr (4, [.ref qmd, .ref qmt, .int (nI 0), .int (bI on), .int lf, .int (nI dn), .int pl1, .ref qml, .int (nI k1), .ref qmk, .int (nI mz1), .ref qmh, .int (nI nh1), .int (nI 0), .ref qmw])), (qmt, .inl (cyI, 400, .inl T)), (qml, .inl (cyI, 460, .inl P1)), (qmk, .inl (cyI, 460, .inl M1)), (qmh, .inl (cyI, 460, .inl H1))]) (va_A [(qm, .inr (4, [.ref qmd, .ref qmt, .int (nI n), .int (bI on), .int lf, .int (nI dn), .int pl, .ref qml, .int (nI k), .ref qmk, .int (nI mz), .ref qmh, .int (nI nh), .int th, .ref qmw])), (qmt, .inl (cyI, 400, .inl T)), (qml, .inl (cyI, 460, .inl P)), (qmk, .inl (cyI, 460, .inl M)), (qmh, .inl (cyI, 460, .inl Hd))] sz)) 0 0 (va_A [(qm, .inr (4, [.ref qmd, .ref qmt, .int (nI n), .int (bI on), .int lf, .int (nI dn), .int pl, .ref qml, .int (nI k), .ref qmk, .int (nI mz), .ref qmh, .int (nI nh), .int th, .ref qmw])), (qmt, .inl (cyI, 400, .inl T)), (qml, .inl (cyI, 460, .inl P)), (qmk, .inl (cyI, 460, .inl M)), (qmh, .inl (cyI, 460, .inl Hd))] sz) := by
  refine Met.ofW (cc := cX5_unpack) (maxL := 1) (ret := (some .int)) (by decide) rfl ?_
  intro pz ez sS mM args below meth cC s₁ B hml hv
  obtain ⟨rfl, hsz, hP, hK, hD0⟩ := hv
  have hx := B.exec
  have hb := B.bytes
  have hr := B.returns
  have hts := atoms_spec (ws := wsX5_unpack) B.pre
  have hown : sS.vm.findClass RX5 = some mM.cls := findClass_of_methodNamed B.named
  have hlocks := B.notSynchronized
  subst hsz
  have hD := hD0.self (sz := sS.heap.size)
  generalize hAe : va_A [(qm, .inr (4, [.ref qmd, .ref qmt, .int (nI n), .int (bI on), .int lf, .int (nI dn), .int pl, .ref qml, .int (nI k), .ref qmk, .int (nI mz), .ref qmh, .int (nI nh), .int th, .ref qmw])), (qmt, .inl (cyI, 400, .inl T)), (qml, .inl (cyI, 460, .inl P)), (qmk, .inl (cyI, 460, .inl M)), (qmh, .inl (cyI, 460, .inl Hd))] sS.heap.size = A at hD ⊢
  have hA : ∀ q : Nat, sS.heap.size ≤ q → A q := fun q h => by rw [← hAe]; exact Or.inr h
  have hS : va_S A sS.heap sS.heap [] := va_S.rf
  have hP : va_P (dC, dI) vwCl [(qm, .inr (4, [.ref qmd, .ref qmt, .int (nI n), .int (bI on), .int lf, .int (nI dn), .int pl, .ref qml, .int (nI k), .ref qmk, .int (nI mz), .ref qmh, .int (nI nh), .int th, .ref qmw])), (qmt, .inl (cyI, 400, .inl T)), (qml, .inl (cyI, 460, .inl P)), (qmk, .inl (cyI, 460, .inl M)), (qmh, .inl (cyI, 460, .inl Hd))] sS.heap := hP
  have iwX5 : ∀ w ∈ wsX50, w ∈ wsX5_unpack := by decide +kernel
  have fk43 := hts (.fieldLink RX5 43 "CodedStoreModel" "thrown" "I") (by decide +kernel)
  have fk66 := hts (.fieldLink RX5 66 "CodedStoreModel" "loadedSize" "I") (by decide +kernel)
  have hl := lv_entry ([.ref qm]) (n := 1) (Nat.le_of_ble_eq_true rfl)
  rw [lg_entry_eq]
  generalize (lg_sl ([.ref qm]) ++ List.replicate (1 - (lg_sl ([.ref qm])).length) Slot.unset).toArray = ls at hl ⊢
  have hl : lv_has ls 1 [(0, .ref qm)] := hl
  refine lv_aload_n hx hb dX5_unpack_0 rfl (lv_at hl 0 rfl) ?_
  refine lv_iconst (v := nI 0) hx hb dX5_unpack_1 (by decide) ?_
  refine va_put (D := (dC, dI)) (ci := 4) (v := .int (nI 0)) (ty := .int) (C := RX5) (T := TX5) (N := 15) hx hb hts iwX5 tyX5 tyX5_ok nmX5 hown hK hP hD hS 0 rfl rfl 13 (by decide) fk43 (fun _ h9 => h9) rfl (by decide +kernel) rfl rfl (Nat.le_of_ble_eq_true rfl) dX5_unpack_2 (fun H locs hP hD hS => ?_)
  have hP : va_P (dC, dI) vwCl [(qm, .inr (4, [.ref qmd, .ref qmt, .int (nI n), .int (bI on), .int lf, .int (nI dn), .int pl, .ref qml, .int (nI k), .ref qmk, .int (nI mz), .ref qmh, .int (nI nh), .int (nI 0), .ref qmw])), (qmt, .inl (cyI, 400, .inl T)), (qml, .inl (cyI, 460, .inl P)), (qmk, .inl (cyI, 460, .inl M)), (qmh, .inl (cyI, 460, .inl Hd))] H := hP
  have hD : va_D A [(qm, .inr (4, [.ref qmd, .ref qmt, .int (nI n), .int (bI on), .int lf, .int (nI dn), .int pl, .ref qml, .int (nI k), .ref qmk, .int (nI mz), .ref qmh, .int (nI nh), .int (nI 0), .ref qmw])), (qmt, .inl (cyI, 400, .inl T)), (qml, .inl (cyI, 460, .inl P)), (qmk, .inl (cyI, 460, .inl M)), (qmh, .inl (cyI, 460, .inl Hd))] := hD
  refine lv_aload_n hx hb dX5_unpack_5 rfl (lv_at hl 0 rfl) ?_
  have hPc := hP.sub (ws' := [(qm, .inr (4, [.ref qmd, .ref qmt, .int (nI n), .int (bI on), .int lf, .int (nI dn), .int pl, .ref qml, .int (nI k), .ref qmk, .int (nI mz), .ref qmh, .int (nI nh), .int (nI 0), .ref qmw])), (qmt, .inl (cyI, 400, .inl T)), (qmh, .inl (cyI, 460, .inl Hd))]) [0, 1, 4] rfl
  have hKc := hK.sub (tys' := [(cyI, .int), (cyZ, .boolean)]) [0, 1] rfl
  have hDc := hD.sub (ws' := [(qm, .inr (4, [.ref qmd, .ref qmt, .int (nI n), .int (bI on), .int lf, .int (nI dn), .int pl, .ref qml, .int (nI k), .ref qmk, .int (nI mz), .ref qmh, .int (nI nh), .int (nI 0), .ref qmw])), (qmt, .inl (cyI, 400, .inl T)), (qmh, .inl (cyI, 460, .inl Hd))]) [0, 1, 4] (by decide) rfl
  have hFc := va_free (wc := [(qm, .inr (4, [.ref qmd, .ref qmt, .int (nI n), .int (bI on), .int lf, .int (nI dn), .int pl, .ref qml, .int (nI k), .ref qmk, .int (nI mz), .ref qmh, .int (nI nh), .int (nI 0), .ref qmw])), (qmt, .inl (cyI, 400, .inl T)), (qmh, .inl (cyI, 460, .inl Hd))]) hD hS hA [0, 1, 4] rfl
  refine va_callv (va_runV (As := []) (rest := []) ⟨hx, hb, hml, hown, hts⟩ (c_X5_takeTape l dC dI cyI cyZ qm qmt qmh qmd qml qmk qmw H.size n on lf dn pl k mz nh (nI 0) T Hd (by omega)) (cwV 0 hts gX5_unpack_X5_takeTape rfl rfl rfl (by decide +kernel) ⟨Nat.le_of_ble_eq_true rfl, Nat.le_of_ble_eq_true rfl⟩) ⟨zz_blW, va_recv hKc hPc (ci := 4) (q0 := 0) rfl rfl, fun U hU hW => ⟨rfl, by rw [hU], by rw [hU]; exact hPc, va_K.moved hW.alike hKc, hDc.weaken (fun _ _ _ _ => trivial)⟩⟩ rfl rfl hl.1 rfl (lv_room (Nat.le_of_ble_eq_true rfl)) dX5_unpack_6 ⟨Nat.zero_le _, Nat.zero_le _⟩) hS (fun q _ h => hFc q h) hFc (fun uU tS H1 locs ht9 hvm9 hw9 hB9 hz1 hk1 hS => ?_)
  obtain ⟨H1_6, rfl⟩ : ∃ z, z = uU := ⟨_, rfl⟩
  obtain ⟨hP1, hK1, hD1⟩ := hB9
  have hw9 : (∀ j, j < n → H1_6 j = T j) := hw9
  have hH1_6 := hw9
  rw [ht9] at hP1
  have hK1 := va_K.moved hvm9.symm hK1
  obtain ⟨hP, hD⟩ := va_join (wr := [(qml, .inl (cyI, 460, .inl P)), (qmk, .inl (cyI, 460, .inl M))]) (w1 := [(qm, .inr (4, [.ref qmd, .ref qmt, .int (nI 0), .int (bI on), .int lf, .int (nI dn), .int pl, .ref qml, .int (nI k), .ref qmk, .int (nI mz), .ref qmh, .int (nI n), .int (nI 0), .ref qmw])), (qmt, .inl (cyI, 400, .inl T)), (qmh, .inl (cyI, 460, .inl H1_6))]) hP hD [0, 1, 4] [2, 3] rfl rfl (by decide) (by decide) hk1 hFc hP1 hD1
  generalize H1 = H at hP hS ⊢
  have hP : va_P (dC, dI) vwCl [(qml, .inl (cyI, 460, .inl P)), (qmk, .inl (cyI, 460, .inl M)), (qm, .inr (4, [.ref qmd, .ref qmt, .int (nI 0), .int (bI on), .int lf, .int (nI dn), .int pl, .ref qml, .int (nI k), .ref qmk, .int (nI mz), .ref qmh, .int (nI n), .int (nI 0), .ref qmw])), (qmt, .inl (cyI, 400, .inl T)), (qmh, .inl (cyI, 460, .inl H1_6))] H := hP
  have hD : va_D A [(qml, .inl (cyI, 460, .inl P)), (qmk, .inl (cyI, 460, .inl M)), (qm, .inr (4, [.ref qmd, .ref qmt, .int (nI 0), .int (bI on), .int lf, .int (nI dn), .int pl, .ref qml, .int (nI k), .ref qmk, .int (nI mz), .ref qmh, .int (nI n), .int (nI 0), .ref qmw])), (qmt, .inl (cyI, 400, .inl T)), (qmh, .inl (cyI, 460, .inl H1_6))] := hD
  refine lv_aload_n hx hb dX5_unpack_9 rfl (lv_at hl 0 rfl) ?_
  have hPc := hP.sub (ws' := [(qm, .inr (4, [.ref qmd, .ref qmt, .int (nI 0), .int (bI on), .int lf, .int (nI dn), .int pl, .ref qml, .int (nI k), .ref qmk, .int (nI mz), .ref qmh, .int (nI n), .int (nI 0), .ref qmw])), (qmk, .inl (cyI, 460, .inl M)), (qmh, .inl (cyI, 460, .inl H1_6))]) [2, 1, 4] rfl
  have hKc := hK.sub (tys' := [(cyI, .int), (cyZ, .boolean)]) [0, 1] rfl
  have hDc := hD.sub (ws' := [(qm, .inr (4, [.ref qmd, .ref qmt, .int (nI 0), .int (bI on), .int lf, .int (nI dn), .int pl, .ref qml, .int (nI k), .ref qmk, .int (nI mz), .ref qmh, .int (nI n), .int (nI 0), .ref qmw])), (qmk, .inl (cyI, 460, .inl M)), (qmh, .inl (cyI, 460, .inl H1_6))]) [2, 1, 4] (by decide) rfl
  have hFc := va_free (wc := [(qm, .inr (4, [.ref qmd, .ref qmt, .int (nI 0), .int (bI on), .int lf, .int (nI dn), .int pl, .ref qml, .int (nI k), .ref qmk, .int (nI mz), .ref qmh, .int (nI n), .int (nI 0), .ref qmw])), (qmk, .inl (cyI, 460, .inl M)), (qmh, .inl (cyI, 460, .inl H1_6))]) hD hS hA [2, 1, 4] rfl
  refine va_calli (va_runV (As := []) (rest := []) ⟨hx, hb, hml, hown, hts⟩ (c_X5_decode l dC dI cyI cyZ qm qmk qmh qmd qmt qml qmw H.size 0 on lf dn pl k mz n (nI 0) M H1_6 (by omega) (fun j hj => by rw [hH1_6 j hj]; exact HT j hj)) (cwV 0 hts gX5_unpack_X5_decode rfl rfl rfl (by decide +kernel) ⟨Nat.le_of_ble_eq_true rfl, Nat.le_of_ble_eq_true rfl⟩) ⟨zz_blW, va_recv hKc hPc (ci := 4) (q0 := 0) rfl rfl, fun U hU hW => ⟨rfl, by rw [hU], by rw [hU]; exact hPc, va_K.moved hW.alike hKc, hDc.weaken (fun _ _ _ _ => trivial)⟩⟩ rfl rfl hl.1 rfl (lv_room (Nat.le_of_ble_eq_true rfl)) dX5_unpack_10 ⟨Nat.zero_le _, Nat.zero_le _⟩) hS (fun q _ h => hFc q h) hFc (fun r_10 uU tS H1 locs ht9 hvm9 hw9 hB9 hz1 hk1 hS => ?_)
  obtain ⟨pl1_10, m1_10, M1_10⟩ := uU
  obtain ⟨hP1, hK1, hD1⟩ := hB9
  have hw9 : (r_10 = bI (decide ((zD H1_6 n).1 = 0))) ∧ (pl1_10 = zPlM (zD H1_6 n).1 pl) ∧ (m1_10 = (zD H1_6 n).2.1) ∧ (∀ j, j < m1_10 → M1_10 j = (zD H1_6 n).2.2 j) ∧ (∀ j, j < m1_10 → zO (M1_10 j)) ∧ (m1_10 ≤ 400) := hw9
  obtain ⟨hr_10, hpl_10, hm1_10, hM1_10, hO1_10, hmm_10⟩ := hw9
  have hr_10 := Eq.symm hr_10
  subst hr_10
  rw [ht9] at hP1
  have hK1 := va_K.moved hvm9.symm hK1
  obtain ⟨hP, hD⟩ := va_join (wr := [(qml, .inl (cyI, 460, .inl P)), (qmt, .inl (cyI, 400, .inl T))]) (w1 := [(qm, .inr (4, [.ref qmd, .ref qmt, .int (nI 0), .int (bI on), .int lf, .int (nI dn), .int pl1_10, .ref qml, .int (nI k), .ref qmk, .int (nI m1_10), .ref qmh, .int (nI n), .int (nI 0), .ref qmw])), (qmk, .inl (cyI, 460, .inl M1_10)), (qmh, .inl (cyI, 460, .inl H1_6))]) hP hD [2, 1, 4] [0, 3] rfl rfl (by decide) (by decide) hk1 hFc hP1 hD1
  generalize H1 = H at hP hS ⊢
  have hP : va_P (dC, dI) vwCl [(qml, .inl (cyI, 460, .inl P)), (qmt, .inl (cyI, 400, .inl T)), (qm, .inr (4, [.ref qmd, .ref qmt, .int (nI 0), .int (bI on), .int lf, .int (nI dn), .int pl1_10, .ref qml, .int (nI k), .ref qmk, .int (nI m1_10), .ref qmh, .int (nI n), .int (nI 0), .ref qmw])), (qmk, .inl (cyI, 460, .inl M1_10)), (qmh, .inl (cyI, 460, .inl H1_6))] H := hP
  have hD : va_D A [(qml, .inl (cyI, 460, .inl P)), (qmt, .inl (cyI, 400, .inl T)), (qm, .inr (4, [.ref qmd, .ref qmt, .int (nI 0), .int (bI on), .int lf, .int (nI dn), .int pl1_10, .ref qml, .int (nI k), .ref qmk, .int (nI m1_10), .ref qmh, .int (nI n), .int (nI 0), .ref qmw])), (qmk, .inl (cyI, 460, .inl M1_10)), (qmh, .inl (cyI, 460, .inl H1_6))] := hD
  refine zb_if_ne (tgt := 18) hx hb dX5_unpack_13 (by decide) (fun c_13 => ?_) (fun c_13 => ?_)
  ·
    refine lv_aload_n hx hb dX5_unpack_18 rfl (lv_at hl 0 rfl) ?_
    have hPc := hP.sub (ws' := [(qm, .inr (4, [.ref qmd, .ref qmt, .int (nI 0), .int (bI on), .int lf, .int (nI dn), .int pl1_10, .ref qml, .int (nI k), .ref qmk, .int (nI m1_10), .ref qmh, .int (nI n), .int (nI 0), .ref qmw])), (qml, .inl (cyI, 460, .inl P)), (qmk, .inl (cyI, 460, .inl M1_10))]) [2, 0, 3] rfl
    have hKc := hK.sub (tys' := [(cyI, .int), (cyZ, .boolean)]) [0, 1] rfl
    have hDc := hD.sub (ws' := [(qm, .inr (4, [.ref qmd, .ref qmt, .int (nI 0), .int (bI on), .int lf, .int (nI dn), .int pl1_10, .ref qml, .int (nI k), .ref qmk, .int (nI m1_10), .ref qmh, .int (nI n), .int (nI 0), .ref qmw])), (qml, .inl (cyI, 460, .inl P)), (qmk, .inl (cyI, 460, .inl M1_10))]) [2, 0, 3] (by decide) rfl
    have hFc := va_free (wc := [(qm, .inr (4, [.ref qmd, .ref qmt, .int (nI 0), .int (bI on), .int lf, .int (nI dn), .int pl1_10, .ref qml, .int (nI k), .ref qmk, .int (nI m1_10), .ref qmh, .int (nI n), .int (nI 0), .ref qmw])), (qml, .inl (cyI, 460, .inl P)), (qmk, .inl (cyI, 460, .inl M1_10))]) hD hS hA [2, 0, 3] rfl
    refine va_callv (va_runV (As := []) (rest := []) ⟨hx, hb, hml, hown, hts⟩ (c_X5_load0 l dC dI cyI cyZ qm qml qmk qmd qmt qmh qmw H.size 0 on lf dn pl1_10 k m1_10 n (nI 0) P M1_10 (by omega)) (cwV 0 hts gX5_unpack_X5_load0 rfl rfl rfl (by decide +kernel) ⟨Nat.le_of_ble_eq_true rfl, Nat.le_of_ble_eq_true rfl⟩) ⟨zz_blW, va_recv hKc hPc (ci := 4) (q0 := 0) rfl rfl, fun U hU hW => ⟨rfl, by rw [hU], by rw [hU]; exact hPc, va_K.moved hW.alike hKc, hDc.weaken (fun _ _ _ _ => trivial)⟩⟩ rfl rfl hl.1 rfl (lv_room (Nat.le_of_ble_eq_true rfl)) dX5_unpack_19 ⟨Nat.zero_le _, Nat.zero_le _⟩) hS (fun q _ h => hFc q h) hFc (fun uU tS H1 locs ht9 hvm9 hw9 hB9 hz1 hk1 hS => ?_)
    obtain ⟨P1_19, rfl⟩ : ∃ z, z = uU := ⟨_, rfl⟩
    obtain ⟨hP1, hK1, hD1⟩ := hB9
    have hw9 : (∀ j, j < m1_10 → P1_19 j = M1_10 j) := hw9
    have hP1_19 := hw9
    rw [ht9] at hP1
    have hK1 := va_K.moved hvm9.symm hK1
    obtain ⟨hP, hD⟩ := va_join (wr := [(qmt, .inl (cyI, 400, .inl T)), (qmh, .inl (cyI, 460, .inl H1_6))]) (w1 := [(qm, .inr (4, [.ref qmd, .ref qmt, .int (nI 0), .int (bI on), .int lf, .int (nI dn), .int pl1_10, .ref qml, .int (nI m1_10), .ref qmk, .int (nI m1_10), .ref qmh, .int (nI n), .int (nI 0), .ref qmw])), (qml, .inl (cyI, 460, .inl P1_19)), (qmk, .inl (cyI, 460, .inl M1_10))]) hP hD [2, 0, 3] [1, 4] rfl rfl (by decide) (by decide) hk1 hFc hP1 hD1
    generalize H1 = H at hP hS ⊢
    have hP : va_P (dC, dI) vwCl [(qmt, .inl (cyI, 400, .inl T)), (qmh, .inl (cyI, 460, .inl H1_6)), (qm, .inr (4, [.ref qmd, .ref qmt, .int (nI 0), .int (bI on), .int lf, .int (nI dn), .int pl1_10, .ref qml, .int (nI m1_10), .ref qmk, .int (nI m1_10), .ref qmh, .int (nI n), .int (nI 0), .ref qmw])), (qml, .inl (cyI, 460, .inl P1_19)), (qmk, .inl (cyI, 460, .inl M1_10))] H := hP
    have hD : va_D A [(qmt, .inl (cyI, 400, .inl T)), (qmh, .inl (cyI, 460, .inl H1_6)), (qm, .inr (4, [.ref qmd, .ref qmt, .int (nI 0), .int (bI on), .int lf, .int (nI dn), .int pl1_10, .ref qml, .int (nI m1_10), .ref qmk, .int (nI m1_10), .ref qmh, .int (nI n), .int (nI 0), .ref qmw])), (qml, .inl (cyI, 460, .inl P1_19)), (qmk, .inl (cyI, 460, .inl M1_10))] := hD
    refine lv_aload_n hx hb dX5_unpack_22 rfl (lv_at hl 0 rfl) ?_
    refine va_get (D := (dC, dI)) (ci := 4) (v := .int (nI m1_10)) (C := RX5) (T := TX5) (N := 15) hx hb hts iwX5 hown hK hP 2 rfl rfl 8 (by decide) fk66 (fun _ h9 => h9) rfl dX5_unpack_23 ?_
    have eD : zD H1_6 n = zD T n := zD_cong hH1_6
    rw [eD] at hpl_10 c_13 hm1_10 hM1_10
    have c_13 := of_decide_eq_true c_13
    have hP9 := hP.sub (ws' := [(qm, .inr (4, [.ref qmd, .ref qmt, .int (nI 0), .int (bI on), .int lf, .int (nI dn), .int pl1_10, .ref qml, .int (nI m1_10), .ref qmk, .int (nI m1_10), .ref qmh, .int (nI n), .int (nI 0), .ref qmw])), (qmt, .inl (cyI, 400, .inl T)), (qml, .inl (cyI, 460, .inl P1_19)), (qmk, .inl (cyI, 460, .inl M1_10)), (qmh, .inl (cyI, 460, .inl H1_6))]) [2, 0, 3, 4, 1] rfl
    have hD9 := hD.sub (ws' := [(qm, .inr (4, [.ref qmd, .ref qmt, .int (nI 0), .int (bI on), .int lf, .int (nI dn), .int pl1_10, .ref qml, .int (nI m1_10), .ref qmk, .int (nI m1_10), .ref qmh, .int (nI n), .int (nI 0), .ref qmw])), (qmt, .inl (cyI, 400, .inl T)), (qml, .inl (cyI, 460, .inl P1_19)), (qmk, .inl (cyI, 460, .inl M1_10)), (qmh, .inl (cyI, 460, .inl H1_6))]) [2, 0, 3, 4, 1] (by decide) rfl
    have hK9 := hK.sub (tys' := [(cyI, .int), (cyZ, .boolean)]) [0, 1] rfl
    exact W.iret hx hb hr (fun tS ht hW => ⟨⟨_, (m1_10, P1_19, m1_10, M1_10, H1_6, n, pl1_10), rfl, Or.inl ⟨c_13, rfl, hm1_10, fun j hj => (hP1_19 j hj).trans (hM1_10 j hj), hpl_10.trans (if_pos c_13)⟩, by rw [ht]; exact hP9, va_K.moved hW.alike hK9, hD9⟩, hS.F ht⟩) hS.2.2 dX5_unpack_26
  ·
    refine lv_iconst (v := (-1)) hx hb dX5_unpack_16 (by decide) ?_
    have eD : zD H1_6 n = zD T n := zD_cong hH1_6
    rw [eD] at hpl_10 c_13
    have c_13 := of_decide_eq_false c_13
    have hP9 := hP.sub (ws' := [(qm, .inr (4, [.ref qmd, .ref qmt, .int (nI 0), .int (bI on), .int lf, .int (nI dn), .int pl1_10, .ref qml, .int (nI k), .ref qmk, .int (nI m1_10), .ref qmh, .int (nI n), .int (nI 0), .ref qmw])), (qmt, .inl (cyI, 400, .inl T)), (qml, .inl (cyI, 460, .inl P)), (qmk, .inl (cyI, 460, .inl M1_10)), (qmh, .inl (cyI, 460, .inl H1_6))]) [2, 1, 0, 3, 4] rfl
    have hD9 := hD.sub (ws' := [(qm, .inr (4, [.ref qmd, .ref qmt, .int (nI 0), .int (bI on), .int lf, .int (nI dn), .int pl1_10, .ref qml, .int (nI k), .ref qmk, .int (nI m1_10), .ref qmh, .int (nI n), .int (nI 0), .ref qmw])), (qmt, .inl (cyI, 400, .inl T)), (qml, .inl (cyI, 460, .inl P)), (qmk, .inl (cyI, 460, .inl M1_10)), (qmh, .inl (cyI, 460, .inl H1_6))]) [2, 1, 0, 3, 4] (by decide) rfl
    have hK9 := hK.sub (tys' := [(cyI, .int), (cyZ, .boolean)]) [0, 1] rfl
    exact W.iret hx hb hr (fun tS ht hW => ⟨⟨_, (k, P, m1_10, M1_10, H1_6, n, pl1_10), rfl, Or.inr ⟨c_13, rfl, rfl, rfl, hpl_10.trans (if_neg c_13)⟩, by rw [ht]; exact hP9, va_K.moved hW.alike hK9, hD9⟩, hS.F ht⟩) hS.2.2 dX5_unpack_17
