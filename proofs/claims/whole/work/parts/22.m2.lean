set_option maxHeartbeats 4000000 in
set_option maxRecDepth 100000 in
theorem c_X5_numberOf (l : Launch) (dC : Nat → ClassId) (dI : Nat → Nat → Nat) (cyI cyZ : ClassId) (qm qmd qmt qml qmk qmh qmw : Nat) (n : Nat) (on : Bool) (lf : Int32) (dn : Nat) (pl : Int32) (k mz nh : Nat) (th : Int32) (w : Nat → Int32) (b : Nat) (hb9 : b < 64) : Met l yX5_numberOf wsX5_numberOf ({ frames := 0, cells := 0, slots := 0, locals := 0 }) (va_Pc [.ref qm, .int (nI b)] (fun U => va_P (dC, dI) vwCl [(qm, .inr (4, [.ref qmd, .ref qmt, .int (nI n), .int (bI on), .int lf, .int (nI dn), .int pl, .ref qml, .int (nI k), .ref qmk, .int (nI mz), .ref qmh, .int (nI nh), .int th, .ref qmw])), (qmd, .inl (cyI, 512, .inl w))] U.heap ∧ va_K (dC, dI) vwCl [(cyI, .int), (cyZ, .boolean)] U)) (vp_Si (fun r => r = kNum w b)) 0 0 (fun _ => False) := by
  refine Met.ofW (cc := cX5_numberOf) (maxL := 2) (ret := (some .int)) (by decide) rfl ?_
  intro pz ez sS mM args below meth cC s₁ B hml hv
  obtain ⟨rfl, hP, hK⟩ := hv
  have hx := B.exec
  have hb := B.bytes
  have hr := B.returns
  have hts := atoms_spec (ws := wsX5_numberOf) B.pre
  have hown : sS.vm.findClass RX5 = some mM.cls := findClass_of_methodNamed B.named
  have hlocks := B.notSynchronized
  have iwX5 : ∀ w ∈ wsX50, w ∈ wsX5_numberOf := by decide +kernel
  have fk7 := hts (.fieldLink RX5 7 "CodedStoreModel" "disk" "[I") (by decide +kernel)
  have hl := lv_entry ([.ref qm, .int (nI b)]) (n := 2) (Nat.le_of_ble_eq_true rfl)
  rw [lg_entry_eq]
  generalize (lg_sl ([.ref qm, .int (nI b)]) ++ List.replicate (2 - (lg_sl ([.ref qm, .int (nI b)])).length) Slot.unset).toArray = ls at hl ⊢
  have hl : lv_has ls 2 [(0, .ref qm), (1, .int (nI b))] := hl
  refine lv_aload_n hx hb dX5_numberOf_0 rfl (lv_at hl 0 rfl) ?_
  refine va_get (D := (dC, dI)) (ci := 4) (v := .ref qmd) (C := RX5) (T := TX5) (N := 15) hx hb hts iwX5 hown hK hP 0 rfl rfl 0 (by decide) fk7 (fun _ h9 => h9) rfl dX5_numberOf_1 ?_
  refine lv_bipush (v := nI 8) hx hb dX5_numberOf_4 (by decide) ?_
  refine lv_iload_n hx hb dX5_numberOf_6 rfl (lv_at hl 1 rfl) ?_
  refine lv_imul hx hb dX5_numberOf_7 ?_
  refine zz_top (pk_mul 8 b) ?_
  refine va_iald hx hb hK hP 1 0 rfl rfl (vp_in_nI (n := 8 * b) (by omega) (by decide)) dX5_numberOf_8 ?_
  refine zz_top (congrArg w (nI_clamp (n := 8 * b) (by omega))) ?_
  have hret : (w (8 * b) : Int32) = kNum w b := rfl
  refine zz_top hret ?_
  exact W.iret hx hb hr (fun tS ht hW => ⟨_, rfl, rfl, ht⟩) (fun _ h => nomatch h) dX5_numberOf_9
set_option maxHeartbeats 4000000 in
set_option maxRecDepth 100000 in
theorem c_X5_partOf (l : Launch) (dC : Nat → ClassId) (dI : Nat → Nat → Nat) (cyI cyZ : ClassId) (qm qmd qmt qml qmk qmh qmw : Nat) (n : Nat) (on : Bool) (lf : Int32) (dn : Nat) (pl : Int32) (k mz nh : Nat) (th : Int32) (w : Nat → Int32) (b : Nat) (hb9 : b < 64) : Met l yX5_partOf wsX5_partOf ({ frames := 0, cells := 0, slots := 0, locals := 0 }) (va_Pc [.ref qm, .int (nI b)] (fun U => va_P (dC, dI) vwCl [(qm, .inr (4, [.ref qmd, .ref qmt, .int (nI n), .int (bI on), .int lf, .int (nI dn), .int pl, .ref qml, .int (nI k), .ref qmk, .int (nI mz), .ref qmh, .int (nI nh), .int th, .ref qmw])), (qmd, .inl (cyI, 512, .inl w))] U.heap ∧ va_K (dC, dI) vwCl [(cyI, .int), (cyZ, .boolean)] U)) (vp_Si (fun r => r = kPart w b)) 0 0 (fun _ => False) := by
  refine Met.ofW (cc := cX5_partOf) (maxL := 2) (ret := (some .int)) (by decide) rfl ?_
  intro pz ez sS mM args below meth cC s₁ B hml hv
  obtain ⟨rfl, hP, hK⟩ := hv
  have hx := B.exec
  have hb := B.bytes
  have hr := B.returns
  have hts := atoms_spec (ws := wsX5_partOf) B.pre
  have hown : sS.vm.findClass RX5 = some mM.cls := findClass_of_methodNamed B.named
  have hlocks := B.notSynchronized
  have iwX5 : ∀ w ∈ wsX50, w ∈ wsX5_partOf := by decide +kernel
  have fk7 := hts (.fieldLink RX5 7 "CodedStoreModel" "disk" "[I") (by decide +kernel)
  have hl := lv_entry ([.ref qm, .int (nI b)]) (n := 2) (Nat.le_of_ble_eq_true rfl)
  rw [lg_entry_eq]
  generalize (lg_sl ([.ref qm, .int (nI b)]) ++ List.replicate (2 - (lg_sl ([.ref qm, .int (nI b)])).length) Slot.unset).toArray = ls at hl ⊢
  have hl : lv_has ls 2 [(0, .ref qm), (1, .int (nI b))] := hl
  refine lv_aload_n hx hb dX5_partOf_0 rfl (lv_at hl 0 rfl) ?_
  refine va_get (D := (dC, dI)) (ci := 4) (v := .ref qmd) (C := RX5) (T := TX5) (N := 15) hx hb hts iwX5 hown hK hP 0 rfl rfl 0 (by decide) fk7 (fun _ h9 => h9) rfl dX5_partOf_1 ?_
  refine lv_bipush (v := nI 8) hx hb dX5_partOf_4 (by decide) ?_
  refine lv_iload_n hx hb dX5_partOf_6 rfl (lv_at hl 1 rfl) ?_
  refine lv_imul hx hb dX5_partOf_7 ?_
  refine zz_top (pk_mul 8 b) ?_
  refine lv_iconst (v := nI 1) hx hb dX5_partOf_8 (by decide) ?_
  refine lv_iadd hx hb dX5_partOf_9 ?_
  refine zz_top (nI_add (8 * b) 1) ?_
  refine va_iald hx hb hK hP 1 0 rfl rfl (vp_in_nI (n := 8 * b + 1) (by omega) (by decide)) dX5_partOf_10 ?_
  refine zz_top (congrArg w (nI_clamp (n := 8 * b + 1) (by omega))) ?_
  refine lv_sipush (v := nI 255) hx hb dX5_partOf_11 (by decide) ?_
  refine lv_iand hx hb dX5_partOf_14 ?_
  have hret : ((w (8 * b + 1)) &&& (nI 255) : Int32) = kPart w b := rfl
  refine zz_top hret ?_
  exact W.iret hx hb hr (fun tS ht hW => ⟨_, rfl, rfl, ht⟩) (fun _ h => nomatch h) dX5_partOf_15
set_option maxHeartbeats 4000000 in
set_option maxRecDepth 100000 in
theorem c_X5_partsOf (l : Launch) (dC : Nat → ClassId) (dI : Nat → Nat → Nat) (cyI cyZ : ClassId) (qm qmd qmt qml qmk qmh qmw : Nat) (n : Nat) (on : Bool) (lf : Int32) (dn : Nat) (pl : Int32) (k mz nh : Nat) (th : Int32) (w : Nat → Int32) (b : Nat) (hb9 : b < 64) : Met l yX5_partsOf wsX5_partsOf ({ frames := 0, cells := 0, slots := 0, locals := 0 }) (va_Pc [.ref qm, .int (nI b)] (fun U => va_P (dC, dI) vwCl [(qm, .inr (4, [.ref qmd, .ref qmt, .int (nI n), .int (bI on), .int lf, .int (nI dn), .int pl, .ref qml, .int (nI k), .ref qmk, .int (nI mz), .ref qmh, .int (nI nh), .int th, .ref qmw])), (qmd, .inl (cyI, 512, .inl w))] U.heap ∧ va_K (dC, dI) vwCl [(cyI, .int), (cyZ, .boolean)] U)) (vp_Si (fun r => r = kParts w b)) 0 0 (fun _ => False) := by
  refine Met.ofW (cc := cX5_partsOf) (maxL := 2) (ret := (some .int)) (by decide) rfl ?_
  intro pz ez sS mM args below meth cC s₁ B hml hv
  obtain ⟨rfl, hP, hK⟩ := hv
  have hx := B.exec
  have hb := B.bytes
  have hr := B.returns
  have hts := atoms_spec (ws := wsX5_partsOf) B.pre
  have hown : sS.vm.findClass RX5 = some mM.cls := findClass_of_methodNamed B.named
  have hlocks := B.notSynchronized
  have iwX5 : ∀ w ∈ wsX50, w ∈ wsX5_partsOf := by decide +kernel
  have fk7 := hts (.fieldLink RX5 7 "CodedStoreModel" "disk" "[I") (by decide +kernel)
  have hl := lv_entry ([.ref qm, .int (nI b)]) (n := 2) (Nat.le_of_ble_eq_true rfl)
  rw [lg_entry_eq]
  generalize (lg_sl ([.ref qm, .int (nI b)]) ++ List.replicate (2 - (lg_sl ([.ref qm, .int (nI b)])).length) Slot.unset).toArray = ls at hl ⊢
  have hl : lv_has ls 2 [(0, .ref qm), (1, .int (nI b))] := hl
  refine lv_aload_n hx hb dX5_partsOf_0 rfl (lv_at hl 0 rfl) ?_
  refine va_get (D := (dC, dI)) (ci := 4) (v := .ref qmd) (C := RX5) (T := TX5) (N := 15) hx hb hts iwX5 hown hK hP 0 rfl rfl 0 (by decide) fk7 (fun _ h9 => h9) rfl dX5_partsOf_1 ?_
  refine lv_bipush (v := nI 8) hx hb dX5_partsOf_4 (by decide) ?_
  refine lv_iload_n hx hb dX5_partsOf_6 rfl (lv_at hl 1 rfl) ?_
  refine lv_imul hx hb dX5_partsOf_7 ?_
  refine zz_top (pk_mul 8 b) ?_
  refine lv_iconst (v := nI 1) hx hb dX5_partsOf_8 (by decide) ?_
  refine lv_iadd hx hb dX5_partsOf_9 ?_
  refine zz_top (nI_add (8 * b) 1) ?_
  refine va_iald hx hb hK hP 1 0 rfl rfl (vp_in_nI (n := 8 * b + 1) (by omega) (by decide)) dX5_partsOf_10 ?_
  refine zz_top (congrArg w (nI_clamp (n := 8 * b + 1) (by omega))) ?_
  refine lv_bipush (v := nI 8) hx hb dX5_partsOf_11 (by decide) ?_
  refine lv_ishr hx hb dX5_partsOf_13 ?_
  refine lv_sipush (v := nI 255) hx hb dX5_partsOf_14 (by decide) ?_
  refine lv_iand hx hb dX5_partsOf_17 ?_
  have hret : (((w (8 * b + 1)) >>> ((nI 8) &&& 31)) &&& (nI 255) : Int32) = kParts w b := rfl
  refine zz_top hret ?_
  exact W.iret hx hb hr (fun tS ht hW => ⟨_, rfl, rfl, ht⟩) (fun _ h => nomatch h) dX5_partsOf_18
set_option maxHeartbeats 4000000 in
set_option maxRecDepth 100000 in
theorem c_X5_formOf (l : Launch) (dC : Nat → ClassId) (dI : Nat → Nat → Nat) (cyI cyZ : ClassId) (qm qmd qmt qml qmk qmh qmw : Nat) (n : Nat) (on : Bool) (lf : Int32) (dn : Nat) (pl : Int32) (k mz nh : Nat) (th : Int32) (w : Nat → Int32) (b : Nat) (hb9 : b < 64) : Met l yX5_formOf wsX5_formOf ({ frames := 0, cells := 0, slots := 0, locals := 0 }) (va_Pc [.ref qm, .int (nI b)] (fun U => va_P (dC, dI) vwCl [(qm, .inr (4, [.ref qmd, .ref qmt, .int (nI n), .int (bI on), .int lf, .int (nI dn), .int pl, .ref qml, .int (nI k), .ref qmk, .int (nI mz), .ref qmh, .int (nI nh), .int th, .ref qmw])), (qmd, .inl (cyI, 512, .inl w))] U.heap ∧ va_K (dC, dI) vwCl [(cyI, .int), (cyZ, .boolean)] U)) (vp_Si (fun r => r = kForm w b)) 0 0 (fun _ => False) := by
  refine Met.ofW (cc := cX5_formOf) (maxL := 2) (ret := (some .int)) (by decide) rfl ?_
  intro pz ez sS mM args below meth cC s₁ B hml hv
  obtain ⟨rfl, hP, hK⟩ := hv
  have hx := B.exec
  have hb := B.bytes
  have hr := B.returns
  have hts := atoms_spec (ws := wsX5_formOf) B.pre
  have hown : sS.vm.findClass RX5 = some mM.cls := findClass_of_methodNamed B.named
  have hlocks := B.notSynchronized
  have iwX5 : ∀ w ∈ wsX50, w ∈ wsX5_formOf := by decide +kernel
  have fk7 := hts (.fieldLink RX5 7 "CodedStoreModel" "disk" "[I") (by decide +kernel)
  have hl := lv_entry ([.ref qm, .int (nI b)]) (n := 2) (Nat.le_of_ble_eq_true rfl)
  rw [lg_entry_eq]
  generalize (lg_sl ([.ref qm, .int (nI b)]) ++ List.replicate (2 - (lg_sl ([.ref qm, .int (nI b)])).length) Slot.unset).toArray = ls at hl ⊢
  have hl : lv_has ls 2 [(0, .ref qm), (1, .int (nI b))] := hl
  refine lv_aload_n hx hb dX5_formOf_0 rfl (lv_at hl 0 rfl) ?_
  refine va_get (D := (dC, dI)) (ci := 4) (v := .ref qmd) (C := RX5) (T := TX5) (N := 15) hx hb hts iwX5 hown hK hP 0 rfl rfl 0 (by decide) fk7 (fun _ h9 => h9) rfl dX5_formOf_1 ?_
  refine lv_bipush (v := nI 8) hx hb dX5_formOf_4 (by decide) ?_
  refine lv_iload_n hx hb dX5_formOf_6 rfl (lv_at hl 1 rfl) ?_
  refine lv_imul hx hb dX5_formOf_7 ?_
  refine zz_top (pk_mul 8 b) ?_
  refine lv_iconst (v := nI 1) hx hb dX5_formOf_8 (by decide) ?_
  refine lv_iadd hx hb dX5_formOf_9 ?_
  refine zz_top (nI_add (8 * b) 1) ?_
  refine va_iald hx hb hK hP 1 0 rfl rfl (vp_in_nI (n := 8 * b + 1) (by omega) (by decide)) dX5_formOf_10 ?_
  refine zz_top (congrArg w (nI_clamp (n := 8 * b + 1) (by omega))) ?_
  refine lv_bipush (v := nI 16) hx hb dX5_formOf_11 (by decide) ?_
  refine lv_ishr hx hb dX5_formOf_13 ?_
  have hret : ((w (8 * b + 1)) >>> ((nI 16) &&& 31) : Int32) = kForm w b := rfl
  refine zz_top hret ?_
  exact W.iret hx hb hr (fun tS ht hW => ⟨_, rfl, rfl, ht⟩) (fun _ h => nomatch h) dX5_formOf_14
set_option maxHeartbeats 4000000 in
set_option maxRecDepth 100000 in
theorem c_X5_keyOf (l : Launch) (dC : Nat → ClassId) (dI : Nat → Nat → Nat) (cyI cyZ : ClassId) (qm qmd qmt qml qmk qmh qmw : Nat) (n : Nat) (on : Bool) (lf : Int32) (dn : Nat) (pl : Int32) (k mz nh : Nat) (th : Int32) (w : Nat → Int32) (b : Nat) (hb9 : b < 64) : Met l yX5_keyOf wsX5_keyOf ({ frames := 0, cells := 0, slots := 0, locals := 0 }) (va_Pc [.ref qm, .int (nI b)] (fun U => va_P (dC, dI) vwCl [(qm, .inr (4, [.ref qmd, .ref qmt, .int (nI n), .int (bI on), .int lf, .int (nI dn), .int pl, .ref qml, .int (nI k), .ref qmk, .int (nI mz), .ref qmh, .int (nI nh), .int th, .ref qmw])), (qmd, .inl (cyI, 512, .inl w))] U.heap ∧ va_K (dC, dI) vwCl [(cyI, .int), (cyZ, .boolean)] U)) (vp_Si (fun r => r = kKey w b)) 0 0 (fun _ => False) := by
  refine Met.ofW (cc := cX5_keyOf) (maxL := 2) (ret := (some .int)) (by decide) rfl ?_
  intro pz ez sS mM args below meth cC s₁ B hml hv
  obtain ⟨rfl, hP, hK⟩ := hv
  have hx := B.exec
  have hb := B.bytes
  have hr := B.returns
  have hts := atoms_spec (ws := wsX5_keyOf) B.pre
  have hown : sS.vm.findClass RX5 = some mM.cls := findClass_of_methodNamed B.named
  have hlocks := B.notSynchronized
  have iwX5 : ∀ w ∈ wsX50, w ∈ wsX5_keyOf := by decide +kernel
  have fk7 := hts (.fieldLink RX5 7 "CodedStoreModel" "disk" "[I") (by decide +kernel)
  have hl := lv_entry ([.ref qm, .int (nI b)]) (n := 2) (Nat.le_of_ble_eq_true rfl)
  rw [lg_entry_eq]
  generalize (lg_sl ([.ref qm, .int (nI b)]) ++ List.replicate (2 - (lg_sl ([.ref qm, .int (nI b)])).length) Slot.unset).toArray = ls at hl ⊢
  have hl : lv_has ls 2 [(0, .ref qm), (1, .int (nI b))] := hl
  refine lv_aload_n hx hb dX5_keyOf_0 rfl (lv_at hl 0 rfl) ?_
  refine va_get (D := (dC, dI)) (ci := 4) (v := .ref qmd) (C := RX5) (T := TX5) (N := 15) hx hb hts iwX5 hown hK hP 0 rfl rfl 0 (by decide) fk7 (fun _ h9 => h9) rfl dX5_keyOf_1 ?_
  refine lv_bipush (v := nI 8) hx hb dX5_keyOf_4 (by decide) ?_
  refine lv_iload_n hx hb dX5_keyOf_6 rfl (lv_at hl 1 rfl) ?_
  refine lv_imul hx hb dX5_keyOf_7 ?_
  refine zz_top (pk_mul 8 b) ?_
  refine lv_iconst (v := nI 2) hx hb dX5_keyOf_8 (by decide) ?_
  refine lv_iadd hx hb dX5_keyOf_9 ?_
  refine zz_top (nI_add (8 * b) 2) ?_
  refine va_iald hx hb hK hP 1 0 rfl rfl (vp_in_nI (n := 8 * b + 2) (by omega) (by decide)) dX5_keyOf_10 ?_
  refine zz_top (congrArg w (nI_clamp (n := 8 * b + 2) (by omega))) ?_
  have hret : (w (8 * b + 2) : Int32) = kKey w b := rfl
  refine zz_top hret ?_
  exact W.iret hx hb hr (fun tS ht hW => ⟨_, rfl, rfl, ht⟩) (fun _ h => nomatch h) dX5_keyOf_11
set_option maxHeartbeats 4000000 in
set_option maxRecDepth 100000 in
theorem c_X5_isWhole (l : Launch) (dC : Nat → ClassId) (dI : Nat → Nat → Nat) (cyI cyZ : ClassId) (qm qmd qmt qml qmk qmh qmw : Nat) (n : Nat) (on : Bool) (lf : Int32) (dn : Nat) (pl : Int32) (k mz nh : Nat) (th : Int32) (w : Nat → Int32) (b : Nat) (hb9 : b < 64) (HP0 : kPos w) : Met l yX5_isWhole wsX5_isWhole ({ frames := 1, cells := 0, slots := 0, locals := 21 }) (va_Pc [.ref qm, .int (nI b)] (fun U => va_P (dC, dI) vwCl [(qm, .inr (4, [.ref qmd, .ref qmt, .int (nI n), .int (bI on), .int lf, .int (nI dn), .int pl, .ref qml, .int (nI k), .ref qmk, .int (nI mz), .ref qmh, .int (nI nh), .int th, .ref qmw])), (qmd, .inl (cyI, 512, .inl w))] U.heap ∧ va_K (dC, dI) vwCl [(cyI, .int), (cyZ, .boolean)] U)) (vp_Si (fun r => r = bI (kWh w b))) 0 0 (fun _ => False) := by
  refine Met.ofW (cc := cX5_isWhole) (maxL := 4) (ret := (some .boolean)) (by decide) rfl ?_
  intro pz ez sS mM args below meth cC s₁ B hml hv
  obtain ⟨rfl, hP, hK⟩ := hv
  have hx := B.exec
  have hb := B.bytes
  have hr := B.returns
  have hts := atoms_spec (ws := wsX5_isWhole) B.pre
  have hown : sS.vm.findClass RX5 = some mM.cls := findClass_of_methodNamed B.named
  have hlocks := B.notSynchronized
  have hl := lv_entry ([.ref qm, .int (nI b)]) (n := 4) (Nat.le_of_ble_eq_true rfl)
  rw [lg_entry_eq]
  generalize (lg_sl ([.ref qm, .int (nI b)]) ++ List.replicate (4 - (lg_sl ([.ref qm, .int (nI b)])).length) Slot.unset).toArray = ls at hl ⊢
  have hl : lv_has ls 4 [(0, .ref qm), (1, .int (nI b))] := hl
  refine lv_iconst (v := nI 0) hx hb dX5_isWhole_0 (by decide) ?_
  refine lv_istore_n (lv' := [(2, .int (nI 0)), (0, .ref qm), (1, .int (nI b))]) hx hb dX5_isWhole_1 rfl hl (by decide) rfl (fun ls hl => ?_)
  refine lv_iconst (v := nI 0) hx hb dX5_isWhole_2 (by decide) ?_
  refine lv_istore_n (lv' := [(3, .int (nI 0)), (2, .int (nI 0)), (0, .ref qm), (1, .int (nI b))]) hx hb dX5_isWhole_3 rfl hl (by decide) rfl (fun ls hl => ?_)
  refine zz_loopR (pc := 4) (μ := fun (v : Nat) => 64 - v) (Inv := fun (v : Nat) (ls : Array Slot) => (v ≤ 64) ∧ lv_has ls 4 [(0, .ref qm), (1, .int (nI b)), (2, .int (nI (fb_ct (kSame w b) v))), (3, .int (nI v))]) (x0 := (0)) ⟨by omega, lv_sub hl [2, 3, 1, 0] rfl⟩ ?_
  intro v ls hI ih4
  obtain ⟨hv9, hl⟩ := hI
  have hl : lv_has ls 4 [(0, .ref qm), (1, .int (nI b)), (2, .int (nI (fb_ct (kSame w b) v))), (3, .int (nI v))] := hl
  have hv9 : v ≤ 64 := hv9
  refine lv_iload_n hx hb dX5_isWhole_4 rfl (lv_at hl 3 rfl) ?_
  refine lv_bipush (v := nI 64) hx hb dX5_isWhole_5 (by decide) ?_
  refine zn_icmp_ge (tgt := 37) hx hb dX5_isWhole_7 (by decide) (by omega) (by omega) (fun c_7 => ?_) (fun c_7 => ?_)
  ·
    refine lv_aload_n hx hb dX5_isWhole_37 rfl (lv_at hl 0 rfl) ?_
    refine lv_iload_n hx hb dX5_isWhole_38 rfl (lv_at hl 1 rfl) ?_
    have hPc := hP.sub (ws' := [(qm, .inr (4, [.ref qmd, .ref qmt, .int (nI n), .int (bI on), .int lf, .int (nI dn), .int pl, .ref qml, .int (nI k), .ref qmk, .int (nI mz), .ref qmh, .int (nI nh), .int th, .ref qmw])), (qmd, .inl (cyI, 512, .inl w))]) [0, 1] rfl
    have hKc := hK.sub (tys' := [(cyI, .int), (cyZ, .boolean)]) [0, 1] rfl
    refine vp_callSi (va_Run.run (va_runV (As := [.int (nI b)]) (rest := []) ⟨hx, hb, hml, hown, hts⟩ (c_X5_numberOf l dC dI cyI cyZ qm qmd qmt qml qmk qmh qmw n on lf dn pl k mz nh th w b (by omega)) (cwV 1 hts gX5_isWhole_X5_numberOf rfl rfl rfl (by decide +kernel) ⟨Nat.le_of_ble_eq_true rfl, Nat.le_of_ble_eq_true rfl⟩) ⟨zz_blR, va_recv hKc hPc (ci := 4) (q0 := 0) rfl rfl, fun U hU hW => ⟨rfl, by rw [hU]; exact hPc, va_K.moved hW.alike hKc⟩⟩ rfl rfl hl.1 rfl (lv_room (Nat.le_of_ble_eq_true rfl)) dX5_isWhole_39 ⟨Nat.zero_le _, Nat.zero_le _⟩)) (fun r_39 hr_39 => ?_)
    have hr_39 : kNum w b = r_39 := Eq.symm hr_39
    subst hr_39
    refine lv_if_le (tgt := 58) hx hb dX5_isWhole_42 (by decide) (fun c_42 => ?_) (fun c_42 => ?_)
    ·
      refine lv_iconst (v := nI 0) hx hb dX5_isWhole_58 (by decide) ?_
      have hret : (nI 0 : Int32) = bI (kWh w b) := (by first | exact bI_0 (kWh_0 (i_pos (HP0 b hb9) c_42)) | exact bI_0 (b_and_f2 (d_f c_51)))
      refine zz_top hret ?_
      exact W.zret hx hb hr (zz_narZ (by first | exact zz_zb _ | exact zz_z0 | exact zz_z1)) (fun tS ht hW => ⟨_, rfl, rfl, ht⟩) (fun _ h => nomatch h) dX5_isWhole_59
    ·
      refine lv_iload_n hx hb dX5_isWhole_45 rfl (lv_at hl 2 rfl) ?_
      refine lv_aload_n hx hb dX5_isWhole_46 rfl (lv_at hl 0 rfl) ?_
      refine lv_iload_n hx hb dX5_isWhole_47 rfl (lv_at hl 1 rfl) ?_
      have hPc := hP.sub (ws' := [(qm, .inr (4, [.ref qmd, .ref qmt, .int (nI n), .int (bI on), .int lf, .int (nI dn), .int pl, .ref qml, .int (nI k), .ref qmk, .int (nI mz), .ref qmh, .int (nI nh), .int th, .ref qmw])), (qmd, .inl (cyI, 512, .inl w))]) [0, 1] rfl
      have hKc := hK.sub (tys' := [(cyI, .int), (cyZ, .boolean)]) [0, 1] rfl
      refine vp_callSi (va_Run.run (va_runV (As := [.int (nI b)]) (rest := [.int (nI (fb_ct (kSame w b) v))]) ⟨hx, hb, hml, hown, hts⟩ (c_X5_partsOf l dC dI cyI cyZ qm qmd qmt qml qmk qmh qmw n on lf dn pl k mz nh th w b (by omega)) (cwV 1 hts gX5_isWhole_X5_partsOf rfl rfl rfl (by decide +kernel) ⟨Nat.le_of_ble_eq_true rfl, Nat.le_of_ble_eq_true rfl⟩) ⟨zz_blR, va_recv hKc hPc (ci := 4) (q0 := 0) rfl rfl, fun U hU hW => ⟨rfl, by rw [hU]; exact hPc, va_K.moved hW.alike hKc⟩⟩ rfl rfl hl.1 rfl (lv_room (Nat.le_of_ble_eq_true rfl)) dX5_isWhole_48 ⟨Nat.zero_le _, Nat.zero_le _⟩)) (fun r_48 hr_48 => ?_)
      have hr_48 : kParts w b = r_48 := Eq.symm hr_48
      subst hr_48
      refine lv_icmp_ne (tgt := 58) hx hb dX5_isWhole_51 (by decide) (fun c_51 => ?_) (fun c_51 => ?_)
      ·
        rw [show v = 64 by omega] at c_51
        refine lv_iconst (v := nI 0) hx hb dX5_isWhole_58 (by decide) ?_
        have hret : (nI 0 : Int32) = bI (kWh w b) := (by first | exact bI_0 (kWh_0 (i_pos (HP0 b hb9) c_42)) | exact bI_0 (b_and_f2 (d_f c_51)))
        refine zz_top hret ?_
        exact W.zret hx hb hr (zz_narZ (by first | exact zz_zb _ | exact zz_z0 | exact zz_z1)) (fun tS ht hW => ⟨_, rfl, rfl, ht⟩) (fun _ h => nomatch h) dX5_isWhole_59
      ·
        rw [show v = 64 by omega] at c_51
        refine lv_iconst (v := nI 1) hx hb dX5_isWhole_54 (by decide) ?_
        refine lv_goto (tgt := 59) hx hb dX5_isWhole_55 (by decide) ?_
        have hret : (nI 1 : Int32) = bI (kWh w b) := bI_1 (b_and_t (nd_t (i_pos2 c_42)) (d_t c_51))
        refine zz_top hret ?_
        exact W.zret hx hb hr (zz_narZ (by first | exact zz_zb _ | exact zz_z0 | exact zz_z1)) (fun tS ht hW => ⟨_, rfl, rfl, ht⟩) (fun _ h => nomatch h) dX5_isWhole_59
  ·
    refine lv_iload_n hx hb dX5_isWhole_10 rfl (lv_at hl 2 rfl) ?_
    refine lv_aload_n hx hb dX5_isWhole_11 rfl (lv_at hl 0 rfl) ?_
    refine lv_iload_n hx hb dX5_isWhole_12 rfl (lv_at hl 3 rfl) ?_
    have hPc := hP.sub (ws' := [(qm, .inr (4, [.ref qmd, .ref qmt, .int (nI n), .int (bI on), .int lf, .int (nI dn), .int pl, .ref qml, .int (nI k), .ref qmk, .int (nI mz), .ref qmh, .int (nI nh), .int th, .ref qmw])), (qmd, .inl (cyI, 512, .inl w))]) [0, 1] rfl
    have hKc := hK.sub (tys' := [(cyI, .int), (cyZ, .boolean)]) [0, 1] rfl
    refine vp_callSi (va_Run.run (va_runV (As := [.int (nI v)]) (rest := [.int (nI (fb_ct (kSame w b) v))]) ⟨hx, hb, hml, hown, hts⟩ (c_X5_numberOf l dC dI cyI cyZ qm qmd qmt qml qmk qmh qmw n on lf dn pl k mz nh th w v (by omega)) (cwV 1 hts gX5_isWhole_X5_numberOf rfl rfl rfl (by decide +kernel) ⟨Nat.le_of_ble_eq_true rfl, Nat.le_of_ble_eq_true rfl⟩) ⟨zz_blR, va_recv hKc hPc (ci := 4) (q0 := 0) rfl rfl, fun U hU hW => ⟨rfl, by rw [hU]; exact hPc, va_K.moved hW.alike hKc⟩⟩ rfl rfl hl.1 rfl (lv_room (Nat.le_of_ble_eq_true rfl)) dX5_isWhole_13 ⟨Nat.zero_le _, Nat.zero_le _⟩)) (fun r_13 hr_13 => ?_)
    have hr_13 : kNum w v = r_13 := Eq.symm hr_13
    subst hr_13
    refine lv_aload_n hx hb dX5_isWhole_16 rfl (lv_at hl 0 rfl) ?_
    refine lv_iload_n hx hb dX5_isWhole_17 rfl (lv_at hl 1 rfl) ?_
    have hPc := hP.sub (ws' := [(qm, .inr (4, [.ref qmd, .ref qmt, .int (nI n), .int (bI on), .int lf, .int (nI dn), .int pl, .ref qml, .int (nI k), .ref qmk, .int (nI mz), .ref qmh, .int (nI nh), .int th, .ref qmw])), (qmd, .inl (cyI, 512, .inl w))]) [0, 1] rfl
    have hKc := hK.sub (tys' := [(cyI, .int), (cyZ, .boolean)]) [0, 1] rfl
    refine vp_callSi (va_Run.run (va_runV (As := [.int (nI b)]) (rest := [.int (kNum w v), .int (nI (fb_ct (kSame w b) v))]) ⟨hx, hb, hml, hown, hts⟩ (c_X5_numberOf l dC dI cyI cyZ qm qmd qmt qml qmk qmh qmw n on lf dn pl k mz nh th w b (by omega)) (cwV 1 hts gX5_isWhole_X5_numberOf rfl rfl rfl (by decide +kernel) ⟨Nat.le_of_ble_eq_true rfl, Nat.le_of_ble_eq_true rfl⟩) ⟨zz_blR, va_recv hKc hPc (ci := 4) (q0 := 0) rfl rfl, fun U hU hW => ⟨rfl, by rw [hU]; exact hPc, va_K.moved hW.alike hKc⟩⟩ rfl rfl hl.1 rfl (lv_room (Nat.le_of_ble_eq_true rfl)) dX5_isWhole_18 ⟨Nat.zero_le _, Nat.zero_le _⟩)) (fun r_18 hr_18 => ?_)
    have hr_18 : kNum w b = r_18 := Eq.symm hr_18
    subst hr_18
    refine lv_icmp_ne (tgt := 28) hx hb dX5_isWhole_21 (by decide) (fun c_21 => ?_) (fun c_21 => ?_)
    ·
      refine lv_iconst (v := nI 0) hx hb dX5_isWhole_28 (by decide) ?_
      refine lv_iadd hx hb dX5_isWhole_29 ?_
      refine zz_top (nI_add (fb_ct (kSame w b) v) 0) ?_
      refine lv_istore_n (lv' := [(2, .int (nI (fb_ct (kSame w b) v))), (0, .ref qm), (1, .int (nI b)), (3, .int (nI v))]) hx hb dX5_isWhole_30 rfl hl (by decide) rfl (fun ls hl => ?_)
      refine lv_iinc (v := nI (v + 1)) (lv' := [(3, .int (nI (v + 1))), (2, .int (nI (fb_ct (kSame w b) v))), (0, .ref qm), (1, .int (nI b))]) hx hb dX5_isWhole_31 hl (k := 3) rfl (nI_add v 1) (by decide) rfl (fun ls hl => ?_)
      refine lv_goto (tgt := 4) hx hb dX5_isWhole_34 (by decide) ?_
      rw [kct_n (q := kSame w b) (k := v) (d_f c_21)] at hl
      -- local 2: .int (nI (fb_ct (kSame w b) v)) ~ .int (nI (fb_ct (kSame w b) (v + 1)))
      exact ih4 (v + 1) _ ⟨by omega, lv_sub hl [2, 3, 1, 0] rfl⟩ (by first | omega | (dsimp only; omega))
    ·
      refine lv_iconst (v := nI 1) hx hb dX5_isWhole_24 (by decide) ?_
      refine lv_goto (tgt := 29) hx hb dX5_isWhole_25 (by decide) ?_
      refine lv_iadd hx hb dX5_isWhole_29 ?_
      refine zz_top (nI_add (fb_ct (kSame w b) v) 1) ?_
      refine lv_istore_n (lv' := [(2, .int (nI (fb_ct (kSame w b) v + 1))), (0, .ref qm), (1, .int (nI b)), (3, .int (nI v))]) hx hb dX5_isWhole_30 rfl hl (by decide) rfl (fun ls hl => ?_)
      refine lv_iinc (v := nI (v + 1)) (lv' := [(3, .int (nI (v + 1))), (2, .int (nI (fb_ct (kSame w b) v + 1))), (0, .ref qm), (1, .int (nI b))]) hx hb dX5_isWhole_31 hl (k := 3) rfl (nI_add v 1) (by decide) rfl (fun ls hl => ?_)
      refine lv_goto (tgt := 4) hx hb dX5_isWhole_34 (by decide) ?_
      rw [kct_y (q := kSame w b) (k := v) (d_t c_21)] at hl
      -- local 2: .int (nI (fb_ct (kSame w b) v + 1)) ~ .int (nI (fb_ct (kSame w b) (v + 1)))
      exact ih4 (v + 1) _ ⟨by omega, lv_sub hl [2, 3, 1, 0] rfl⟩ (by first | omega | (dsimp only; omega))
set_option maxHeartbeats 4000000 in
set_option maxRecDepth 100000 in
theorem c_X5_isLive (l : Launch) (dC : Nat → ClassId) (dI : Nat → Nat → Nat) (cyI cyZ : ClassId) (qm qmd qmt qml qmk qmh qmw : Nat) (n : Nat) (on : Bool) (lf : Int32) (dn : Nat) (pl : Int32) (k mz nh : Nat) (th : Int32) (w : Nat → Int32) (b : Nat) (hb9 : b < 64) (HP0 : kPos w) : Met l yX5_isLive wsX5_isLive ({ frames := 2, cells := 0, slots := 0, locals := 44 }) (va_Pc [.ref qm, .int (nI b)] (fun U => va_P (dC, dI) vwCl [(qm, .inr (4, [.ref qmd, .ref qmt, .int (nI n), .int (bI on), .int lf, .int (nI dn), .int pl, .ref qml, .int (nI k), .ref qmk, .int (nI mz), .ref qmh, .int (nI nh), .int th, .ref qmw])), (qmd, .inl (cyI, 512, .inl w))] U.heap ∧ va_K (dC, dI) vwCl [(cyI, .int), (cyZ, .boolean)] U)) (vp_Si (fun r => r = bI (kLive w b))) 0 0 (fun _ => False) := by
  refine Met.ofW (cc := cX5_isLive) (maxL := 3) (ret := (some .boolean)) (by decide) rfl ?_
  intro pz ez sS mM args below meth cC s₁ B hml hv
  obtain ⟨rfl, hP, hK⟩ := hv
  have hx := B.exec
  have hb := B.bytes
  have hr := B.returns
  have hts := atoms_spec (ws := wsX5_isLive) B.pre
  have hown : sS.vm.findClass RX5 = some mM.cls := findClass_of_methodNamed B.named
  have hlocks := B.notSynchronized
  have hl := lv_entry ([.ref qm, .int (nI b)]) (n := 3) (Nat.le_of_ble_eq_true rfl)
  rw [lg_entry_eq]
  generalize (lg_sl ([.ref qm, .int (nI b)]) ++ List.replicate (3 - (lg_sl ([.ref qm, .int (nI b)])).length) Slot.unset).toArray = ls at hl ⊢
  have hl : lv_has ls 3 [(0, .ref qm), (1, .int (nI b))] := hl
  refine lv_aload_n hx hb dX5_isLive_0 rfl (lv_at hl 0 rfl) ?_
  refine lv_iload_n hx hb dX5_isLive_1 rfl (lv_at hl 1 rfl) ?_
  have hPc := hP.sub (ws' := [(qm, .inr (4, [.ref qmd, .ref qmt, .int (nI n), .int (bI on), .int lf, .int (nI dn), .int pl, .ref qml, .int (nI k), .ref qmk, .int (nI mz), .ref qmh, .int (nI nh), .int th, .ref qmw])), (qmd, .inl (cyI, 512, .inl w))]) [0, 1] rfl
  have hKc := hK.sub (tys' := [(cyI, .int), (cyZ, .boolean)]) [0, 1] rfl
  refine vp_callSi (va_Run.run (va_runV (As := [.int (nI b)]) (rest := []) ⟨hx, hb, hml, hown, hts⟩ (c_X5_isWhole l dC dI cyI cyZ qm qmd qmt qml qmk qmh qmw n on lf dn pl k mz nh th w b (by omega) (HP0)) (cwV 1 hts gX5_isLive_X5_isWhole rfl rfl rfl (by decide +kernel) ⟨Nat.le_of_ble_eq_true rfl, Nat.le_of_ble_eq_true rfl⟩) ⟨zz_blR, va_recv hKc hPc (ci := 4) (q0 := 0) rfl rfl, fun U hU hW => ⟨rfl, by rw [hU]; exact hPc, va_K.moved hW.alike hKc⟩⟩ rfl rfl hl.1 rfl (lv_room (Nat.le_of_ble_eq_true rfl)) dX5_isLive_2 ⟨Nat.zero_le _, Nat.zero_le _⟩)) (fun r_2 hr_2 => ?_)
  have hr_2 : bI (kWh w b) = r_2 := Eq.symm hr_2
  subst hr_2
  refine zb_if_ne (tgt := 10) hx hb dX5_isLive_5 (by decide) (fun c_5 => ?_) (fun c_5 => ?_)
  ·
    refine lv_iconst (v := nI 0) hx hb dX5_isLive_10 (by decide) ?_
    refine lv_istore_n (lv' := [(2, .int (nI 0)), (0, .ref qm), (1, .int (nI b))]) hx hb dX5_isLive_11 rfl hl (by decide) rfl (fun ls hl => ?_)
    refine zz_loopR (pc := 12) (μ := fun (v : Nat) => 64 - v) (Inv := fun (v : Nat) (ls : Array Slot) => (v ≤ 64) ∧ (∀ j, j < v → kOd w b j = false) ∧ lv_has ls 3 [(0, .ref qm), (1, .int (nI b)), (2, .int (nI v))]) (x0 := (0)) ⟨by omega, no_lt0, lv_sub hl [1, 2, 0] rfl⟩ ?_
    intro v ls hI ih12
    obtain ⟨hv9, hj, hl⟩ := hI
    have hl : lv_has ls 3 [(0, .ref qm), (1, .int (nI b)), (2, .int (nI v))] := hl
    have hv9 : v ≤ 64 := hv9
    have hj : ∀ j, j < v → kOd w b j = false := hj
    refine lv_iload_n hx hb dX5_isLive_12 rfl (lv_at hl 2 rfl) ?_
    refine lv_bipush (v := nI 64) hx hb dX5_isLive_13 (by decide) ?_
    refine zn_icmp_ge (tgt := 60) hx hb dX5_isLive_15 (by decide) (by omega) (by omega) (fun c_15 => ?_) (fun c_15 => ?_)
    ·
      refine lv_iconst (v := nI 1) hx hb dX5_isLive_60 (by decide) ?_
      have hret : (nI 1 : Int32) = bI (kLive w b) := bI_1 (b_and_t c_5 (n_t (zAny_f (fun j h => hj j (by omega)))))
      refine zz_top hret ?_
      exact W.zret hx hb hr (zz_narZ (by first | exact zz_zb _ | exact zz_z0 | exact zz_z1)) (fun tS ht hW => ⟨_, rfl, rfl, ht⟩) (fun _ h => nomatch h) dX5_isLive_61
    ·
      refine lv_aload_n hx hb dX5_isLive_18 rfl (lv_at hl 0 rfl) ?_
      refine lv_iload_n hx hb dX5_isLive_19 rfl (lv_at hl 2 rfl) ?_
      have hPc := hP.sub (ws' := [(qm, .inr (4, [.ref qmd, .ref qmt, .int (nI n), .int (bI on), .int lf, .int (nI dn), .int pl, .ref qml, .int (nI k), .ref qmk, .int (nI mz), .ref qmh, .int (nI nh), .int th, .ref qmw])), (qmd, .inl (cyI, 512, .inl w))]) [0, 1] rfl
      have hKc := hK.sub (tys' := [(cyI, .int), (cyZ, .boolean)]) [0, 1] rfl
      refine vp_callSi (va_Run.run (va_runV (As := [.int (nI v)]) (rest := []) ⟨hx, hb, hml, hown, hts⟩ (c_X5_numberOf l dC dI cyI cyZ qm qmd qmt qml qmk qmh qmw n on lf dn pl k mz nh th w v (by omega)) (cwV 1 hts gX5_isLive_X5_numberOf rfl rfl rfl (by decide +kernel) ⟨Nat.le_of_ble_eq_true rfl, Nat.le_of_ble_eq_true rfl⟩) ⟨zz_blR, va_recv hKc hPc (ci := 4) (q0 := 0) rfl rfl, fun U hU hW => ⟨rfl, by rw [hU]; exact hPc, va_K.moved hW.alike hKc⟩⟩ rfl rfl hl.1 rfl (lv_room (Nat.le_of_ble_eq_true rfl)) dX5_isLive_20 ⟨Nat.zero_le _, Nat.zero_le _⟩)) (fun r_20 hr_20 => ?_)
      have hr_20 : kNum w v = r_20 := Eq.symm hr_20
      subst hr_20
      refine lv_aload_n hx hb dX5_isLive_23 rfl (lv_at hl 0 rfl) ?_
      refine lv_iload_n hx hb dX5_isLive_24 rfl (lv_at hl 1 rfl) ?_
      have hPc := hP.sub (ws' := [(qm, .inr (4, [.ref qmd, .ref qmt, .int (nI n), .int (bI on), .int lf, .int (nI dn), .int pl, .ref qml, .int (nI k), .ref qmk, .int (nI mz), .ref qmh, .int (nI nh), .int th, .ref qmw])), (qmd, .inl (cyI, 512, .inl w))]) [0, 1] rfl
      have hKc := hK.sub (tys' := [(cyI, .int), (cyZ, .boolean)]) [0, 1] rfl
      refine vp_callSi (va_Run.run (va_runV (As := [.int (nI b)]) (rest := [.int (kNum w v)]) ⟨hx, hb, hml, hown, hts⟩ (c_X5_numberOf l dC dI cyI cyZ qm qmd qmt qml qmk qmh qmw n on lf dn pl k mz nh th w b (by omega)) (cwV 1 hts gX5_isLive_X5_numberOf rfl rfl rfl (by decide +kernel) ⟨Nat.le_of_ble_eq_true rfl, Nat.le_of_ble_eq_true rfl⟩) ⟨zz_blR, va_recv hKc hPc (ci := 4) (q0 := 0) rfl rfl, fun U hU hW => ⟨rfl, by rw [hU]; exact hPc, va_K.moved hW.alike hKc⟩⟩ rfl rfl hl.1 rfl (lv_room (Nat.le_of_ble_eq_true rfl)) dX5_isLive_25 ⟨Nat.zero_le _, Nat.zero_le _⟩)) (fun r_25 hr_25 => ?_)
      have hr_25 : kNum w b = r_25 := Eq.symm hr_25
      subst hr_25
      refine lv_icmp_le (tgt := 54) hx hb dX5_isLive_28 (by decide) (fun c_28 => ?_) (fun c_28 => ?_)
      ·
        refine lv_iinc (v := nI (v + 1)) (lv' := [(2, .int (nI (v + 1))), (0, .ref qm), (1, .int (nI b))]) hx hb dX5_isLive_54 hl (k := 2) rfl (nI_add v 1) (by decide) rfl (fun ls hl => ?_)
        refine lv_goto (tgt := 12) hx hb dX5_isLive_57 (by decide) ?_
        exact ih12 (v + 1) _ ⟨by omega, lt_step hj (by first | exact b_and_f2 (b_and_f2 (d_f (Int32.not_lt.mpr c_28))) | exact b_and_f2 (b_and_f1 (d_f c_41)) | exact b_and_f1 c_49), lv_sub hl [1, 2, 0] rfl⟩ (by first | omega | (dsimp only; omega))
      ·
        refine lv_aload_n hx hb dX5_isLive_31 rfl (lv_at hl 0 rfl) ?_
        refine lv_iload_n hx hb dX5_isLive_32 rfl (lv_at hl 2 rfl) ?_
        have hPc := hP.sub (ws' := [(qm, .inr (4, [.ref qmd, .ref qmt, .int (nI n), .int (bI on), .int lf, .int (nI dn), .int pl, .ref qml, .int (nI k), .ref qmk, .int (nI mz), .ref qmh, .int (nI nh), .int th, .ref qmw])), (qmd, .inl (cyI, 512, .inl w))]) [0, 1] rfl
        have hKc := hK.sub (tys' := [(cyI, .int), (cyZ, .boolean)]) [0, 1] rfl
        refine vp_callSi (va_Run.run (va_runV (As := [.int (nI v)]) (rest := []) ⟨hx, hb, hml, hown, hts⟩ (c_X5_keyOf l dC dI cyI cyZ qm qmd qmt qml qmk qmh qmw n on lf dn pl k mz nh th w v (by omega)) (cwV 1 hts gX5_isLive_X5_keyOf rfl rfl rfl (by decide +kernel) ⟨Nat.le_of_ble_eq_true rfl, Nat.le_of_ble_eq_true rfl⟩) ⟨zz_blR, va_recv hKc hPc (ci := 4) (q0 := 0) rfl rfl, fun U hU hW => ⟨rfl, by rw [hU]; exact hPc, va_K.moved hW.alike hKc⟩⟩ rfl rfl hl.1 rfl (lv_room (Nat.le_of_ble_eq_true rfl)) dX5_isLive_33 ⟨Nat.zero_le _, Nat.zero_le _⟩)) (fun r_33 hr_33 => ?_)
        have hr_33 : kKey w v = r_33 := Eq.symm hr_33
        subst hr_33
        refine lv_aload_n hx hb dX5_isLive_36 rfl (lv_at hl 0 rfl) ?_
        refine lv_iload_n hx hb dX5_isLive_37 rfl (lv_at hl 1 rfl) ?_
        have hPc := hP.sub (ws' := [(qm, .inr (4, [.ref qmd, .ref qmt, .int (nI n), .int (bI on), .int lf, .int (nI dn), .int pl, .ref qml, .int (nI k), .ref qmk, .int (nI mz), .ref qmh, .int (nI nh), .int th, .ref qmw])), (qmd, .inl (cyI, 512, .inl w))]) [0, 1] rfl
        have hKc := hK.sub (tys' := [(cyI, .int), (cyZ, .boolean)]) [0, 1] rfl
        refine vp_callSi (va_Run.run (va_runV (As := [.int (nI b)]) (rest := [.int (kKey w v)]) ⟨hx, hb, hml, hown, hts⟩ (c_X5_keyOf l dC dI cyI cyZ qm qmd qmt qml qmk qmh qmw n on lf dn pl k mz nh th w b (by omega)) (cwV 1 hts gX5_isLive_X5_keyOf rfl rfl rfl (by decide +kernel) ⟨Nat.le_of_ble_eq_true rfl, Nat.le_of_ble_eq_true rfl⟩) ⟨zz_blR, va_recv hKc hPc (ci := 4) (q0 := 0) rfl rfl, fun U hU hW => ⟨rfl, by rw [hU]; exact hPc, va_K.moved hW.alike hKc⟩⟩ rfl rfl hl.1 rfl (lv_room (Nat.le_of_ble_eq_true rfl)) dX5_isLive_38 ⟨Nat.zero_le _, Nat.zero_le _⟩)) (fun r_38 hr_38 => ?_)
        have hr_38 : kKey w b = r_38 := Eq.symm hr_38
        subst hr_38
        refine lv_icmp_ne (tgt := 54) hx hb dX5_isLive_41 (by decide) (fun c_41 => ?_) (fun c_41 => ?_)
        ·
          refine lv_iinc (v := nI (v + 1)) (lv' := [(2, .int (nI (v + 1))), (0, .ref qm), (1, .int (nI b))]) hx hb dX5_isLive_54 hl (k := 2) rfl (nI_add v 1) (by decide) rfl (fun ls hl => ?_)
          refine lv_goto (tgt := 12) hx hb dX5_isLive_57 (by decide) ?_
          exact ih12 (v + 1) _ ⟨by omega, lt_step hj (by first | exact b_and_f2 (b_and_f2 (d_f (Int32.not_lt.mpr c_28))) | exact b_and_f2 (b_and_f1 (d_f c_41)) | exact b_and_f1 c_49), lv_sub hl [1, 2, 0] rfl⟩ (by first | omega | (dsimp only; omega))
        ·
          refine lv_aload_n hx hb dX5_isLive_44 rfl (lv_at hl 0 rfl) ?_
          refine lv_iload_n hx hb dX5_isLive_45 rfl (lv_at hl 2 rfl) ?_
          have hPc := hP.sub (ws' := [(qm, .inr (4, [.ref qmd, .ref qmt, .int (nI n), .int (bI on), .int lf, .int (nI dn), .int pl, .ref qml, .int (nI k), .ref qmk, .int (nI mz), .ref qmh, .int (nI nh), .int th, .ref qmw])), (qmd, .inl (cyI, 512, .inl w))]) [0, 1] rfl
          have hKc := hK.sub (tys' := [(cyI, .int), (cyZ, .boolean)]) [0, 1] rfl
          refine vp_callSi (va_Run.run (va_runV (As := [.int (nI v)]) (rest := []) ⟨hx, hb, hml, hown, hts⟩ (c_X5_isWhole l dC dI cyI cyZ qm qmd qmt qml qmk qmh qmw n on lf dn pl k mz nh th w v (by omega) (HP0)) (cwV 1 hts gX5_isLive_X5_isWhole rfl rfl rfl (by decide +kernel) ⟨Nat.le_of_ble_eq_true rfl, Nat.le_of_ble_eq_true rfl⟩) ⟨zz_blR, va_recv hKc hPc (ci := 4) (q0 := 0) rfl rfl, fun U hU hW => ⟨rfl, by rw [hU]; exact hPc, va_K.moved hW.alike hKc⟩⟩ rfl rfl hl.1 rfl (lv_room (Nat.le_of_ble_eq_true rfl)) dX5_isLive_46 ⟨Nat.zero_le _, Nat.zero_le _⟩)) (fun r_46 hr_46 => ?_)
          have hr_46 : bI (kWh w v) = r_46 := Eq.symm hr_46
          subst hr_46
          refine zb_if_eq (tgt := 54) hx hb dX5_isLive_49 (by decide) (fun c_49 => ?_) (fun c_49 => ?_)
          ·
            refine lv_iinc (v := nI (v + 1)) (lv' := [(2, .int (nI (v + 1))), (0, .ref qm), (1, .int (nI b))]) hx hb dX5_isLive_54 hl (k := 2) rfl (nI_add v 1) (by decide) rfl (fun ls hl => ?_)
            refine lv_goto (tgt := 12) hx hb dX5_isLive_57 (by decide) ?_
            exact ih12 (v + 1) _ ⟨by omega, lt_step hj (by first | exact b_and_f2 (b_and_f2 (d_f (Int32.not_lt.mpr c_28))) | exact b_and_f2 (b_and_f1 (d_f c_41)) | exact b_and_f1 c_49), lv_sub hl [1, 2, 0] rfl⟩ (by first | omega | (dsimp only; omega))
          ·
            refine lv_iconst (v := nI 0) hx hb dX5_isLive_52 (by decide) ?_
            have hret : (nI 0 : Int32) = bI (kLive w b) := bI_0 (b_and_f2 (n_f (zAny_t.mpr ⟨v, by omega, b_and_t c_49 (b_and_t (d_t c_41) (d_t (Int32.not_le.mp c_28)))⟩)))
            refine zz_top hret ?_
            exact W.zret hx hb hr (zz_narZ (by first | exact zz_zb _ | exact zz_z0 | exact zz_z1)) (fun tS ht hW => ⟨_, rfl, rfl, ht⟩) (fun _ h => nomatch h) dX5_isLive_53
  ·
    refine lv_iconst (v := nI 0) hx hb dX5_isLive_8 (by decide) ?_
    have hret : (nI 0 : Int32) = bI (kLive w b) := bI_0 (b_and_f1 c_5)
    refine zz_top hret ?_
    exact W.zret hx hb hr (zz_narZ (by first | exact zz_zb _ | exact zz_z0 | exact zz_z1)) (fun tS ht hW => ⟨_, rfl, rfl, ht⟩) (fun _ h => nomatch h) dX5_isLive_9
set_option maxHeartbeats 4000000 in
set_option maxRecDepth 100000 in
theorem c_X5_find (l : Launch) (dC : Nat → ClassId) (dI : Nat → Nat → Nat) (cyI cyZ : ClassId) (qm qmd qmt qml qmk qmh qmw : Nat) (n : Nat) (on : Bool) (lf : Int32) (dn : Nat) (pl : Int32) (k mz nh : Nat) (th : Int32) (w : Nat → Int32) (ky : Int32) (HP0 : kPos w) : Met l yX5_find wsX5_find ({ frames := 3, cells := 0, slots := 0, locals := 66 }) (va_Pc [.ref qm, .int ky] (fun U => va_P (dC, dI) vwCl [(qm, .inr (4, [.ref qmd, .ref qmt, .int (nI n), .int (bI on), .int lf, .int (nI dn), .int pl, .ref qml, .int (nI k), .ref qmk, .int (nI mz), .ref qmh, .int (nI nh), .int th, .ref qmw])), (qmd, .inl (cyI, 512, .inl w))] U.heap ∧ va_K (dC, dI) vwCl [(cyI, .int), (cyZ, .boolean)] U)) (vp_Si (fun r => r = zFI (zFst (kIs (kLive w) w ky) 64) 64)) 0 0 (fun _ => False) := by
  refine Met.ofW (cc := cX5_find) (maxL := 3) (ret := (some .int)) (by decide) rfl ?_
  intro pz ez sS mM args below meth cC s₁ B hml hv
  obtain ⟨rfl, hP, hK⟩ := hv
  have hx := B.exec
  have hb := B.bytes
  have hr := B.returns
  have hts := atoms_spec (ws := wsX5_find) B.pre
  have hown : sS.vm.findClass RX5 = some mM.cls := findClass_of_methodNamed B.named
  have hlocks := B.notSynchronized
  have hl := lv_entry ([.ref qm, .int ky]) (n := 3) (Nat.le_of_ble_eq_true rfl)
  rw [lg_entry_eq]
  generalize (lg_sl ([.ref qm, .int ky]) ++ List.replicate (3 - (lg_sl ([.ref qm, .int ky])).length) Slot.unset).toArray = ls at hl ⊢
  have hl : lv_has ls 3 [(0, .ref qm), (1, .int ky)] := hl
  refine lv_iconst (v := nI 0) hx hb dX5_find_0 (by decide) ?_
  refine lv_istore_n (lv' := [(2, .int (nI 0)), (0, .ref qm), (1, .int ky)]) hx hb dX5_find_1 rfl hl (by decide) rfl (fun ls hl => ?_)
  refine zz_loopR (pc := 2) (μ := fun (v : Nat) => 64 - v) (Inv := fun (v : Nat) (ls : Array Slot) => (v ≤ 64) ∧ (∀ j, j < v → kIs (kLive w) w ky j = false) ∧ lv_has ls 3 [(0, .ref qm), (1, .int ky), (2, .int (nI v))]) (x0 := (0)) ⟨by omega, no_lt0, lv_sub hl [1, 2, 0] rfl⟩ ?_
  intro v ls hI ih2
  obtain ⟨hv9, hj, hl⟩ := hI
  have hl : lv_has ls 3 [(0, .ref qm), (1, .int ky), (2, .int (nI v))] := hl
  have hv9 : v ≤ 64 := hv9
  have hj : ∀ j, j < v → kIs (kLive w) w ky j = false := hj
  refine lv_iload_n hx hb dX5_find_2 rfl (lv_at hl 2 rfl) ?_
  refine lv_bipush (v := nI 64) hx hb dX5_find_3 (by decide) ?_
  refine zn_icmp_ge (tgt := 49) hx hb dX5_find_5 (by decide) (by omega) (by omega) (fun c_5 => ?_) (fun c_5 => ?_)
  ·
    refine lv_iconst (v := (-1)) hx hb dX5_find_49 (by decide) ?_
    have hret : ((-1) : Int32) = zFI (zFst (kIs (kLive w) w ky) 64) 64 := zFI_n (fun j h => hj j (by omega))
    refine zz_top hret ?_
    exact W.iret hx hb hr (fun tS ht hW => ⟨_, rfl, rfl, ht⟩) (fun _ h => nomatch h) dX5_find_50
  ·
    refine lv_aload_n hx hb dX5_find_8 rfl (lv_at hl 0 rfl) ?_
    refine lv_iload_n hx hb dX5_find_9 rfl (lv_at hl 2 rfl) ?_
    have hPc := hP.sub (ws' := [(qm, .inr (4, [.ref qmd, .ref qmt, .int (nI n), .int (bI on), .int lf, .int (nI dn), .int pl, .ref qml, .int (nI k), .ref qmk, .int (nI mz), .ref qmh, .int (nI nh), .int th, .ref qmw])), (qmd, .inl (cyI, 512, .inl w))]) [0, 1] rfl
    have hKc := hK.sub (tys' := [(cyI, .int), (cyZ, .boolean)]) [0, 1] rfl
    refine vp_callSi (va_Run.run (va_runV (As := [.int (nI v)]) (rest := []) ⟨hx, hb, hml, hown, hts⟩ (c_X5_numberOf l dC dI cyI cyZ qm qmd qmt qml qmk qmh qmw n on lf dn pl k mz nh th w v (by omega)) (cwV 1 hts gX5_find_X5_numberOf rfl rfl rfl (by decide +kernel) ⟨Nat.le_of_ble_eq_true rfl, Nat.le_of_ble_eq_true rfl⟩) ⟨zz_blR, va_recv hKc hPc (ci := 4) (q0 := 0) rfl rfl, fun U hU hW => ⟨rfl, by rw [hU]; exact hPc, va_K.moved hW.alike hKc⟩⟩ rfl rfl hl.1 rfl (lv_room (Nat.le_of_ble_eq_true rfl)) dX5_find_10 ⟨Nat.zero_le _, Nat.zero_le _⟩)) (fun r_10 hr_10 => ?_)
    have hr_10 : kNum w v = r_10 := Eq.symm hr_10
    subst hr_10
    refine lv_if_le (tgt := 43) hx hb dX5_find_13 (by decide) (fun c_13 => ?_) (fun c_13 => ?_)
    ·
      refine lv_iinc (v := nI (v + 1)) (lv' := [(2, .int (nI (v + 1))), (0, .ref qm), (1, .int ky)]) hx hb dX5_find_43 hl (k := 2) rfl (nI_add v 1) (by decide) rfl (fun ls hl => ?_)
      refine lv_goto (tgt := 2) hx hb dX5_find_46 (by decide) ?_
      exact ih2 (v + 1) _ ⟨by omega, lt_step hj (by first | exact b_and_f1 (kLive_0 (i_pos (HP0 v (by omega)) c_13)) | exact b_and_f2 (b_and_f2 (d_f c_22)) | exact b_and_f2 (b_and_f1 (d_f c_30)) | exact b_and_f1 c_38), lv_sub hl [1, 2, 0] rfl⟩ (by first | omega | (dsimp only; omega))
    ·
      refine lv_aload_n hx hb dX5_find_16 rfl (lv_at hl 0 rfl) ?_
      refine lv_iload_n hx hb dX5_find_17 rfl (lv_at hl 2 rfl) ?_
      have hPc := hP.sub (ws' := [(qm, .inr (4, [.ref qmd, .ref qmt, .int (nI n), .int (bI on), .int lf, .int (nI dn), .int pl, .ref qml, .int (nI k), .ref qmk, .int (nI mz), .ref qmh, .int (nI nh), .int th, .ref qmw])), (qmd, .inl (cyI, 512, .inl w))]) [0, 1] rfl
      have hKc := hK.sub (tys' := [(cyI, .int), (cyZ, .boolean)]) [0, 1] rfl
      refine vp_callSi (va_Run.run (va_runV (As := [.int (nI v)]) (rest := []) ⟨hx, hb, hml, hown, hts⟩ (c_X5_keyOf l dC dI cyI cyZ qm qmd qmt qml qmk qmh qmw n on lf dn pl k mz nh th w v (by omega)) (cwV 1 hts gX5_find_X5_keyOf rfl rfl rfl (by decide +kernel) ⟨Nat.le_of_ble_eq_true rfl, Nat.le_of_ble_eq_true rfl⟩) ⟨zz_blR, va_recv hKc hPc (ci := 4) (q0 := 0) rfl rfl, fun U hU hW => ⟨rfl, by rw [hU]; exact hPc, va_K.moved hW.alike hKc⟩⟩ rfl rfl hl.1 rfl (lv_room (Nat.le_of_ble_eq_true rfl)) dX5_find_18 ⟨Nat.zero_le _, Nat.zero_le _⟩)) (fun r_18 hr_18 => ?_)
      have hr_18 : kKey w v = r_18 := Eq.symm hr_18
      subst hr_18
      refine lv_iload_n hx hb dX5_find_21 rfl (lv_at hl 1 rfl) ?_
      refine lv_icmp_ne (tgt := 43) hx hb dX5_find_22 (by decide) (fun c_22 => ?_) (fun c_22 => ?_)
      ·
        refine lv_iinc (v := nI (v + 1)) (lv' := [(2, .int (nI (v + 1))), (0, .ref qm), (1, .int ky)]) hx hb dX5_find_43 hl (k := 2) rfl (nI_add v 1) (by decide) rfl (fun ls hl => ?_)
        refine lv_goto (tgt := 2) hx hb dX5_find_46 (by decide) ?_
        exact ih2 (v + 1) _ ⟨by omega, lt_step hj (by first | exact b_and_f1 (kLive_0 (i_pos (HP0 v (by omega)) c_13)) | exact b_and_f2 (b_and_f2 (d_f c_22)) | exact b_and_f2 (b_and_f1 (d_f c_30)) | exact b_and_f1 c_38), lv_sub hl [1, 2, 0] rfl⟩ (by first | omega | (dsimp only; omega))
      ·
        refine lv_aload_n hx hb dX5_find_25 rfl (lv_at hl 0 rfl) ?_
        refine lv_iload_n hx hb dX5_find_26 rfl (lv_at hl 2 rfl) ?_
        have hPc := hP.sub (ws' := [(qm, .inr (4, [.ref qmd, .ref qmt, .int (nI n), .int (bI on), .int lf, .int (nI dn), .int pl, .ref qml, .int (nI k), .ref qmk, .int (nI mz), .ref qmh, .int (nI nh), .int th, .ref qmw])), (qmd, .inl (cyI, 512, .inl w))]) [0, 1] rfl
        have hKc := hK.sub (tys' := [(cyI, .int), (cyZ, .boolean)]) [0, 1] rfl
        refine vp_callSi (va_Run.run (va_runV (As := [.int (nI v)]) (rest := []) ⟨hx, hb, hml, hown, hts⟩ (c_X5_partOf l dC dI cyI cyZ qm qmd qmt qml qmk qmh qmw n on lf dn pl k mz nh th w v (by omega)) (cwV 1 hts gX5_find_X5_partOf rfl rfl rfl (by decide +kernel) ⟨Nat.le_of_ble_eq_true rfl, Nat.le_of_ble_eq_true rfl⟩) ⟨zz_blR, va_recv hKc hPc (ci := 4) (q0 := 0) rfl rfl, fun U hU hW => ⟨rfl, by rw [hU]; exact hPc, va_K.moved hW.alike hKc⟩⟩ rfl rfl hl.1 rfl (lv_room (Nat.le_of_ble_eq_true rfl)) dX5_find_27 ⟨Nat.zero_le _, Nat.zero_le _⟩)) (fun r_27 hr_27 => ?_)
        have hr_27 : kPart w v = r_27 := Eq.symm hr_27
        subst hr_27
        refine lv_if_ne (tgt := 43) hx hb dX5_find_30 (by decide) (fun c_30 => ?_) (fun c_30 => ?_)
        ·
          refine lv_iinc (v := nI (v + 1)) (lv' := [(2, .int (nI (v + 1))), (0, .ref qm), (1, .int ky)]) hx hb dX5_find_43 hl (k := 2) rfl (nI_add v 1) (by decide) rfl (fun ls hl => ?_)
          refine lv_goto (tgt := 2) hx hb dX5_find_46 (by decide) ?_
          exact ih2 (v + 1) _ ⟨by omega, lt_step hj (by first | exact b_and_f1 (kLive_0 (i_pos (HP0 v (by omega)) c_13)) | exact b_and_f2 (b_and_f2 (d_f c_22)) | exact b_and_f2 (b_and_f1 (d_f c_30)) | exact b_and_f1 c_38), lv_sub hl [1, 2, 0] rfl⟩ (by first | omega | (dsimp only; omega))
        ·
          refine lv_aload_n hx hb dX5_find_33 rfl (lv_at hl 0 rfl) ?_
          refine lv_iload_n hx hb dX5_find_34 rfl (lv_at hl 2 rfl) ?_
          have hPc := hP.sub (ws' := [(qm, .inr (4, [.ref qmd, .ref qmt, .int (nI n), .int (bI on), .int lf, .int (nI dn), .int pl, .ref qml, .int (nI k), .ref qmk, .int (nI mz), .ref qmh, .int (nI nh), .int th, .ref qmw])), (qmd, .inl (cyI, 512, .inl w))]) [0, 1] rfl
          have hKc := hK.sub (tys' := [(cyI, .int), (cyZ, .boolean)]) [0, 1] rfl
          refine vp_callSi (va_Run.run (va_runV (As := [.int (nI v)]) (rest := []) ⟨hx, hb, hml, hown, hts⟩ (c_X5_isLive l dC dI cyI cyZ qm qmd qmt qml qmk qmh qmw n on lf dn pl k mz nh th w v (by omega) (HP0)) (cwV 1 hts gX5_find_X5_isLive rfl rfl rfl (by decide +kernel) ⟨Nat.le_of_ble_eq_true rfl, Nat.le_of_ble_eq_true rfl⟩) ⟨zz_blR, va_recv hKc hPc (ci := 4) (q0 := 0) rfl rfl, fun U hU hW => ⟨rfl, by rw [hU]; exact hPc, va_K.moved hW.alike hKc⟩⟩ rfl rfl hl.1 rfl (lv_room (Nat.le_of_ble_eq_true rfl)) dX5_find_35 ⟨Nat.zero_le _, Nat.zero_le _⟩)) (fun r_35 hr_35 => ?_)
          have hr_35 : bI (kLive w v) = r_35 := Eq.symm hr_35
          subst hr_35
          refine zb_if_eq (tgt := 43) hx hb dX5_find_38 (by decide) (fun c_38 => ?_) (fun c_38 => ?_)
          ·
            refine lv_iinc (v := nI (v + 1)) (lv' := [(2, .int (nI (v + 1))), (0, .ref qm), (1, .int ky)]) hx hb dX5_find_43 hl (k := 2) rfl (nI_add v 1) (by decide) rfl (fun ls hl => ?_)
            refine lv_goto (tgt := 2) hx hb dX5_find_46 (by decide) ?_
            exact ih2 (v + 1) _ ⟨by omega, lt_step hj (by first | exact b_and_f1 (kLive_0 (i_pos (HP0 v (by omega)) c_13)) | exact b_and_f2 (b_and_f2 (d_f c_22)) | exact b_and_f2 (b_and_f1 (d_f c_30)) | exact b_and_f1 c_38), lv_sub hl [1, 2, 0] rfl⟩ (by first | omega | (dsimp only; omega))
          ·
            refine lv_iload_n hx hb dX5_find_41 rfl (lv_at hl 2 rfl) ?_
            have hret : (nI v : Int32) = zFI (zFst (kIs (kLive w) w ky) 64) 64 := zFI_y (by omega) (b_and_t c_38 (b_and_t (d_t c_30) (d_t c_22))) hj
            refine zz_top hret ?_
            exact W.iret hx hb hr (fun tS ht hW => ⟨_, rfl, rfl, ht⟩) (fun _ h => nomatch h) dX5_find_42
set_option maxHeartbeats 4000000 in
set_option maxRecDepth 100000 in
theorem c_X5_isText (l : Launch) (dC : Nat → ClassId) (dI : Nat → Nat → Nat) (cyI cyZ : ClassId) (qm qmd qmt qml qmk qmh qmw : Nat) (n : Nat) (on : Bool) (lf : Int32) (dn : Nat) (pl : Int32) (k mz nh : Nat) (th : Int32) (w : Nat → Int32) (b : Nat) (hb9 : b < 64) (HP0 : kPos w) : Met l yX5_isText wsX5_isText ({ frames := 3, cells := 0, slots := 0, locals := 66 }) (va_Pc [.ref qm, .int (nI b)] (fun U => va_P (dC, dI) vwCl [(qm, .inr (4, [.ref qmd, .ref qmt, .int (nI n), .int (bI on), .int lf, .int (nI dn), .int pl, .ref qml, .int (nI k), .ref qmk, .int (nI mz), .ref qmh, .int (nI nh), .int th, .ref qmw])), (qmd, .inl (cyI, 512, .inl w))] U.heap ∧ va_K (dC, dI) vwCl [(cyI, .int), (cyZ, .boolean)] U)) (vp_Si (fun r => r = bI (kText (kLive w) w b))) 0 0 (fun _ => False) := by
  refine Met.ofW (cc := cX5_isText) (maxL := 2) (ret := (some .boolean)) (by decide) rfl ?_
  intro pz ez sS mM args below meth cC s₁ B hml hv
  obtain ⟨rfl, hP, hK⟩ := hv
  have hx := B.exec
  have hb := B.bytes
  have hr := B.returns
  have hts := atoms_spec (ws := wsX5_isText) B.pre
  have hown : sS.vm.findClass RX5 = some mM.cls := findClass_of_methodNamed B.named
  have hlocks := B.notSynchronized
  have hl := lv_entry ([.ref qm, .int (nI b)]) (n := 2) (Nat.le_of_ble_eq_true rfl)
  rw [lg_entry_eq]
  generalize (lg_sl ([.ref qm, .int (nI b)]) ++ List.replicate (2 - (lg_sl ([.ref qm, .int (nI b)])).length) Slot.unset).toArray = ls at hl ⊢
  have hl : lv_has ls 2 [(0, .ref qm), (1, .int (nI b))] := hl
  refine lv_aload_n hx hb dX5_isText_0 rfl (lv_at hl 0 rfl) ?_
  refine lv_iload_n hx hb dX5_isText_1 rfl (lv_at hl 1 rfl) ?_
  have hPc := hP.sub (ws' := [(qm, .inr (4, [.ref qmd, .ref qmt, .int (nI n), .int (bI on), .int lf, .int (nI dn), .int pl, .ref qml, .int (nI k), .ref qmk, .int (nI mz), .ref qmh, .int (nI nh), .int th, .ref qmw])), (qmd, .inl (cyI, 512, .inl w))]) [0, 1] rfl
  have hKc := hK.sub (tys' := [(cyI, .int), (cyZ, .boolean)]) [0, 1] rfl
  refine vp_callSi (va_Run.run (va_runV (As := [.int (nI b)]) (rest := []) ⟨hx, hb, hml, hown, hts⟩ (c_X5_numberOf l dC dI cyI cyZ qm qmd qmt qml qmk qmh qmw n on lf dn pl k mz nh th w b (by omega)) (cwV 1 hts gX5_isText_X5_numberOf rfl rfl rfl (by decide +kernel) ⟨Nat.le_of_ble_eq_true rfl, Nat.le_of_ble_eq_true rfl⟩) ⟨zz_blR, va_recv hKc hPc (ci := 4) (q0 := 0) rfl rfl, fun U hU hW => ⟨rfl, by rw [hU]; exact hPc, va_K.moved hW.alike hKc⟩⟩ rfl rfl hl.1 rfl (lv_room (Nat.le_of_ble_eq_true rfl)) dX5_isText_2 ⟨Nat.zero_le _, Nat.zero_le _⟩)) (fun r_2 hr_2 => ?_)
  have hr_2 : kNum w b = r_2 := Eq.symm hr_2
  subst hr_2
  refine lv_if_le (tgt := 37) hx hb dX5_isText_5 (by decide) (fun c_5 => ?_) (fun c_5 => ?_)
  ·
    refine lv_iconst (v := nI 0) hx hb dX5_isText_37 (by decide) ?_
    have hret : (nI 0 : Int32) = bI (kText (kLive w) w b) := (by first | exact bI_0 (b_and_f1 (kLive_0 (i_pos (HP0 b hb9) c_5))) | exact bI_0 (b_and_f2 (b_and_f1 (d_f c_13))) | exact bI_0 (b_and_f2 (b_and_f2 (nd_f c_22))) | exact bI_0 (b_and_f1 c_30))
    refine zz_top hret ?_
    exact W.zret hx hb hr (zz_narZ (by first | exact zz_zb _ | exact zz_z0 | exact zz_z1)) (fun tS ht hW => ⟨_, rfl, rfl, ht⟩) (fun _ h => nomatch h) dX5_isText_38
  ·
    refine lv_aload_n hx hb dX5_isText_8 rfl (lv_at hl 0 rfl) ?_
    refine lv_iload_n hx hb dX5_isText_9 rfl (lv_at hl 1 rfl) ?_
    have hPc := hP.sub (ws' := [(qm, .inr (4, [.ref qmd, .ref qmt, .int (nI n), .int (bI on), .int lf, .int (nI dn), .int pl, .ref qml, .int (nI k), .ref qmk, .int (nI mz), .ref qmh, .int (nI nh), .int th, .ref qmw])), (qmd, .inl (cyI, 512, .inl w))]) [0, 1] rfl
    have hKc := hK.sub (tys' := [(cyI, .int), (cyZ, .boolean)]) [0, 1] rfl
    refine vp_callSi (va_Run.run (va_runV (As := [.int (nI b)]) (rest := []) ⟨hx, hb, hml, hown, hts⟩ (c_X5_partOf l dC dI cyI cyZ qm qmd qmt qml qmk qmh qmw n on lf dn pl k mz nh th w b (by omega)) (cwV 1 hts gX5_isText_X5_partOf rfl rfl rfl (by decide +kernel) ⟨Nat.le_of_ble_eq_true rfl, Nat.le_of_ble_eq_true rfl⟩) ⟨zz_blR, va_recv hKc hPc (ci := 4) (q0 := 0) rfl rfl, fun U hU hW => ⟨rfl, by rw [hU]; exact hPc, va_K.moved hW.alike hKc⟩⟩ rfl rfl hl.1 rfl (lv_room (Nat.le_of_ble_eq_true rfl)) dX5_isText_10 ⟨Nat.zero_le _, Nat.zero_le _⟩)) (fun r_10 hr_10 => ?_)
    have hr_10 : kPart w b = r_10 := Eq.symm hr_10
    subst hr_10
    refine lv_if_ne (tgt := 37) hx hb dX5_isText_13 (by decide) (fun c_13 => ?_) (fun c_13 => ?_)
    ·
      refine lv_iconst (v := nI 0) hx hb dX5_isText_37 (by decide) ?_
      have hret : (nI 0 : Int32) = bI (kText (kLive w) w b) := (by first | exact bI_0 (b_and_f1 (kLive_0 (i_pos (HP0 b hb9) c_5))) | exact bI_0 (b_and_f2 (b_and_f1 (d_f c_13))) | exact bI_0 (b_and_f2 (b_and_f2 (nd_f c_22))) | exact bI_0 (b_and_f1 c_30))
      refine zz_top hret ?_
      exact W.zret hx hb hr (zz_narZ (by first | exact zz_zb _ | exact zz_z0 | exact zz_z1)) (fun tS ht hW => ⟨_, rfl, rfl, ht⟩) (fun _ h => nomatch h) dX5_isText_38
    ·
      refine lv_aload_n hx hb dX5_isText_16 rfl (lv_at hl 0 rfl) ?_
      refine lv_iload_n hx hb dX5_isText_17 rfl (lv_at hl 1 rfl) ?_
      have hPc := hP.sub (ws' := [(qm, .inr (4, [.ref qmd, .ref qmt, .int (nI n), .int (bI on), .int lf, .int (nI dn), .int pl, .ref qml, .int (nI k), .ref qmk, .int (nI mz), .ref qmh, .int (nI nh), .int th, .ref qmw])), (qmd, .inl (cyI, 512, .inl w))]) [0, 1] rfl
      have hKc := hK.sub (tys' := [(cyI, .int), (cyZ, .boolean)]) [0, 1] rfl
      refine vp_callSi (va_Run.run (va_runV (As := [.int (nI b)]) (rest := []) ⟨hx, hb, hml, hown, hts⟩ (c_X5_formOf l dC dI cyI cyZ qm qmd qmt qml qmk qmh qmw n on lf dn pl k mz nh th w b (by omega)) (cwV 1 hts gX5_isText_X5_formOf rfl rfl rfl (by decide +kernel) ⟨Nat.le_of_ble_eq_true rfl, Nat.le_of_ble_eq_true rfl⟩) ⟨zz_blR, va_recv hKc hPc (ci := 4) (q0 := 0) rfl rfl, fun U hU hW => ⟨rfl, by rw [hU]; exact hPc, va_K.moved hW.alike hKc⟩⟩ rfl rfl hl.1 rfl (lv_room (Nat.le_of_ble_eq_true rfl)) dX5_isText_18 ⟨Nat.zero_le _, Nat.zero_le _⟩)) (fun r_18 hr_18 => ?_)
      have hr_18 : kForm w b = r_18 := Eq.symm hr_18
      subst hr_18
      refine lv_iconst (v := nI 2) hx hb dX5_isText_21 (by decide) ?_
      refine lv_icmp_eq (tgt := 37) hx hb dX5_isText_22 (by decide) (fun c_22 => ?_) (fun c_22 => ?_)
      ·
        refine lv_iconst (v := nI 0) hx hb dX5_isText_37 (by decide) ?_
        have hret : (nI 0 : Int32) = bI (kText (kLive w) w b) := (by first | exact bI_0 (b_and_f1 (kLive_0 (i_pos (HP0 b hb9) c_5))) | exact bI_0 (b_and_f2 (b_and_f1 (d_f c_13))) | exact bI_0 (b_and_f2 (b_and_f2 (nd_f c_22))) | exact bI_0 (b_and_f1 c_30))
        refine zz_top hret ?_
        exact W.zret hx hb hr (zz_narZ (by first | exact zz_zb _ | exact zz_z0 | exact zz_z1)) (fun tS ht hW => ⟨_, rfl, rfl, ht⟩) (fun _ h => nomatch h) dX5_isText_38
      ·
        refine lv_aload_n hx hb dX5_isText_25 rfl (lv_at hl 0 rfl) ?_
        refine lv_iload_n hx hb dX5_isText_26 rfl (lv_at hl 1 rfl) ?_
        have hPc := hP.sub (ws' := [(qm, .inr (4, [.ref qmd, .ref qmt, .int (nI n), .int (bI on), .int lf, .int (nI dn), .int pl, .ref qml, .int (nI k), .ref qmk, .int (nI mz), .ref qmh, .int (nI nh), .int th, .ref qmw])), (qmd, .inl (cyI, 512, .inl w))]) [0, 1] rfl
        have hKc := hK.sub (tys' := [(cyI, .int), (cyZ, .boolean)]) [0, 1] rfl
        refine vp_callSi (va_Run.run (va_runV (As := [.int (nI b)]) (rest := []) ⟨hx, hb, hml, hown, hts⟩ (c_X5_isLive l dC dI cyI cyZ qm qmd qmt qml qmk qmh qmw n on lf dn pl k mz nh th w b (by omega) (HP0)) (cwV 1 hts gX5_isText_X5_isLive rfl rfl rfl (by decide +kernel) ⟨Nat.le_of_ble_eq_true rfl, Nat.le_of_ble_eq_true rfl⟩) ⟨zz_blR, va_recv hKc hPc (ci := 4) (q0 := 0) rfl rfl, fun U hU hW => ⟨rfl, by rw [hU]; exact hPc, va_K.moved hW.alike hKc⟩⟩ rfl rfl hl.1 rfl (lv_room (Nat.le_of_ble_eq_true rfl)) dX5_isText_27 ⟨Nat.zero_le _, Nat.zero_le _⟩)) (fun r_27 hr_27 => ?_)
        have hr_27 : bI (kLive w b) = r_27 := Eq.symm hr_27
        subst hr_27
        refine zb_if_eq (tgt := 37) hx hb dX5_isText_30 (by decide) (fun c_30 => ?_) (fun c_30 => ?_)
        ·
          refine lv_iconst (v := nI 0) hx hb dX5_isText_37 (by decide) ?_
          have hret : (nI 0 : Int32) = bI (kText (kLive w) w b) := (by first | exact bI_0 (b_and_f1 (kLive_0 (i_pos (HP0 b hb9) c_5))) | exact bI_0 (b_and_f2 (b_and_f1 (d_f c_13))) | exact bI_0 (b_and_f2 (b_and_f2 (nd_f c_22))) | exact bI_0 (b_and_f1 c_30))
          refine zz_top hret ?_
          exact W.zret hx hb hr (zz_narZ (by first | exact zz_zb _ | exact zz_z0 | exact zz_z1)) (fun tS ht hW => ⟨_, rfl, rfl, ht⟩) (fun _ h => nomatch h) dX5_isText_38
        ·
          refine lv_iconst (v := nI 1) hx hb dX5_isText_33 (by decide) ?_
          refine lv_goto (tgt := 38) hx hb dX5_isText_34 (by decide) ?_
          have hret : (nI 1 : Int32) = bI (kText (kLive w) w b) := bI_1 (b_and_t c_30 (b_and_t (d_t c_13) (nd_t c_22)))
          refine zz_top hret ?_
          exact W.zret hx hb hr (zz_narZ (by first | exact zz_zb _ | exact zz_z0 | exact zz_z1)) (fun tS ht hW => ⟨_, rfl, rfl, ht⟩) (fun _ h => nomatch h) dX5_isText_38
set_option maxHeartbeats 4000000 in
set_option maxRecDepth 100000 in
theorem c_X5_greatest (l : Launch) (dC : Nat → ClassId) (dI : Nat → Nat → Nat) (cyI cyZ : ClassId) (qm qmd qmt qml qmk qmh qmw : Nat) (n : Nat) (on : Bool) (lf : Int32) (dn : Nat) (pl : Int32) (k mz nh : Nat) (th : Int32) (w : Nat → Int32)  : Met l yX5_greatest wsX5_greatest ({ frames := 1, cells := 0, slots := 0, locals := 21 }) (va_Pc [.ref qm] (fun U => va_P (dC, dI) vwCl [(qm, .inr (4, [.ref qmd, .ref qmt, .int (nI n), .int (bI on), .int lf, .int (nI dn), .int pl, .ref qml, .int (nI k), .ref qmk, .int (nI mz), .ref qmh, .int (nI nh), .int th, .ref qmw])), (qmd, .inl (cyI, 512, .inl w))] U.heap ∧ va_K (dC, dI) vwCl [(cyI, .int), (cyZ, .boolean)] U)) (vp_Si (fun r => r = kGr w 64)) 0 0 (fun _ => False) := by
  refine Met.ofW (cc := cX5_greatest) (maxL := 3) (ret := (some .int)) (by decide) rfl ?_
  intro pz ez sS mM args below meth cC s₁ B hml hv
  obtain ⟨rfl, hP, hK⟩ := hv
  have hx := B.exec
  have hb := B.bytes
  have hr := B.returns
  have hts := atoms_spec (ws := wsX5_greatest) B.pre
  have hown : sS.vm.findClass RX5 = some mM.cls := findClass_of_methodNamed B.named
  have hlocks := B.notSynchronized
  have hl := lv_entry ([.ref qm]) (n := 3) (Nat.le_of_ble_eq_true rfl)
  rw [lg_entry_eq]
  generalize (lg_sl ([.ref qm]) ++ List.replicate (3 - (lg_sl ([.ref qm])).length) Slot.unset).toArray = ls at hl ⊢
  have hl : lv_has ls 3 [(0, .ref qm)] := hl
  refine lv_iconst (v := nI 0) hx hb dX5_greatest_0 (by decide) ?_
  refine lv_istore_n (lv' := [(1, .int (nI 0)), (0, .ref qm)]) hx hb dX5_greatest_1 rfl hl (by decide) rfl (fun ls hl => ?_)
  refine lv_iconst (v := nI 0) hx hb dX5_greatest_2 (by decide) ?_
  refine lv_istore_n (lv' := [(2, .int (nI 0)), (1, .int (nI 0)), (0, .ref qm)]) hx hb dX5_greatest_3 rfl hl (by decide) rfl (fun ls hl => ?_)
  refine zz_loopR (pc := 4) (μ := fun (v : Nat) => 64 - v) (Inv := fun (v : Nat) (ls : Array Slot) => (v ≤ 64) ∧ lv_has ls 3 [(0, .ref qm), (1, .int (kGr w v)), (2, .int (nI v))]) (x0 := (0)) ⟨by omega, lv_sub hl [2, 1, 0] rfl⟩ ?_
  intro v ls hI ih4
  obtain ⟨hv9, hl⟩ := hI
  have hl : lv_has ls 3 [(0, .ref qm), (1, .int (kGr w v)), (2, .int (nI v))] := hl
  have hv9 : v ≤ 64 := hv9
  refine lv_iload_n hx hb dX5_greatest_4 rfl (lv_at hl 2 rfl) ?_
  refine lv_bipush (v := nI 64) hx hb dX5_greatest_5 (by decide) ?_
  refine zn_icmp_ge (tgt := 35) hx hb dX5_greatest_7 (by decide) (by omega) (by omega) (fun c_7 => ?_) (fun c_7 => ?_)
  ·
    refine lv_iload_n hx hb dX5_greatest_35 rfl (lv_at hl 1 rfl) ?_
    have hret : (kGr w v : Int32) = kGr w 64 := by rw [show v = 64 by omega]
    refine zz_top hret ?_
    exact W.iret hx hb hr (fun tS ht hW => ⟨_, rfl, rfl, ht⟩) (fun _ h => nomatch h) dX5_greatest_36
  ·
    refine lv_aload_n hx hb dX5_greatest_10 rfl (lv_at hl 0 rfl) ?_
    refine lv_iload_n hx hb dX5_greatest_11 rfl (lv_at hl 2 rfl) ?_
    have hPc := hP.sub (ws' := [(qm, .inr (4, [.ref qmd, .ref qmt, .int (nI n), .int (bI on), .int lf, .int (nI dn), .int pl, .ref qml, .int (nI k), .ref qmk, .int (nI mz), .ref qmh, .int (nI nh), .int th, .ref qmw])), (qmd, .inl (cyI, 512, .inl w))]) [0, 1] rfl
    have hKc := hK.sub (tys' := [(cyI, .int), (cyZ, .boolean)]) [0, 1] rfl
    refine vp_callSi (va_Run.run (va_runV (As := [.int (nI v)]) (rest := []) ⟨hx, hb, hml, hown, hts⟩ (c_X5_numberOf l dC dI cyI cyZ qm qmd qmt qml qmk qmh qmw n on lf dn pl k mz nh th w v (by omega)) (cwV 1 hts gX5_greatest_X5_numberOf rfl rfl rfl (by decide +kernel) ⟨Nat.le_of_ble_eq_true rfl, Nat.le_of_ble_eq_true rfl⟩) ⟨zz_blR, va_recv hKc hPc (ci := 4) (q0 := 0) rfl rfl, fun U hU hW => ⟨rfl, by rw [hU]; exact hPc, va_K.moved hW.alike hKc⟩⟩ rfl rfl hl.1 rfl (lv_room (Nat.le_of_ble_eq_true rfl)) dX5_greatest_12 ⟨Nat.zero_le _, Nat.zero_le _⟩)) (fun r_12 hr_12 => ?_)
    have hr_12 : kNum w v = r_12 := Eq.symm hr_12
    subst hr_12
    refine lv_iload_n hx hb dX5_greatest_15 rfl (lv_at hl 1 rfl) ?_
    refine lv_icmp_le (tgt := 27) hx hb dX5_greatest_16 (by decide) (fun c_16 => ?_) (fun c_16 => ?_)
    ·
      refine lv_iload_n hx hb dX5_greatest_27 rfl (lv_at hl 1 rfl) ?_
      refine lv_istore_n (lv' := [(1, .int (kGr w v)), (0, .ref qm), (2, .int (nI v))]) hx hb dX5_greatest_28 rfl hl (by decide) rfl (fun ls hl => ?_)
      refine lv_iinc (v := nI (v + 1)) (lv' := [(2, .int (nI (v + 1))), (1, .int (kGr w v)), (0, .ref qm)]) hx hb dX5_greatest_29 hl (k := 2) rfl (nI_add v 1) (by decide) rfl (fun ls hl => ?_)
      refine lv_goto (tgt := 4) hx hb dX5_greatest_32 (by decide) ?_
      -- local 1: .int (kGr w v) ~ .int (kGr w (v + 1))
      exact ih4 (v + 1) _ ⟨by omega, lv_sub hl [2, 1, 0] (by rw [show kGr w (v + 1) = kGr w v from if_neg (Int32.not_lt.mpr c_16)]; rfl)⟩ (by first | omega | (dsimp only; omega))
    ·
      refine lv_aload_n hx hb dX5_greatest_19 rfl (lv_at hl 0 rfl) ?_
      refine lv_iload_n hx hb dX5_greatest_20 rfl (lv_at hl 2 rfl) ?_
      have hPc := hP.sub (ws' := [(qm, .inr (4, [.ref qmd, .ref qmt, .int (nI n), .int (bI on), .int lf, .int (nI dn), .int pl, .ref qml, .int (nI k), .ref qmk, .int (nI mz), .ref qmh, .int (nI nh), .int th, .ref qmw])), (qmd, .inl (cyI, 512, .inl w))]) [0, 1] rfl
      have hKc := hK.sub (tys' := [(cyI, .int), (cyZ, .boolean)]) [0, 1] rfl
      refine vp_callSi (va_Run.run (va_runV (As := [.int (nI v)]) (rest := []) ⟨hx, hb, hml, hown, hts⟩ (c_X5_numberOf l dC dI cyI cyZ qm qmd qmt qml qmk qmh qmw n on lf dn pl k mz nh th w v (by omega)) (cwV 1 hts gX5_greatest_X5_numberOf rfl rfl rfl (by decide +kernel) ⟨Nat.le_of_ble_eq_true rfl, Nat.le_of_ble_eq_true rfl⟩) ⟨zz_blR, va_recv hKc hPc (ci := 4) (q0 := 0) rfl rfl, fun U hU hW => ⟨rfl, by rw [hU]; exact hPc, va_K.moved hW.alike hKc⟩⟩ rfl rfl hl.1 rfl (lv_room (Nat.le_of_ble_eq_true rfl)) dX5_greatest_21 ⟨Nat.zero_le _, Nat.zero_le _⟩)) (fun r_21 hr_21 => ?_)
      have hr_21 : kNum w v = r_21 := Eq.symm hr_21
      subst hr_21
      refine lv_goto (tgt := 28) hx hb dX5_greatest_24 (by decide) ?_
      refine lv_istore_n (lv' := [(1, .int (kNum w v)), (0, .ref qm), (2, .int (nI v))]) hx hb dX5_greatest_28 rfl hl (by decide) rfl (fun ls hl => ?_)
      refine lv_iinc (v := nI (v + 1)) (lv' := [(2, .int (nI (v + 1))), (1, .int (kNum w v)), (0, .ref qm)]) hx hb dX5_greatest_29 hl (k := 2) rfl (nI_add v 1) (by decide) rfl (fun ls hl => ?_)
      refine lv_goto (tgt := 4) hx hb dX5_greatest_32 (by decide) ?_
      -- local 1: .int (kNum w v) ~ .int (kGr w (v + 1))
      exact ih4 (v + 1) _ ⟨by omega, lv_sub hl [2, 1, 0] (by rw [show kGr w (v + 1) = kNum w v from if_pos (Int32.not_le.mp c_16)]; rfl)⟩ (by first | omega | (dsimp only; omega))
set_option maxHeartbeats 4000000 in
set_option maxRecDepth 100000 in
theorem c_X5_may_off (l : Launch) (dC : Nat → ClassId) (dI : Nat → Nat → Nat) (cyI cyZ : ClassId) (qm qmd qmt qml qmk qmh qmw : Nat) (sz : Nat) (n : Nat) (on : Bool) (lf : Int32) (dn : Nat) (pl : Int32) (k mz nh : Nat) (th : Int32) (hz : lf = nI 0) : Met l yX5_mayWrite wsX5_mayWrite ({ frames := 0, cells := 0, slots := 0, locals := 0 }) (va_Pc [.ref qm] (fun U => U.heap.size = sz ∧ va_P (dC, dI) vwCl [(qm, .inr (4, [.ref qmd, .ref qmt, .int (nI n), .int (bI on), .int lf, .int (nI dn), .int pl, .ref qml, .int (nI k), .ref qmk, .int (nI mz), .ref qmh, .int (nI nh), .int th, .ref qmw]))] U.heap ∧ va_K (dC, dI) vwCl [(cyI, .int), (cyZ, .boolean)] U ∧ va_D (fun _ => True) [(qm, .inr (4, [.ref qmd, .ref qmt, .int (nI n), .int (bI on), .int lf, .int (nI dn), .int pl, .ref qml, .int (nI k), .ref qmk, .int (nI mz), .ref qmh, .int (nI nh), .int th, .ref qmw]))])) (va_Qi (S := Unit) (fun (r : Int32) (_ : Unit) => r = bI false) (fun (_ : Unit) tS => va_P (dC, dI) vwCl [(qm, .inr (4, [.ref qmd, .ref qmt, .int (nI n), .int (bI false), .int (-1), .int (nI dn), .int pl, .ref qml, .int (nI k), .ref qmk, .int (nI mz), .ref qmh, .int (nI nh), .int th, .ref qmw]))] tS.heap ∧ va_K (dC, dI) vwCl [(cyI, .int), (cyZ, .boolean)] tS ∧ va_D (va_A [(qm, .inr (4, [.ref qmd, .ref qmt, .int (nI n), .int (bI on), .int lf, .int (nI dn), .int pl, .ref qml, .int (nI k), .ref qmk, .int (nI mz), .ref qmh, .int (nI nh), .int th, .ref qmw]))] sz) [(qm, .inr (4, [.ref qmd, .ref qmt, .int (nI n), .int (bI false), .int (-1), .int (nI dn), .int pl, .ref qml, .int (nI k), .ref qmk, .int (nI mz), .ref qmh, .int (nI nh), .int th, .ref qmw]))]) (va_A [(qm, .inr (4, [.ref qmd, .ref qmt, .int (nI n), .int (bI on), .int lf, .int (nI dn), .int pl, .ref qml, .int (nI k), .ref qmk, .int (nI mz), .ref qmh, .int (nI nh), .int th, .ref qmw]))] sz)) 0 0 (va_A [(qm, .inr (4, [.ref qmd, .ref qmt, .int (nI n), .int (bI on), .int lf, .int (nI dn), .int pl, .ref qml, .int (nI k), .ref qmk, .int (nI mz), .ref qmh, .int (nI nh), .int th, .ref qmw]))] sz) := by
  refine Met.ofW (cc := cX5_mayWrite) (maxL := 1) (ret := (some .boolean)) (by decide) rfl ?_
  intro pz ez sS mM args below meth cC s₁ B hml hv
  obtain ⟨rfl, hsz, hP, hK, hD0⟩ := hv
  have hx := B.exec
  have hb := B.bytes
  have hr := B.returns
  have hts := atoms_spec (ws := wsX5_mayWrite) B.pre
  have hown : sS.vm.findClass RX5 = some mM.cls := findClass_of_methodNamed B.named
  have hlocks := B.notSynchronized
  subst hsz
  have hD := hD0.self (sz := sS.heap.size)
  generalize hAe : va_A [(qm, .inr (4, [.ref qmd, .ref qmt, .int (nI n), .int (bI on), .int lf, .int (nI dn), .int pl, .ref qml, .int (nI k), .ref qmk, .int (nI mz), .ref qmh, .int (nI nh), .int th, .ref qmw]))] sS.heap.size = A at hD ⊢
  have hA : ∀ q : Nat, sS.heap.size ≤ q → A q := fun q h => by rw [← hAe]; exact Or.inr h
  have hS : va_S A sS.heap sS.heap [] := va_S.rf
  have hP : va_P (dC, dI) vwCl [(qm, .inr (4, [.ref qmd, .ref qmt, .int (nI n), .int (bI on), .int lf, .int (nI dn), .int pl, .ref qml, .int (nI k), .ref qmk, .int (nI mz), .ref qmh, .int (nI nh), .int th, .ref qmw]))] sS.heap := hP
  have iwX5 : ∀ w ∈ wsX50, w ∈ wsX5_mayWrite := by decide +kernel
  have fk16 := hts (.fieldLink RX5 16 "CodedStoreModel" "on" "Z") (by decide +kernel)
  have fk20 := hts (.fieldLink RX5 20 "CodedStoreModel" "until" "I") (by decide +kernel)
  have hl := lv_entry ([.ref qm]) (n := 1) (Nat.le_of_ble_eq_true rfl)
  rw [lg_entry_eq]
  generalize (lg_sl ([.ref qm]) ++ List.replicate (1 - (lg_sl ([.ref qm])).length) Slot.unset).toArray = ls at hl ⊢
  have hl : lv_has ls 1 [(0, .ref qm)] := hl
  refine lv_aload_n hx hb dX5_mayWrite_0 rfl (lv_at hl 0 rfl) ?_
  refine va_get (D := (dC, dI)) (ci := 4) (v := .int lf) (C := RX5) (T := TX5) (N := 15) hx hb hts iwX5 hown hK hP 0 rfl rfl 4 (by decide) fk20 (fun _ h9 => h9) rfl dX5_mayWrite_1 ?_
  refine lv_if_ne (tgt := 19) hx hb dX5_mayWrite_4 (by decide) (fun c_4 => absurd hz c_4) (fun c_4 => ?_)
  refine lv_aload_n hx hb dX5_mayWrite_7 rfl (lv_at hl 0 rfl) ?_
  refine lv_iconst (v := nI 0) hx hb dX5_mayWrite_8 (by decide) ?_
  refine va_put (D := (dC, dI)) (ci := 4) (v := .int (nI 0)) (ty := .boolean) (C := RX5) (T := TX5) (N := 15) hx hb hts iwX5 tyX5 tyX5_ok nmX5 hown hK hP hD hS 0 rfl rfl 3 (by decide) fk16 (fun _ h9 => h9) rfl (by decide +kernel) rfl rfl (Nat.le_of_ble_eq_true rfl) dX5_mayWrite_9 (fun H locs hP hD hS => ?_)
  have hP : va_P (dC, dI) vwCl [(qm, .inr (4, [.ref qmd, .ref qmt, .int (nI n), .int (nI 0), .int lf, .int (nI dn), .int pl, .ref qml, .int (nI k), .ref qmk, .int (nI mz), .ref qmh, .int (nI nh), .int th, .ref qmw]))] H := hP
  have hD : va_D A [(qm, .inr (4, [.ref qmd, .ref qmt, .int (nI n), .int (nI 0), .int lf, .int (nI dn), .int pl, .ref qml, .int (nI k), .ref qmk, .int (nI mz), .ref qmh, .int (nI nh), .int th, .ref qmw]))] := hD
  refine lv_aload_n hx hb dX5_mayWrite_12 rfl (lv_at hl 0 rfl) ?_
  refine lv_iconst (v := (-1)) hx hb dX5_mayWrite_13 (by decide) ?_
  refine va_put (D := (dC, dI)) (ci := 4) (v := .int (-1)) (ty := .int) (C := RX5) (T := TX5) (N := 15) hx hb hts iwX5 tyX5 tyX5_ok nmX5 hown hK hP hD hS 0 rfl rfl 4 (by decide) fk20 (fun _ h9 => h9) rfl (by decide +kernel) rfl rfl (Nat.le_of_ble_eq_true rfl) dX5_mayWrite_14 (fun H locs hP hD hS => ?_)
  have hP : va_P (dC, dI) vwCl [(qm, .inr (4, [.ref qmd, .ref qmt, .int (nI n), .int (nI 0), .int (-1), .int (nI dn), .int pl, .ref qml, .int (nI k), .ref qmk, .int (nI mz), .ref qmh, .int (nI nh), .int th, .ref qmw]))] H := hP
  have hD : va_D A [(qm, .inr (4, [.ref qmd, .ref qmt, .int (nI n), .int (nI 0), .int (-1), .int (nI dn), .int pl, .ref qml, .int (nI k), .ref qmk, .int (nI mz), .ref qmh, .int (nI nh), .int th, .ref qmw]))] := hD
  refine lv_iconst (v := nI 0) hx hb dX5_mayWrite_17 (by decide) ?_
  -- qm : .inr (4, [.ref qmd, .ref qmt, .int (nI n), .int (nI 0), .int (-1), .int (nI dn), .int pl, .ref qml, .int (nI k), .ref qmk, .int (nI mz), .ref qmh, .int (nI nh), .int th, .ref qmw])  ~  .inr (4, [.ref qmd, .ref qmt, .int (nI n), .int (bI false), .int (-1), .int (nI dn), .int pl, .ref qml, .int (nI k), .ref qmk, .int (nI mz), .ref qmh, .int (nI nh), .int th, .ref qmw])
  have hP9 := hP.sub (ws' := [(qm, .inr (4, [.ref qmd, .ref qmt, .int (nI n), .int (bI false), .int (-1), .int (nI dn), .int pl, .ref qml, .int (nI k), .ref qmk, .int (nI mz), .ref qmh, .int (nI nh), .int th, .ref qmw]))]) [0] rfl
  have hD9 := hD.sub (ws' := [(qm, .inr (4, [.ref qmd, .ref qmt, .int (nI n), .int (bI false), .int (-1), .int (nI dn), .int pl, .ref qml, .int (nI k), .ref qmk, .int (nI mz), .ref qmh, .int (nI nh), .int th, .ref qmw]))]) [0] (by decide) rfl
  have hK9 := hK.sub (tys' := [(cyI, .int), (cyZ, .boolean)]) [0, 1] rfl
  have hret : (nI 0 : Int32) = bI false := rfl
  refine zz_top hret ?_
  exact W.zret hx hb hr (zz_narZ (by first | exact zz_zb _ | exact zz_z0 | exact zz_z1)) (fun tS ht hW => ⟨⟨_, (), rfl, rfl, by rw [ht]; exact hP9, va_K.moved hW.alike hK9, hD9⟩, hS.F ht⟩) hS.2.2 dX5_mayWrite_18
set_option maxHeartbeats 4000000 in
set_option maxRecDepth 100000 in
theorem c_X5_may_on (l : Launch) (dC : Nat → ClassId) (dI : Nat → Nat → Nat) (cyI cyZ : ClassId) (qm qmd qmt qml qmk qmh qmw : Nat) (sz : Nat) (n : Nat) (on : Bool) (lf : Int32) (dn : Nat) (pl : Int32) (k mz nh : Nat) (th : Int32) (hz : ¬ lf = nI 0) : Met l yX5_mayWrite wsX5_mayWrite ({ frames := 0, cells := 0, slots := 0, locals := 0 }) (va_Pc [.ref qm] (fun U => U.heap.size = sz ∧ va_P (dC, dI) vwCl [(qm, .inr (4, [.ref qmd, .ref qmt, .int (nI n), .int (bI on), .int lf, .int (nI dn), .int pl, .ref qml, .int (nI k), .ref qmk, .int (nI mz), .ref qmh, .int (nI nh), .int th, .ref qmw]))] U.heap ∧ va_K (dC, dI) vwCl [(cyI, .int), (cyZ, .boolean)] U ∧ va_D (fun _ => True) [(qm, .inr (4, [.ref qmd, .ref qmt, .int (nI n), .int (bI on), .int lf, .int (nI dn), .int pl, .ref qml, .int (nI k), .ref qmk, .int (nI mz), .ref qmh, .int (nI nh), .int th, .ref qmw]))])) (va_Qi (S := Unit) (fun (r : Int32) (_ : Unit) => r = bI true) (fun (_ : Unit) tS => va_P (dC, dI) vwCl [(qm, .inr (4, [.ref qmd, .ref qmt, .int (nI n), .int (bI on), .int (kDec lf), .int (nI (dn + 1)), .int pl, .ref qml, .int (nI k), .ref qmk, .int (nI mz), .ref qmh, .int (nI nh), .int th, .ref qmw]))] tS.heap ∧ va_K (dC, dI) vwCl [(cyI, .int), (cyZ, .boolean)] tS ∧ va_D (va_A [(qm, .inr (4, [.ref qmd, .ref qmt, .int (nI n), .int (bI on), .int lf, .int (nI dn), .int pl, .ref qml, .int (nI k), .ref qmk, .int (nI mz), .ref qmh, .int (nI nh), .int th, .ref qmw]))] sz) [(qm, .inr (4, [.ref qmd, .ref qmt, .int (nI n), .int (bI on), .int (kDec lf), .int (nI (dn + 1)), .int pl, .ref qml, .int (nI k), .ref qmk, .int (nI mz), .ref qmh, .int (nI nh), .int th, .ref qmw]))]) (va_A [(qm, .inr (4, [.ref qmd, .ref qmt, .int (nI n), .int (bI on), .int lf, .int (nI dn), .int pl, .ref qml, .int (nI k), .ref qmk, .int (nI mz), .ref qmh, .int (nI nh), .int th, .ref qmw]))] sz)) 0 0 (va_A [(qm, .inr (4, [.ref qmd, .ref qmt, .int (nI n), .int (bI on), .int lf, .int (nI dn), .int pl, .ref qml, .int (nI k), .ref qmk, .int (nI mz), .ref qmh, .int (nI nh), .int th, .ref qmw]))] sz) := by
  refine Met.ofW (cc := cX5_mayWrite) (maxL := 1) (ret := (some .boolean)) (by decide) rfl ?_
  intro pz ez sS mM args below meth cC s₁ B hml hv
  obtain ⟨rfl, hsz, hP, hK, hD0⟩ := hv
  have hx := B.exec
  have hb := B.bytes
  have hr := B.returns
  have hts := atoms_spec (ws := wsX5_mayWrite) B.pre
  have hown : sS.vm.findClass RX5 = some mM.cls := findClass_of_methodNamed B.named
  have hlocks := B.notSynchronized
  subst hsz
  have hD := hD0.self (sz := sS.heap.size)
  generalize hAe : va_A [(qm, .inr (4, [.ref qmd, .ref qmt, .int (nI n), .int (bI on), .int lf, .int (nI dn), .int pl, .ref qml, .int (nI k), .ref qmk, .int (nI mz), .ref qmh, .int (nI nh), .int th, .ref qmw]))] sS.heap.size = A at hD ⊢
  have hA : ∀ q : Nat, sS.heap.size ≤ q → A q := fun q h => by rw [← hAe]; exact Or.inr h
  have hS : va_S A sS.heap sS.heap [] := va_S.rf
  have hP : va_P (dC, dI) vwCl [(qm, .inr (4, [.ref qmd, .ref qmt, .int (nI n), .int (bI on), .int lf, .int (nI dn), .int pl, .ref qml, .int (nI k), .ref qmk, .int (nI mz), .ref qmh, .int (nI nh), .int th, .ref qmw]))] sS.heap := hP
  have iwX5 : ∀ w ∈ wsX50, w ∈ wsX5_mayWrite := by decide +kernel
  have fk20 := hts (.fieldLink RX5 20 "CodedStoreModel" "until" "I") (by decide +kernel)
  have fk104 := hts (.fieldLink RX5 104 "CodedStoreModel" "writes" "I") (by decide +kernel)
  have hl := lv_entry ([.ref qm]) (n := 1) (Nat.le_of_ble_eq_true rfl)
  rw [lg_entry_eq]
  generalize (lg_sl ([.ref qm]) ++ List.replicate (1 - (lg_sl ([.ref qm])).length) Slot.unset).toArray = ls at hl ⊢
  have hl : lv_has ls 1 [(0, .ref qm)] := hl
  refine lv_aload_n hx hb dX5_mayWrite_0 rfl (lv_at hl 0 rfl) ?_
  refine va_get (D := (dC, dI)) (ci := 4) (v := .int lf) (C := RX5) (T := TX5) (N := 15) hx hb hts iwX5 hown hK hP 0 rfl rfl 4 (by decide) fk20 (fun _ h9 => h9) rfl dX5_mayWrite_1 ?_
  refine lv_if_ne (tgt := 19) hx hb dX5_mayWrite_4 (by decide) (fun c_4 => ?_) (fun c_4 => absurd c_4 hz)
  refine lv_aload_n hx hb dX5_mayWrite_19 rfl (lv_at hl 0 rfl) ?_
  refine lv_dup hx hb dX5_mayWrite_20 rfl ?_
  refine va_get (D := (dC, dI)) (ci := 4) (v := .int lf) (C := RX5) (T := TX5) (N := 15) hx hb hts iwX5 hown hK hP 0 rfl rfl 4 (by decide) fk20 (fun _ h9 => h9) rfl dX5_mayWrite_21 ?_
  refine lv_aload_n hx hb dX5_mayWrite_24 rfl (lv_at hl 0 rfl) ?_
  refine va_get (D := (dC, dI)) (ci := 4) (v := .int lf) (C := RX5) (T := TX5) (N := 15) hx hb hts iwX5 hown hK hP 0 rfl rfl 4 (by decide) fk20 (fun _ h9 => h9) rfl dX5_mayWrite_25 ?_
  refine lv_if_le (tgt := 35) hx hb dX5_mayWrite_28 (by decide) (fun c_28 => ?_) (fun c_28 => ?_)
  ·
    refine lv_iconst (v := nI 0) hx hb dX5_mayWrite_35 (by decide) ?_
    refine lv_isub hx hb dX5_mayWrite_36 ?_
    refine va_put (D := (dC, dI)) (ci := 4) (v := .int (lf - (nI 0))) (ty := .int) (C := RX5) (T := TX5) (N := 15) hx hb hts iwX5 tyX5 tyX5_ok nmX5 hown hK hP hD hS 0 rfl rfl 4 (by decide) fk20 (fun _ h9 => h9) rfl (by decide +kernel) rfl rfl (Nat.le_of_ble_eq_true rfl) dX5_mayWrite_37 (fun H locs hP hD hS => ?_)
    have hP : va_P (dC, dI) vwCl [(qm, .inr (4, [.ref qmd, .ref qmt, .int (nI n), .int (bI on), .int (lf - (nI 0)), .int (nI dn), .int pl, .ref qml, .int (nI k), .ref qmk, .int (nI mz), .ref qmh, .int (nI nh), .int th, .ref qmw]))] H := hP
    have hD : va_D A [(qm, .inr (4, [.ref qmd, .ref qmt, .int (nI n), .int (bI on), .int (lf - (nI 0)), .int (nI dn), .int pl, .ref qml, .int (nI k), .ref qmk, .int (nI mz), .ref qmh, .int (nI nh), .int th, .ref qmw]))] := hD
    refine lv_aload_n hx hb dX5_mayWrite_40 rfl (lv_at hl 0 rfl) ?_
    refine lv_dup hx hb dX5_mayWrite_41 rfl ?_
    refine va_get (D := (dC, dI)) (ci := 4) (v := .int (nI dn)) (C := RX5) (T := TX5) (N := 15) hx hb hts iwX5 hown hK hP 0 rfl rfl 5 (by decide) fk104 (fun _ h9 => h9) rfl dX5_mayWrite_42 ?_
    refine lv_iconst (v := nI 1) hx hb dX5_mayWrite_45 (by decide) ?_
    refine lv_iadd hx hb dX5_mayWrite_46 ?_
    refine zz_top (nI_add dn 1) ?_
    refine va_put (D := (dC, dI)) (ci := 4) (v := .int (nI (dn + 1))) (ty := .int) (C := RX5) (T := TX5) (N := 15) hx hb hts iwX5 tyX5 tyX5_ok nmX5 hown hK hP hD hS 0 rfl rfl 5 (by decide) fk104 (fun _ h9 => h9) rfl (by decide +kernel) rfl rfl (Nat.le_of_ble_eq_true rfl) dX5_mayWrite_47 (fun H locs hP hD hS => ?_)
    have hP : va_P (dC, dI) vwCl [(qm, .inr (4, [.ref qmd, .ref qmt, .int (nI n), .int (bI on), .int (lf - (nI 0)), .int (nI (dn + 1)), .int pl, .ref qml, .int (nI k), .ref qmk, .int (nI mz), .ref qmh, .int (nI nh), .int th, .ref qmw]))] H := hP
    have hD : va_D A [(qm, .inr (4, [.ref qmd, .ref qmt, .int (nI n), .int (bI on), .int (lf - (nI 0)), .int (nI (dn + 1)), .int pl, .ref qml, .int (nI k), .ref qmk, .int (nI mz), .ref qmh, .int (nI nh), .int th, .ref qmw]))] := hD
    refine lv_iconst (v := nI 1) hx hb dX5_mayWrite_50 (by decide) ?_
    rw [kDec_n0 (Int32.not_lt.mpr c_28)] at hP hD
    -- qm : .inr (4, [.ref qmd, .ref qmt, .int (nI n), .int (bI on), .int (lf - (nI 0)), .int (nI (dn + 1)), .int pl, .ref qml, .int (nI k), .ref qmk, .int (nI mz), .ref qmh, .int (nI nh), .int th, .ref qmw])  ~  .inr (4, [.ref qmd, .ref qmt, .int (nI n), .int (bI on), .int (kDec lf), .int (nI (dn + 1)), .int pl, .ref qml, .int (nI k), .ref qmk, .int (nI mz), .ref qmh, .int (nI nh), .int th, .ref qmw])
    have hP9 := hP.sub (ws' := [(qm, .inr (4, [.ref qmd, .ref qmt, .int (nI n), .int (bI on), .int (kDec lf), .int (nI (dn + 1)), .int pl, .ref qml, .int (nI k), .ref qmk, .int (nI mz), .ref qmh, .int (nI nh), .int th, .ref qmw]))]) [0] rfl
    have hD9 := hD.sub (ws' := [(qm, .inr (4, [.ref qmd, .ref qmt, .int (nI n), .int (bI on), .int (kDec lf), .int (nI (dn + 1)), .int pl, .ref qml, .int (nI k), .ref qmk, .int (nI mz), .ref qmh, .int (nI nh), .int th, .ref qmw]))]) [0] (by decide) rfl
    have hK9 := hK.sub (tys' := [(cyI, .int), (cyZ, .boolean)]) [0, 1] rfl
    have hret : (nI 1 : Int32) = bI true := rfl
    refine zz_top hret ?_
    exact W.zret hx hb hr (zz_narZ (by first | exact zz_zb _ | exact zz_z0 | exact zz_z1)) (fun tS ht hW => ⟨⟨_, (), rfl, rfl, by rw [ht]; exact hP9, va_K.moved hW.alike hK9, hD9⟩, hS.F ht⟩) hS.2.2 dX5_mayWrite_51
  ·
    refine lv_iconst (v := nI 1) hx hb dX5_mayWrite_31 (by decide) ?_
    refine lv_goto (tgt := 36) hx hb dX5_mayWrite_32 (by decide) ?_
    refine lv_isub hx hb dX5_mayWrite_36 ?_
    refine va_put (D := (dC, dI)) (ci := 4) (v := .int (lf - (nI 1))) (ty := .int) (C := RX5) (T := TX5) (N := 15) hx hb hts iwX5 tyX5 tyX5_ok nmX5 hown hK hP hD hS 0 rfl rfl 4 (by decide) fk20 (fun _ h9 => h9) rfl (by decide +kernel) rfl rfl (Nat.le_of_ble_eq_true rfl) dX5_mayWrite_37 (fun H locs hP hD hS => ?_)
    have hP : va_P (dC, dI) vwCl [(qm, .inr (4, [.ref qmd, .ref qmt, .int (nI n), .int (bI on), .int (lf - (nI 1)), .int (nI dn), .int pl, .ref qml, .int (nI k), .ref qmk, .int (nI mz), .ref qmh, .int (nI nh), .int th, .ref qmw]))] H := hP
    have hD : va_D A [(qm, .inr (4, [.ref qmd, .ref qmt, .int (nI n), .int (bI on), .int (lf - (nI 1)), .int (nI dn), .int pl, .ref qml, .int (nI k), .ref qmk, .int (nI mz), .ref qmh, .int (nI nh), .int th, .ref qmw]))] := hD
    refine lv_aload_n hx hb dX5_mayWrite_40 rfl (lv_at hl 0 rfl) ?_
    refine lv_dup hx hb dX5_mayWrite_41 rfl ?_
    refine va_get (D := (dC, dI)) (ci := 4) (v := .int (nI dn)) (C := RX5) (T := TX5) (N := 15) hx hb hts iwX5 hown hK hP 0 rfl rfl 5 (by decide) fk104 (fun _ h9 => h9) rfl dX5_mayWrite_42 ?_
    refine lv_iconst (v := nI 1) hx hb dX5_mayWrite_45 (by decide) ?_
    refine lv_iadd hx hb dX5_mayWrite_46 ?_
    refine zz_top (nI_add dn 1) ?_
    refine va_put (D := (dC, dI)) (ci := 4) (v := .int (nI (dn + 1))) (ty := .int) (C := RX5) (T := TX5) (N := 15) hx hb hts iwX5 tyX5 tyX5_ok nmX5 hown hK hP hD hS 0 rfl rfl 5 (by decide) fk104 (fun _ h9 => h9) rfl (by decide +kernel) rfl rfl (Nat.le_of_ble_eq_true rfl) dX5_mayWrite_47 (fun H locs hP hD hS => ?_)
    have hP : va_P (dC, dI) vwCl [(qm, .inr (4, [.ref qmd, .ref qmt, .int (nI n), .int (bI on), .int (lf - (nI 1)), .int (nI (dn + 1)), .int pl, .ref qml, .int (nI k), .ref qmk, .int (nI mz), .ref qmh, .int (nI nh), .int th, .ref qmw]))] H := hP
    have hD : va_D A [(qm, .inr (4, [.ref qmd, .ref qmt, .int (nI n), .int (bI on), .int (lf - (nI 1)), .int (nI (dn + 1)), .int pl, .ref qml, .int (nI k), .ref qmk, .int (nI mz), .ref qmh, .int (nI nh), .int th, .ref qmw]))] := hD
    refine lv_iconst (v := nI 1) hx hb dX5_mayWrite_50 (by decide) ?_
    rw [kDec_p (Int32.not_le.mp c_28)] at hP hD
    -- qm : .inr (4, [.ref qmd, .ref qmt, .int (nI n), .int (bI on), .int (lf - (nI 1)), .int (nI (dn + 1)), .int pl, .ref qml, .int (nI k), .ref qmk, .int (nI mz), .ref qmh, .int (nI nh), .int th, .ref qmw])  ~  .inr (4, [.ref qmd, .ref qmt, .int (nI n), .int (bI on), .int (kDec lf), .int (nI (dn + 1)), .int pl, .ref qml, .int (nI k), .ref qmk, .int (nI mz), .ref qmh, .int (nI nh), .int th, .ref qmw])
    have hP9 := hP.sub (ws' := [(qm, .inr (4, [.ref qmd, .ref qmt, .int (nI n), .int (bI on), .int (kDec lf), .int (nI (dn + 1)), .int pl, .ref qml, .int (nI k), .ref qmk, .int (nI mz), .ref qmh, .int (nI nh), .int th, .ref qmw]))]) [0] rfl
    have hD9 := hD.sub (ws' := [(qm, .inr (4, [.ref qmd, .ref qmt, .int (nI n), .int (bI on), .int (kDec lf), .int (nI (dn + 1)), .int pl, .ref qml, .int (nI k), .ref qmk, .int (nI mz), .ref qmh, .int (nI nh), .int th, .ref qmw]))]) [0] (by decide) rfl
    have hK9 := hK.sub (tys' := [(cyI, .int), (cyZ, .boolean)]) [0, 1] rfl
    have hret : (nI 1 : Int32) = bI true := rfl
    refine zz_top hret ?_
    exact W.zret hx hb hr (zz_narZ (by first | exact zz_zb _ | exact zz_z0 | exact zz_z1)) (fun tS ht hW => ⟨⟨_, (), rfl, rfl, by rw [ht]; exact hP9, va_K.moved hW.alike hK9, hD9⟩, hS.F ht⟩) hS.2.2 dX5_mayWrite_51
set_option maxHeartbeats 4000000 in
set_option maxRecDepth 100000 in
theorem c_X5_findLive (l : Launch) (dC : Nat → ClassId) (dI : Nat → Nat → Nat) (cyI cyZ : ClassId) (qm qmd qmw qmt qml qmk qmh : Nat) (sz : Nat) (n : Nat) (on : Bool) (lf : Int32) (dn : Nat) (pl : Int32) (k mz nh : Nat) (th : Int32) (w : Nat → Int32) (WL : Nat → Int32) (HP0 : kPos w) : Met l yX5_findLive wsX5_findLive ({ frames := 3, cells := 0, slots := 0, locals := 66 }) (va_Pc [.ref qm] (fun U => U.heap.size = sz ∧ va_P (dC, dI) vwCl [(qm, .inr (4, [.ref qmd, .ref qmt, .int (nI n), .int (bI on), .int lf, .int (nI dn), .int pl, .ref qml, .int (nI k), .ref qmk, .int (nI mz), .ref qmh, .int (nI nh), .int th, .ref qmw])), (qmd, .inl (cyI, 512, .inl w)), (qmw, .inl (cyZ, 64, .inl WL))] U.heap ∧ va_K (dC, dI) vwCl [(cyI, .int), (cyZ, .boolean)] U ∧ va_D (fun _ => True) [(qm, .inr (4, [.ref qmd, .ref qmt, .int (nI n), .int (bI on), .int lf, .int (nI dn), .int pl, .ref qml, .int (nI k), .ref qmk, .int (nI mz), .ref qmh, .int (nI nh), .int th, .ref qmw])), (qmd, .inl (cyI, 512, .inl w)), (qmw, .inl (cyZ, 64, .inl WL))])) (va_Qi (S := (Nat → Int32)) (fun (r : Int32) (WL1 : (Nat → Int32)) => r = nI (fb_ct (kLive w) 64) ∧ (∀ j, j < 64 → WL1 j = bI (kLive w j))) (fun (WL1 : (Nat → Int32)) tS => va_P (dC, dI) vwCl [(qm, .inr (4, [.ref qmd, .ref qmt, .int (nI n), .int (bI on), .int lf, .int (nI dn), .int pl, .ref qml, .int (nI k), .ref qmk, .int (nI mz), .ref qmh, .int (nI nh), .int th, .ref qmw])), (qmd, .inl (cyI, 512, .inl w)), (qmw, .inl (cyZ, 64, .inl WL1))] tS.heap ∧ va_K (dC, dI) vwCl [(cyI, .int), (cyZ, .boolean)] tS ∧ va_D (va_A [(qm, .inr (4, [.ref qmd, .ref qmt, .int (nI n), .int (bI on), .int lf, .int (nI dn), .int pl, .ref qml, .int (nI k), .ref qmk, .int (nI mz), .ref qmh, .int (nI nh), .int th, .ref qmw])), (qmd, .inl (cyI, 512, .inl w)), (qmw, .inl (cyZ, 64, .inl WL))] sz) [(qm, .inr (4, [.ref qmd, .ref qmt, .int (nI n), .int (bI on), .int lf, .int (nI dn), .int pl, .ref qml, .int (nI k), .ref qmk, .int (nI mz), .ref qmh, .int (nI nh), .int th, .ref qmw])), (qmd, .inl (cyI, 512, .inl w)), (qmw, .inl (cyZ, 64, .inl WL1))]) (va_A [(qm, .inr (4, [.ref qmd, .ref qmt, .int (nI n), .int (bI on), .int lf, .int (nI dn), .int pl, .ref qml, .int (nI k), .ref qmk, .int (nI mz), .ref qmh, .int (nI nh), .int th, .ref qmw])), (qmd, .inl (cyI, 512, .inl w)), (qmw, .inl (cyZ, 64, .inl WL))] sz)) 0 0 (va_A [(qm, .inr (4, [.ref qmd, .ref qmt, .int (nI n), .int (bI on), .int lf, .int (nI dn), .int pl, .ref qml, .int (nI k), .ref qmk, .int (nI mz), .ref qmh, .int (nI nh), .int th, .ref qmw])), (qmd, .inl (cyI, 512, .inl w)), (qmw, .inl (cyZ, 64, .inl WL))] sz) := by
  refine Met.ofW (cc := cX5_findLive) (maxL := 3) (ret := (some .int)) (by decide) rfl ?_
  intro pz ez sS mM args below meth cC s₁ B hml hv
  obtain ⟨rfl, hsz, hP, hK, hD0⟩ := hv
  have hx := B.exec
  have hb := B.bytes
  have hr := B.returns
  have hts := atoms_spec (ws := wsX5_findLive) B.pre
  have hown : sS.vm.findClass RX5 = some mM.cls := findClass_of_methodNamed B.named
  have hlocks := B.notSynchronized
  subst hsz
  have hD := hD0.self (sz := sS.heap.size)
  generalize hAe : va_A [(qm, .inr (4, [.ref qmd, .ref qmt, .int (nI n), .int (bI on), .int lf, .int (nI dn), .int pl, .ref qml, .int (nI k), .ref qmk, .int (nI mz), .ref qmh, .int (nI nh), .int th, .ref qmw])), (qmd, .inl (cyI, 512, .inl w)), (qmw, .inl (cyZ, 64, .inl WL))] sS.heap.size = A at hD ⊢
  have hA : ∀ q : Nat, sS.heap.size ≤ q → A q := fun q h => by rw [← hAe]; exact Or.inr h
  have hS : va_S A sS.heap sS.heap [] := va_S.rf
  have hP : va_P (dC, dI) vwCl [(qm, .inr (4, [.ref qmd, .ref qmt, .int (nI n), .int (bI on), .int lf, .int (nI dn), .int pl, .ref qml, .int (nI k), .ref qmk, .int (nI mz), .ref qmh, .int (nI nh), .int th, .ref qmw])), (qmd, .inl (cyI, 512, .inl w)), (qmw, .inl (cyZ, 64, .inl WL))] sS.heap := hP
  have iwX5 : ∀ w ∈ wsX50, w ∈ wsX5_findLive := by decide +kernel
  have fk36 := hts (.fieldLink RX5 36 "CodedStoreModel" "wasLive" "[Z") (by decide +kernel)
  have hl := lv_entry ([.ref qm]) (n := 3) (Nat.le_of_ble_eq_true rfl)
  rw [lg_entry_eq]
  generalize (lg_sl ([.ref qm]) ++ List.replicate (3 - (lg_sl ([.ref qm])).length) Slot.unset).toArray = ls at hl ⊢
  have hl : lv_has ls 3 [(0, .ref qm)] := hl
  refine lv_iconst (v := nI 0) hx hb dX5_findLive_0 (by decide) ?_
  refine lv_istore_n (lv' := [(1, .int (nI 0)), (0, .ref qm)]) hx hb dX5_findLive_1 rfl hl (by decide) rfl (fun ls hl => ?_)
  refine lv_iconst (v := nI 0) hx hb dX5_findLive_2 (by decide) ?_
  refine lv_istore_n (lv' := [(2, .int (nI 0)), (1, .int (nI 0)), (0, .ref qm)]) hx hb dX5_findLive_3 rfl hl (by decide) rfl (fun ls hl => ?_)
  refine zz_loopW (pc := 4) (μ := fun (x : Nat × (Nat → Int32)) => match x with | (v, WL1) => 64 - v) (Inv := fun (x : Nat × (Nat → Int32)) (H : Heap) (locs : List Loc) (ls : Array Slot) => match x with | (v, WL1) => (v ≤ 64) ∧ (∀ j, j < v → WL1 j = bI (kLive w j)) ∧ va_P (dC, dI) vwCl [(qm, .inr (4, [.ref qmd, .ref qmt, .int (nI n), .int (bI on), .int lf, .int (nI dn), .int pl, .ref qml, .int (nI k), .ref qmk, .int (nI mz), .ref qmh, .int (nI nh), .int th, .ref qmw])), (qmd, .inl (cyI, 512, .inl w)), (qmw, .inl (cyZ, 64, .inl WL1))] H ∧ va_D A [(qm, .inr (4, [.ref qmd, .ref qmt, .int (nI n), .int (bI on), .int lf, .int (nI dn), .int pl, .ref qml, .int (nI k), .ref qmk, .int (nI mz), .ref qmh, .int (nI nh), .int th, .ref qmw])), (qmd, .inl (cyI, 512, .inl w)), (qmw, .inl (cyZ, 64, .inl WL1))] ∧ va_S A sS.heap H locs ∧ lv_has ls 3 [(0, .ref qm), (1, .int (nI (fb_ct (kLive w) v))), (2, .int (nI v))]) (x0 := (0, WL)) ⟨by omega, no_lt0, hP, hD, hS, lv_sub hl [2, 1, 0] rfl⟩ ?_
  intro ⟨v, WL1⟩ H locs ls hI ih4
  obtain ⟨hv9, hWL, hP, hD, hS, hl⟩ := hI
  have hl : lv_has ls 3 [(0, .ref qm), (1, .int (nI (fb_ct (kLive w) v))), (2, .int (nI v))] := hl
  have hP : va_P (dC, dI) vwCl [(qm, .inr (4, [.ref qmd, .ref qmt, .int (nI n), .int (bI on), .int lf, .int (nI dn), .int pl, .ref qml, .int (nI k), .ref qmk, .int (nI mz), .ref qmh, .int (nI nh), .int th, .ref qmw])), (qmd, .inl (cyI, 512, .inl w)), (qmw, .inl (cyZ, 64, .inl WL1))] H := hP
  have hD : va_D A [(qm, .inr (4, [.ref qmd, .ref qmt, .int (nI n), .int (bI on), .int lf, .int (nI dn), .int pl, .ref qml, .int (nI k), .ref qmk, .int (nI mz), .ref qmh, .int (nI nh), .int th, .ref qmw])), (qmd, .inl (cyI, 512, .inl w)), (qmw, .inl (cyZ, 64, .inl WL1))] := hD
  have hv9 : v ≤ 64 := hv9
  have hWL : ∀ j, j < v → WL1 j = bI (kLive w j) := hWL
  refine lv_iload_n hx hb dX5_findLive_4 rfl (lv_at hl 2 rfl) ?_
  refine lv_bipush (v := nI 64) hx hb dX5_findLive_5 (by decide) ?_
  refine zn_icmp_ge (tgt := 44) hx hb dX5_findLive_7 (by decide) (by omega) (by omega) (fun c_7 => ?_) (fun c_7 => ?_)
  ·
    refine lv_iload_n hx hb dX5_findLive_44 rfl (lv_at hl 1 rfl) ?_
    have hP9 := hP.sub (ws' := [(qm, .inr (4, [.ref qmd, .ref qmt, .int (nI n), .int (bI on), .int lf, .int (nI dn), .int pl, .ref qml, .int (nI k), .ref qmk, .int (nI mz), .ref qmh, .int (nI nh), .int th, .ref qmw])), (qmd, .inl (cyI, 512, .inl w)), (qmw, .inl (cyZ, 64, .inl WL1))]) [0, 1, 2] rfl
    have hD9 := hD.sub (ws' := [(qm, .inr (4, [.ref qmd, .ref qmt, .int (nI n), .int (bI on), .int lf, .int (nI dn), .int pl, .ref qml, .int (nI k), .ref qmk, .int (nI mz), .ref qmh, .int (nI nh), .int th, .ref qmw])), (qmd, .inl (cyI, 512, .inl w)), (qmw, .inl (cyZ, 64, .inl WL1))]) [0, 1, 2] (by decide) rfl
    have hK9 := hK.sub (tys' := [(cyI, .int), (cyZ, .boolean)]) [0, 1] rfl
    have hret : (nI (fb_ct (kLive w) v) : Int32) = nI (fb_ct (kLive w) 64) := by rw [show v = 64 by omega]
    refine zz_top hret ?_
    exact W.iret hx hb hr (fun tS ht hW => ⟨⟨_, WL1, rfl, ⟨rfl, fun j h => hWL j (by omega)⟩, by rw [ht]; exact hP9, va_K.moved hW.alike hK9, hD9⟩, hS.F ht⟩) hS.2.2 dX5_findLive_45
  ·
    refine lv_aload_n hx hb dX5_findLive_10 rfl (lv_at hl 0 rfl) ?_
    refine va_get (D := (dC, dI)) (ci := 4) (v := .ref qmw) (C := RX5) (T := TX5) (N := 15) hx hb hts iwX5 hown hK hP 0 rfl rfl 14 (by decide) fk36 (fun _ h9 => h9) rfl dX5_findLive_11 ?_
    refine lv_iload_n hx hb dX5_findLive_14 rfl (lv_at hl 2 rfl) ?_
    refine lv_aload_n hx hb dX5_findLive_15 rfl (lv_at hl 0 rfl) ?_
    refine lv_iload_n hx hb dX5_findLive_16 rfl (lv_at hl 2 rfl) ?_
    have hPc := hP.sub (ws' := [(qm, .inr (4, [.ref qmd, .ref qmt, .int (nI n), .int (bI on), .int lf, .int (nI dn), .int pl, .ref qml, .int (nI k), .ref qmk, .int (nI mz), .ref qmh, .int (nI nh), .int th, .ref qmw])), (qmd, .inl (cyI, 512, .inl w))]) [0, 1] rfl
    have hKc := hK.sub (tys' := [(cyI, .int), (cyZ, .boolean)]) [0, 1] rfl
    refine vp_callSi (va_Run.run (va_runV (As := [.int (nI v)]) (rest := [.int (nI v), .ref qmw]) ⟨hx, hb, hml, hown, hts⟩ (c_X5_isLive l dC dI cyI cyZ qm qmd qmt qml qmk qmh qmw n on lf dn pl k mz nh th w v (by omega) (HP0)) (cwV 1 hts gX5_findLive_X5_isLive rfl rfl rfl (by decide +kernel) ⟨Nat.le_of_ble_eq_true rfl, Nat.le_of_ble_eq_true rfl⟩) ⟨zz_blR, va_recv hKc hPc (ci := 4) (q0 := 0) rfl rfl, fun U hU hW => ⟨rfl, by rw [hU]; exact hPc, va_K.moved hW.alike hKc⟩⟩ rfl rfl hl.1 rfl (lv_room (Nat.le_of_ble_eq_true rfl)) dX5_findLive_17 ⟨Nat.zero_le _, Nat.zero_le _⟩)) (fun r_17 hr_17 => ?_)
    have hr_17 : bI (kLive w v) = r_17 := Eq.symm hr_17
    subst hr_17
    refine va_zast hx hb hK hP hD hS 2 1 rfl rfl (vp_in_nI (n := v) (by omega) (by decide)) dX5_findLive_20 (fun H locs hP hD hS => ?_)
    rw [nI_clamp (n := v) (by omega)] at hP hD
    rw [zz_nar_b (kLive w v)] at hP hD
    have hP : va_P (dC, dI) vwCl [(qm, .inr (4, [.ref qmd, .ref qmt, .int (nI n), .int (bI on), .int lf, .int (nI dn), .int pl, .ref qml, .int (nI k), .ref qmk, .int (nI mz), .ref qmh, .int (nI nh), .int th, .ref qmw])), (qmd, .inl (cyI, 512, .inl w)), (qmw, .inl (cyZ, 64, .inl (upd WL1 v (bI (kLive w v)))))] H := hP
    have hD : va_D A [(qm, .inr (4, [.ref qmd, .ref qmt, .int (nI n), .int (bI on), .int lf, .int (nI dn), .int pl, .ref qml, .int (nI k), .ref qmk, .int (nI mz), .ref qmh, .int (nI nh), .int th, .ref qmw])), (qmd, .inl (cyI, 512, .inl w)), (qmw, .inl (cyZ, 64, .inl (upd WL1 v (bI (kLive w v)))))] := hD
    refine lv_iload_n hx hb dX5_findLive_21 rfl (lv_at hl 1 rfl) ?_
    refine lv_aload_n hx hb dX5_findLive_22 rfl (lv_at hl 0 rfl) ?_
    refine va_get (D := (dC, dI)) (ci := 4) (v := .ref qmw) (C := RX5) (T := TX5) (N := 15) hx hb hts iwX5 hown hK hP 0 rfl rfl 14 (by decide) fk36 (fun _ h9 => h9) rfl dX5_findLive_23 ?_
    refine lv_iload_n hx hb dX5_findLive_26 rfl (lv_at hl 2 rfl) ?_
    refine va_zald hx hb hK hP 2 1 rfl rfl (vp_in_nI (n := v) (by omega) (by decide)) dX5_findLive_27 ?_
    refine zz_top (congrArg (upd WL1 v (bI (kLive w v))) (nI_clamp (n := v) (by omega))) ?_
    refine zz_top (upd_at) ?_
    refine zb_if_eq (tgt := 35) hx hb dX5_findLive_28 (by decide) (fun c_28 => ?_) (fun c_28 => ?_)
    ·
      refine lv_iconst (v := nI 0) hx hb dX5_findLive_35 (by decide) ?_
      refine lv_iadd hx hb dX5_findLive_36 ?_
      refine zz_top (nI_add (fb_ct (kLive w) v) 0) ?_
      refine lv_istore_n (lv' := [(1, .int (nI (fb_ct (kLive w) v))), (0, .ref qm), (2, .int (nI v))]) hx hb dX5_findLive_37 rfl hl (by decide) rfl (fun ls hl => ?_)
      refine lv_iinc (v := nI (v + 1)) (lv' := [(2, .int (nI (v + 1))), (1, .int (nI (fb_ct (kLive w) v))), (0, .ref qm)]) hx hb dX5_findLive_38 hl (k := 2) rfl (nI_add v 1) (by decide) rfl (fun ls hl => ?_)
      refine lv_goto (tgt := 4) hx hb dX5_findLive_41 (by decide) ?_
      rw [kct_n (q := kLive w) (k := v) (c_28)] at hl
      -- local 1: .int (nI (fb_ct (kLive w) v)) ~ .int (nI (fb_ct (kLive w) (v + 1)))
      exact ih4 (v + 1, upd WL1 v (bI (kLive w v))) _ _ _ ⟨by omega, arr_step hWL rfl, hP, hD, hS, lv_sub hl [2, 1, 0] rfl⟩ (by first | omega | (dsimp only; omega))
    ·
      refine lv_iconst (v := nI 1) hx hb dX5_findLive_31 (by decide) ?_
      refine lv_goto (tgt := 36) hx hb dX5_findLive_32 (by decide) ?_
      refine lv_iadd hx hb dX5_findLive_36 ?_
      refine zz_top (nI_add (fb_ct (kLive w) v) 1) ?_
      refine lv_istore_n (lv' := [(1, .int (nI (fb_ct (kLive w) v + 1))), (0, .ref qm), (2, .int (nI v))]) hx hb dX5_findLive_37 rfl hl (by decide) rfl (fun ls hl => ?_)
      refine lv_iinc (v := nI (v + 1)) (lv' := [(2, .int (nI (v + 1))), (1, .int (nI (fb_ct (kLive w) v + 1))), (0, .ref qm)]) hx hb dX5_findLive_38 hl (k := 2) rfl (nI_add v 1) (by decide) rfl (fun ls hl => ?_)
      refine lv_goto (tgt := 4) hx hb dX5_findLive_41 (by decide) ?_
      rw [kct_y (q := kLive w) (k := v) (c_28)] at hl
      -- local 1: .int (nI (fb_ct (kLive w) v + 1)) ~ .int (nI (fb_ct (kLive w) (v + 1)))
      exact ih4 (v + 1, upd WL1 v (bI (kLive w v))) _ _ _ ⟨by omega, arr_step hWL rfl, hP, hD, hS, lv_sub hl [2, 1, 0] rfl⟩ (by first | omega | (dsimp only; omega))
set_option maxHeartbeats 4000000 in
set_option maxRecDepth 100000 in
theorem c_X5_word4 (l : Launch) (dC : Nat → ClassId) (dI : Nat → Nat → Nat) (cyI cyZ : ClassId) (qm qmk qmd qmt qml qmh qmw : Nat) (n : Nat) (on : Bool) (lf : Int32) (dn : Nat) (pl : Int32) (k mz nh : Nat) (th : Int32) (M : Nat → Int32) (i : Nat) (hmz : mz ≤ 460) (hi : i < 2147483600) : Met l yX5_word4 wsX5_word4 ({ frames := 0, cells := 0, slots := 0, locals := 0 }) (va_Pc [.ref qm, .int (nI i)] (fun U => va_P (dC, dI) vwCl [(qm, .inr (4, [.ref qmd, .ref qmt, .int (nI n), .int (bI on), .int lf, .int (nI dn), .int pl, .ref qml, .int (nI k), .ref qmk, .int (nI mz), .ref qmh, .int (nI nh), .int th, .ref qmw])), (qmk, .inl (cyI, 460, .inl M))] U.heap ∧ va_K (dC, dI) vwCl [(cyI, .int), (cyZ, .boolean)] U)) (vp_Si (fun r => r = zfour M mz i)) 0 0 (fun _ => False) := by
  refine Met.ofW (cc := cX5_word4) (maxL := 4) (ret := (some .int)) (by decide) rfl ?_
  intro pz ez sS mM args below meth cC s₁ B hml hv
  obtain ⟨rfl, hP, hK⟩ := hv
  have hx := B.exec
  have hb := B.bytes
  have hr := B.returns
  have hts := atoms_spec (ws := wsX5_word4) B.pre
  have hown : sS.vm.findClass RX5 = some mM.cls := findClass_of_methodNamed B.named
  have hlocks := B.notSynchronized
  have iwX5 : ∀ w ∈ wsX50, w ∈ wsX5_word4 := by decide +kernel
  have fk30 := hts (.fieldLink RX5 30 "CodedStoreModel" "made" "[I") (by decide +kernel)
  have fk51 := hts (.fieldLink RX5 51 "CodedStoreModel" "madeSize" "I") (by decide +kernel)
  have hl := lv_entry ([.ref qm, .int (nI i)]) (n := 4) (Nat.le_of_ble_eq_true rfl)
  rw [lg_entry_eq]
  generalize (lg_sl ([.ref qm, .int (nI i)]) ++ List.replicate (4 - (lg_sl ([.ref qm, .int (nI i)])).length) Slot.unset).toArray = ls at hl ⊢
  have hl : lv_has ls 4 [(0, .ref qm), (1, .int (nI i))] := hl
  refine lv_iconst (v := nI 0) hx hb dX5_word4_0 (by decide) ?_
  refine lv_istore_n (lv' := [(2, .int (nI 0)), (0, .ref qm), (1, .int (nI i))]) hx hb dX5_word4_1 rfl hl (by decide) rfl (fun ls hl => ?_)
  refine lv_iconst (v := nI 3) hx hb dX5_word4_2 (by decide) ?_
  refine lv_istore_n (lv' := [(3, .int (nI 3)), (2, .int (nI 0)), (0, .ref qm), (1, .int (nI i))]) hx hb dX5_word4_3 rfl hl (by decide) rfl (fun ls hl => ?_)
  refine zz_loopR (pc := 4) (μ := fun (c : Nat) => 4 - c) (Inv := fun (c : Nat) (ls : Array Slot) => (c ≤ 4) ∧ lv_has ls 4 [(0, .ref qm), (1, .int (nI i)), (2, .int (zw M mz i c)), (3, .int (nI 3 - nI c))]) (x0 := (0)) ⟨by omega, lv_sub hl [2, 3, 1, 0] rfl⟩ ?_
  intro c ls hI ih4
  obtain ⟨hc, hl⟩ := hI
  have hl : lv_has ls 4 [(0, .ref qm), (1, .int (nI i)), (2, .int (zw M mz i c)), (3, .int (nI 3 - nI c))] := hl
  have hc : c ≤ 4 := hc
  refine lv_iload_n hx hb dX5_word4_4 rfl (lv_at hl 3 rfl) ?_
  rcases (show c < 4 ∨ c = 4 by omega) with hc | hc
  ·
    refine zz_top (pk_sub (a := 3) (b := c) (by omega)) ?_
    refine zn_if_lt (tgt := 42) hx hb dX5_word4_5 (by decide) (by omega) ?_
    refine lv_iload_n hx hb dX5_word4_8 rfl (lv_at hl 2 rfl) ?_
    refine lv_bipush (v := nI 8) hx hb dX5_word4_9 (by decide) ?_
    refine lv_ishl hx hb dX5_word4_11 ?_
    refine lv_iload_n hx hb dX5_word4_12 rfl (lv_at hl 1 rfl) ?_
    refine lv_iload_n hx hb dX5_word4_13 rfl (lv_at hl 3 rfl) ?_
    refine zz_top (pk_sub (a := 3) (b := c) (by omega)) ?_
    refine lv_iadd hx hb dX5_word4_14 ?_
    refine zz_top (nI_add i (3 - c)) ?_
    refine lv_aload_n hx hb dX5_word4_15 rfl (lv_at hl 0 rfl) ?_
    refine va_get (D := (dC, dI)) (ci := 4) (v := .int (nI mz)) (C := RX5) (T := TX5) (N := 15) hx hb hts iwX5 hown hK hP 0 rfl rfl 10 (by decide) fk51 (fun _ h9 => h9) rfl dX5_word4_16 ?_
    refine zn_icmp_ge (tgt := 33) hx hb dX5_word4_19 (by decide) (by omega) (by omega) (fun c_19 => ?_) (fun c_19 => ?_)
    ·
      refine lv_iconst (v := nI 0) hx hb dX5_word4_33 (by decide) ?_
      refine zz_top (show nI 0 = zat M mz (i + (3 - c)) from (zat_out (by omega)).symm) ?_
      refine lv_ior hx hb dX5_word4_34 ?_
      refine lv_istore_n (lv' := [(2, .int (((zw M mz i c) <<< ((nI 8) &&& 31)) ||| (zat M mz (i + (3 - c))))), (0, .ref qm), (1, .int (nI i)), (3, .int (nI 3 - nI c))]) hx hb dX5_word4_35 rfl hl (by decide) rfl (fun ls hl => ?_)
      refine lv_iinc (v := nI 3 - nI (c + 1)) (lv' := [(3, .int (nI 3 - nI (c + 1))), (2, .int (((zw M mz i c) <<< ((nI 8) &&& 31)) ||| (zat M mz (i + (3 - c))))), (0, .ref qm), (1, .int (nI i))]) hx hb dX5_word4_36 hl (k := 3) rfl (zw_k (by omega)) (by decide) rfl (fun ls hl => ?_)
      refine lv_goto (tgt := 4) hx hb dX5_word4_39 (by decide) ?_
      -- local 2: .int (((zw M mz i c) <<< ((nI 8) &&& 31)) ||| (zat M mz (i + (3 - c)))) ~ .int (zw M mz i (c + 1))
      exact ih4 (c + 1) _ ⟨by omega, lv_sub hl [2, 3, 1, 0] rfl⟩ (by first | omega | (dsimp only; omega))
    ·
      refine lv_aload_n hx hb dX5_word4_22 rfl (lv_at hl 0 rfl) ?_
      refine va_get (D := (dC, dI)) (ci := 4) (v := .ref qmk) (C := RX5) (T := TX5) (N := 15) hx hb hts iwX5 hown hK hP 0 rfl rfl 9 (by decide) fk30 (fun _ h9 => h9) rfl dX5_word4_23 ?_
      refine lv_iload_n hx hb dX5_word4_26 rfl (lv_at hl 1 rfl) ?_
      refine lv_iload_n hx hb dX5_word4_27 rfl (lv_at hl 3 rfl) ?_
      refine zz_top (pk_sub (a := 3) (b := c) (by omega)) ?_
      refine lv_iadd hx hb dX5_word4_28 ?_
      refine zz_top (nI_add i (3 - c)) ?_
      refine va_iald hx hb hK hP 1 0 rfl rfl (vp_in_nI (n := i + (3 - c)) (by omega) (by decide)) dX5_word4_29 ?_
      refine zz_top (congrArg M (nI_clamp (n := i + (3 - c)) (by omega))) ?_
      refine lv_goto (tgt := 34) hx hb dX5_word4_30 (by decide) ?_
      refine zz_top (show M (i + (3 - c)) = zat M mz (i + (3 - c)) from (zat_in (by omega)).symm) ?_
      refine lv_ior hx hb dX5_word4_34 ?_
      refine lv_istore_n (lv' := [(2, .int (((zw M mz i c) <<< ((nI 8) &&& 31)) ||| (zat M mz (i + (3 - c))))), (0, .ref qm), (1, .int (nI i)), (3, .int (nI 3 - nI c))]) hx hb dX5_word4_35 rfl hl (by decide) rfl (fun ls hl => ?_)
      refine lv_iinc (v := nI 3 - nI (c + 1)) (lv' := [(3, .int (nI 3 - nI (c + 1))), (2, .int (((zw M mz i c) <<< ((nI 8) &&& 31)) ||| (zat M mz (i + (3 - c))))), (0, .ref qm), (1, .int (nI i))]) hx hb dX5_word4_36 hl (k := 3) rfl (zw_k (by omega)) (by decide) rfl (fun ls hl => ?_)
      refine lv_goto (tgt := 4) hx hb dX5_word4_39 (by decide) ?_
      -- local 2: .int (((zw M mz i c) <<< ((nI 8) &&& 31)) ||| (zat M mz (i + (3 - c)))) ~ .int (zw M mz i (c + 1))
      exact ih4 (c + 1) _ ⟨by omega, lv_sub hl [2, 3, 1, 0] rfl⟩ (by first | omega | (dsimp only; omega))
  ·
    subst hc
    refine zz_top (show nI 3 - nI 4 = (-1) by decide) ?_
    refine lv_if_lt (tgt := 42) hx hb dX5_word4_5 (by decide) (fun c_5 => ?_) (fun c_5 => absurd (by decide) c_5)
    refine lv_iload_n hx hb dX5_word4_42 rfl (lv_at hl 2 rfl) ?_
    have hret : (zw M mz i 4 : Int32) = zfour M mz i := zw_4 M mz i
    refine zz_top hret ?_
    exact W.iret hx hb hr (fun tS ht hW => ⟨_, rfl, rfl, ht⟩) (fun _ h => nomatch h) dX5_word4_43
set_option maxHeartbeats 4000000 in
set_option maxRecDepth 100000 in
theorem c_X5_texts (l : Launch) (dC : Nat → ClassId) (dI : Nat → Nat → Nat) (cyI cyZ : ClassId) (qm qmd qmt qml qmk qmh qmw : Nat) (n : Nat) (on : Bool) (lf : Int32) (dn : Nat) (pl : Int32) (k mz nh : Nat) (th : Int32) (w : Nat → Int32) (HP0 : kPos w) : Met l yX5_texts wsX5_texts ({ frames := 4, cells := 0, slots := 0, locals := 87 }) (va_Pc [.ref qm] (fun U => va_P (dC, dI) vwCl [(qm, .inr (4, [.ref qmd, .ref qmt, .int (nI n), .int (bI on), .int lf, .int (nI dn), .int pl, .ref qml, .int (nI k), .ref qmk, .int (nI mz), .ref qmh, .int (nI nh), .int th, .ref qmw])), (qmd, .inl (cyI, 512, .inl w))] U.heap ∧ va_K (dC, dI) vwCl [(cyI, .int), (cyZ, .boolean)] U)) (vp_Si (fun r => r = nI (fb_ct (kText (kLive w) w) 64))) 0 0 (fun _ => False) := by
  refine Met.ofW (cc := cX5_texts) (maxL := 3) (ret := (some .int)) (by decide) rfl ?_
  intro pz ez sS mM args below meth cC s₁ B hml hv
  obtain ⟨rfl, hP, hK⟩ := hv
  have hx := B.exec
  have hb := B.bytes
  have hr := B.returns
  have hts := atoms_spec (ws := wsX5_texts) B.pre
  have hown : sS.vm.findClass RX5 = some mM.cls := findClass_of_methodNamed B.named
  have hlocks := B.notSynchronized
  have hl := lv_entry ([.ref qm]) (n := 3) (Nat.le_of_ble_eq_true rfl)
  rw [lg_entry_eq]
  generalize (lg_sl ([.ref qm]) ++ List.replicate (3 - (lg_sl ([.ref qm])).length) Slot.unset).toArray = ls at hl ⊢
  have hl : lv_has ls 3 [(0, .ref qm)] := hl
  refine lv_iconst (v := nI 0) hx hb dX5_texts_0 (by decide) ?_
  refine lv_istore_n (lv' := [(1, .int (nI 0)), (0, .ref qm)]) hx hb dX5_texts_1 rfl hl (by decide) rfl (fun ls hl => ?_)
  refine lv_iconst (v := nI 0) hx hb dX5_texts_2 (by decide) ?_
  refine lv_istore_n (lv' := [(2, .int (nI 0)), (1, .int (nI 0)), (0, .ref qm)]) hx hb dX5_texts_3 rfl hl (by decide) rfl (fun ls hl => ?_)
  refine zz_loopR (pc := 4) (μ := fun (v : Nat) => 64 - v) (Inv := fun (v : Nat) (ls : Array Slot) => (v ≤ 64) ∧ lv_has ls 3 [(0, .ref qm), (1, .int (nI (fb_ct (kText (kLive w) w) v))), (2, .int (nI v))]) (x0 := (0)) ⟨by omega, lv_sub hl [2, 1, 0] rfl⟩ ?_
  intro v ls hI ih4
  obtain ⟨hv9, hl⟩ := hI
  have hl : lv_has ls 3 [(0, .ref qm), (1, .int (nI (fb_ct (kText (kLive w) w) v))), (2, .int (nI v))] := hl
  have hv9 : v ≤ 64 := hv9
  refine lv_iload_n hx hb dX5_texts_4 rfl (lv_at hl 2 rfl) ?_
  refine lv_bipush (v := nI 64) hx hb dX5_texts_5 (by decide) ?_
  refine zn_icmp_ge (tgt := 32) hx hb dX5_texts_7 (by decide) (by omega) (by omega) (fun c_7 => ?_) (fun c_7 => ?_)
  ·
    refine lv_iload_n hx hb dX5_texts_32 rfl (lv_at hl 1 rfl) ?_
    have hret : (nI (fb_ct (kText (kLive w) w) v) : Int32) = nI (fb_ct (kText (kLive w) w) 64) := by rw [show v = 64 by omega]
    refine zz_top hret ?_
    exact W.iret hx hb hr (fun tS ht hW => ⟨_, rfl, rfl, ht⟩) (fun _ h => nomatch h) dX5_texts_33
  ·
    refine lv_iload_n hx hb dX5_texts_10 rfl (lv_at hl 1 rfl) ?_
    refine lv_aload_n hx hb dX5_texts_11 rfl (lv_at hl 0 rfl) ?_
    refine lv_iload_n hx hb dX5_texts_12 rfl (lv_at hl 2 rfl) ?_
    have hPc := hP.sub (ws' := [(qm, .inr (4, [.ref qmd, .ref qmt, .int (nI n), .int (bI on), .int lf, .int (nI dn), .int pl, .ref qml, .int (nI k), .ref qmk, .int (nI mz), .ref qmh, .int (nI nh), .int th, .ref qmw])), (qmd, .inl (cyI, 512, .inl w))]) [0, 1] rfl
    have hKc := hK.sub (tys' := [(cyI, .int), (cyZ, .boolean)]) [0, 1] rfl
    refine vp_callSi (va_Run.run (va_runV (As := [.int (nI v)]) (rest := [.int (nI (fb_ct (kText (kLive w) w) v))]) ⟨hx, hb, hml, hown, hts⟩ (c_X5_isText l dC dI cyI cyZ qm qmd qmt qml qmk qmh qmw n on lf dn pl k mz nh th w v (by omega) (HP0)) (cwV 1 hts gX5_texts_X5_isText rfl rfl rfl (by decide +kernel) ⟨Nat.le_of_ble_eq_true rfl, Nat.le_of_ble_eq_true rfl⟩) ⟨zz_blR, va_recv hKc hPc (ci := 4) (q0 := 0) rfl rfl, fun U hU hW => ⟨rfl, by rw [hU]; exact hPc, va_K.moved hW.alike hKc⟩⟩ rfl rfl hl.1 rfl (lv_room (Nat.le_of_ble_eq_true rfl)) dX5_texts_13 ⟨Nat.zero_le _, Nat.zero_le _⟩)) (fun r_13 hr_13 => ?_)
    have hr_13 : bI (kText (kLive w) w v) = r_13 := Eq.symm hr_13
    subst hr_13
    refine zb_if_eq (tgt := 23) hx hb dX5_texts_16 (by decide) (fun c_16 => ?_) (fun c_16 => ?_)
    ·
      refine lv_iconst (v := nI 0) hx hb dX5_texts_23 (by decide) ?_
      refine lv_iadd hx hb dX5_texts_24 ?_
      refine zz_top (nI_add (fb_ct (kText (kLive w) w) v) 0) ?_
      refine lv_istore_n (lv' := [(1, .int (nI (fb_ct (kText (kLive w) w) v))), (0, .ref qm), (2, .int (nI v))]) hx hb dX5_texts_25 rfl hl (by decide) rfl (fun ls hl => ?_)
      refine lv_iinc (v := nI (v + 1)) (lv' := [(2, .int (nI (v + 1))), (1, .int (nI (fb_ct (kText (kLive w) w) v))), (0, .ref qm)]) hx hb dX5_texts_26 hl (k := 2) rfl (nI_add v 1) (by decide) rfl (fun ls hl => ?_)
      refine lv_goto (tgt := 4) hx hb dX5_texts_29 (by decide) ?_
      rw [kct_n (q := kText (kLive w) w) (k := v) (c_16)] at hl
      -- local 1: .int (nI (fb_ct (kText (kLive w) w) v)) ~ .int (nI (fb_ct (kText (kLive w) w) (v + 1)))
      exact ih4 (v + 1) _ ⟨by omega, lv_sub hl [2, 1, 0] rfl⟩ (by first | omega | (dsimp only; omega))
    ·
      refine lv_iconst (v := nI 1) hx hb dX5_texts_19 (by decide) ?_
      refine lv_goto (tgt := 24) hx hb dX5_texts_20 (by decide) ?_
      refine lv_iadd hx hb dX5_texts_24 ?_
      refine zz_top (nI_add (fb_ct (kText (kLive w) w) v) 1) ?_
      refine lv_istore_n (lv' := [(1, .int (nI (fb_ct (kText (kLive w) w) v + 1))), (0, .ref qm), (2, .int (nI v))]) hx hb dX5_texts_25 rfl hl (by decide) rfl (fun ls hl => ?_)
      refine lv_iinc (v := nI (v + 1)) (lv' := [(2, .int (nI (v + 1))), (1, .int (nI (fb_ct (kText (kLive w) w) v + 1))), (0, .ref qm)]) hx hb dX5_texts_26 hl (k := 2) rfl (nI_add v 1) (by decide) rfl (fun ls hl => ?_)
      refine lv_goto (tgt := 4) hx hb dX5_texts_29 (by decide) ?_
      rw [kct_y (q := kText (kLive w) w) (k := v) (c_16)] at hl
      -- local 1: .int (nI (fb_ct (kText (kLive w) w) v + 1)) ~ .int (nI (fb_ct (kText (kLive w) w) (v + 1)))
      exact ih4 (v + 1) _ ⟨by omega, lv_sub hl [2, 1, 0] rfl⟩ (by first | omega | (dsimp only; omega))
