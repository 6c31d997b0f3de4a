set_option maxHeartbeats 4000000 in
set_option maxRecDepth 100000 in
theorem c_X5_thrown (l : Launch) (dC : Nat → ClassId) (dI : Nat → Nat → Nat) (cyI cyZ : ClassId) (qm qmd qmt qml qmk qmh qmw : Nat) (n : Nat) (on : Bool) (lf : Int32) (dn : Nat) (pl : Int32) (k mz nh : Nat) (th : Int32)  : Met l yX5_thrown wsX5_thrown ({ frames := 0, cells := 0, slots := 0, locals := 0 }) (va_Pc [.ref qm] (fun U => va_P (dC, dI) vwCl [(qm, .inr (4, [.ref qmd, .ref qmt, .int (nI n), .int (bI on), .int lf, .int (nI dn), .int pl, .ref qml, .int (nI k), .ref qmk, .int (nI mz), .ref qmh, .int (nI nh), .int th, .ref qmw]))] U.heap ∧ va_K (dC, dI) vwCl [(cyI, .int), (cyZ, .boolean)] U)) (vp_Si (fun r => r = th)) 0 0 (fun _ => False) := by
  refine Met.ofW (cc := cX5_thrown) (maxL := 1) (ret := (some .int)) (by decide) rfl ?_
  intro pz ez sS mM args below meth cC s₁ B hml hv
  obtain ⟨rfl, hP, hK⟩ := hv
  have hx := B.exec
  have hb := B.bytes
  have hr := B.returns
  have hts := atoms_spec (ws := wsX5_thrown) B.pre
  have hown : sS.vm.findClass RX5 = some mM.cls := findClass_of_methodNamed B.named
  have hlocks := B.notSynchronized
  have iwX5 : ∀ w ∈ wsX50, w ∈ wsX5_thrown := by decide +kernel
  have fk43 := hts (.fieldLink RX5 43 "CodedStoreModel" "thrown" "I") (by decide +kernel)
  have hl := lv_entry ([.ref qm]) (n := 1) (Nat.le_of_ble_eq_true rfl)
  rw [lg_entry_eq]
  generalize (lg_sl ([.ref qm]) ++ List.replicate (1 - (lg_sl ([.ref qm])).length) Slot.unset).toArray = ls at hl ⊢
  have hl : lv_has ls 1 [(0, .ref qm)] := hl
  refine lv_aload_n hx hb dX5_thrown_0 rfl (lv_at hl 0 rfl) ?_
  refine va_get (D := (dC, dI)) (ci := 4) (v := .int th) (C := RX5) (T := TX5) (N := 15) hx hb hts iwX5 hown hK hP 0 rfl rfl 13 (by decide) fk43 (fun _ h9 => h9) rfl dX5_thrown_1 ?_
  exact W.iret hx hb hr (fun tS ht hW => ⟨_, rfl, rfl, ht⟩) (fun _ h => nomatch h) dX5_thrown_4
set_option maxHeartbeats 4000000 in
set_option maxRecDepth 100000 in
theorem c_X5_alike (l : Launch) (dC : Nat → ClassId) (dI : Nat → Nat → Nat) (cyI cyZ : ClassId) (qm qmh qmd qmt qml qmk qmw : Nat) (n : Nat) (on : Bool) (lf : Int32) (dn : Nat) (pl : Int32) (k mz nh : Nat) (th : Int32) (Hd : Nat → Int32) (i d : Nat) (hn : nh ≤ 450) (hi : i < nh) (hd0 : 0 < d) (hd1 : d ≤ i) : Met l yX5_alike wsX5_alike ({ frames := 0, cells := 0, slots := 0, locals := 0 }) (va_Pc [.ref qm, .int (nI i), .int (nI (i - d))] (fun U => va_P (dC, dI) vwCl [(qm, .inr (4, [.ref qmd, .ref qmt, .int (nI n), .int (bI on), .int lf, .int (nI dn), .int pl, .ref qml, .int (nI k), .ref qmk, .int (nI mz), .ref qmh, .int (nI nh), .int th, .ref qmw])), (qmh, .inl (cyI, 460, .inl Hd))] U.heap ∧ va_K (dC, dI) vwCl [(cyI, .int), (cyZ, .boolean)] U)) (vp_Si (fun r => r = nI (zRun Hd nh i d))) 0 0 (fun _ => False) := by
  refine Met.ofW (cc := cX5_alike) (maxL := 4) (ret := (some .int)) (by decide) rfl ?_
  intro pz ez sS mM args below meth cC s₁ B hml hv
  obtain ⟨rfl, hP, hK⟩ := hv
  have hx := B.exec
  have hb := B.bytes
  have hr := B.returns
  have hts := atoms_spec (ws := wsX5_alike) B.pre
  have hown : sS.vm.findClass RX5 = some mM.cls := findClass_of_methodNamed B.named
  have hlocks := B.notSynchronized
  have iwX5 : ∀ w ∈ wsX50, w ∈ wsX5_alike := by decide +kernel
  have fk33 := hts (.fieldLink RX5 33 "CodedStoreModel" "hand" "[I") (by decide +kernel)
  have fk48 := hts (.fieldLink RX5 48 "CodedStoreModel" "handSize" "I") (by decide +kernel)
  have hl := lv_entry ([.ref qm, .int (nI i), .int (nI (i - d))]) (n := 4) (Nat.le_of_ble_eq_true rfl)
  rw [lg_entry_eq]
  generalize (lg_sl ([.ref qm, .int (nI i), .int (nI (i - d))]) ++ List.replicate (4 - (lg_sl ([.ref qm, .int (nI i), .int (nI (i - d))])).length) Slot.unset).toArray = ls at hl ⊢
  have hl : lv_has ls 4 [(0, .ref qm), (1, .int (nI i)), (2, .int (nI (i - d)))] := hl
  obtain ⟨zc1, zc2⟩ := zcap_le nh i
  have zc3 : zCap nh i = 258 ∨ zCap nh i = nh - i := by unfold zCap; omega
  refine lv_iconst (v := nI 0) hx hb dX5_alike_0 (by decide) ?_
  refine lv_istore_n (lv' := [(3, .int (nI 0)), (0, .ref qm), (1, .int (nI i)), (2, .int (nI (i - d)))]) hx hb dX5_alike_1 rfl hl (by decide) rfl (fun ls hl => ?_)
  refine zz_loopR (pc := 2) (μ := fun (q : Nat) => zCap nh i - q) (Inv := fun (q : Nat) (ls : Array Slot) => (q ≤ zCap nh i) ∧ (∀ j, j < q → zMis Hd i d j = false) ∧ lv_has ls 4 [(0, .ref qm), (1, .int (nI i)), (2, .int (nI (i - d))), (3, .int (nI q))]) (x0 := (0)) ⟨by omega, no_lt0, lv_sub hl [1, 2, 3, 0] rfl⟩ ?_
  intro q ls hI ih2
  obtain ⟨hk, hj, hl⟩ := hI
  have hl : lv_has ls 4 [(0, .ref qm), (1, .int (nI i)), (2, .int (nI (i - d))), (3, .int (nI q))] := hl
  have hk : q ≤ zCap nh i := hk
  have hj : ∀ j, j < q → zMis Hd i d j = false := hj
  refine lv_iload_n hx hb dX5_alike_2 rfl (lv_at hl 1 rfl) ?_
  refine lv_iload_n hx hb dX5_alike_3 rfl (lv_at hl 3 rfl) ?_
  refine lv_iadd hx hb dX5_alike_4 ?_
  refine zz_top (nI_add i q) ?_
  refine lv_aload_n hx hb dX5_alike_5 rfl (lv_at hl 0 rfl) ?_
  refine va_get (D := (dC, dI)) (ci := 4) (v := .int (nI nh)) (C := RX5) (T := TX5) (N := 15) hx hb hts iwX5 hown hK hP 0 rfl rfl 12 (by decide) fk48 (fun _ h9 => h9) rfl dX5_alike_6 ?_
  refine zn_icmp_ge (tgt := 44) hx hb dX5_alike_9 (by decide) (by omega) (by omega) (fun c_9 => ?_) (fun c_9 => ?_)
  ·
    refine lv_iload_n hx hb dX5_alike_44 rfl (lv_at hl 3 rfl) ?_
    have hret : (nI q : Int32) = nI (zRun Hd nh i d) := by first | (rw [show q = zCap nh i by omega]; exact congrArg nI (zFst_no (fun j h => hj j (by omega))).symm) | exact congrArg nI (zFst_is (by omega) (nd_t (by rw [show i + q - d = i - d + q by omega]; exact c_35)) hj).symm
    refine zz_top hret ?_
    exact W.iret hx hb hr (fun tS ht hW => ⟨_, rfl, rfl, ht⟩) (fun _ h => nomatch h) dX5_alike_45
  ·
    refine lv_iload_n hx hb dX5_alike_12 rfl (lv_at hl 3 rfl) ?_
    refine lv_sipush (v := nI 258) hx hb dX5_alike_13 (by decide) ?_
    refine zn_icmp_ge (tgt := 44) hx hb dX5_alike_16 (by decide) (by omega) (by omega) (fun c_16 => ?_) (fun c_16 => ?_)
    ·
      refine lv_iload_n hx hb dX5_alike_44 rfl (lv_at hl 3 rfl) ?_
      have hret : (nI q : Int32) = nI (zRun Hd nh i d) := by first | (rw [show q = zCap nh i by omega]; exact congrArg nI (zFst_no (fun j h => hj j (by omega))).symm) | exact congrArg nI (zFst_is (by omega) (nd_t (by rw [show i + q - d = i - d + q by omega]; exact c_35)) hj).symm
      refine zz_top hret ?_
      exact W.iret hx hb hr (fun tS ht hW => ⟨_, rfl, rfl, ht⟩) (fun _ h => nomatch h) dX5_alike_45
    ·
      refine lv_aload_n hx hb dX5_alike_19 rfl (lv_at hl 0 rfl) ?_
      refine va_get (D := (dC, dI)) (ci := 4) (v := .ref qmh) (C := RX5) (T := TX5) (N := 15) hx hb hts iwX5 hown hK hP 0 rfl rfl 11 (by decide) fk33 (fun _ h9 => h9) rfl dX5_alike_20 ?_
      refine lv_iload_n hx hb dX5_alike_23 rfl (lv_at hl 1 rfl) ?_
      refine lv_iload_n hx hb dX5_alike_24 rfl (lv_at hl 3 rfl) ?_
      refine lv_iadd hx hb dX5_alike_25 ?_
      refine zz_top (nI_add i q) ?_
      refine va_iald hx hb hK hP 1 0 rfl rfl (vp_in_nI (n := i + q) (by omega) (by decide)) dX5_alike_26 ?_
      refine zz_top (congrArg Hd (nI_clamp (n := i + q) (by omega))) ?_
      refine lv_aload_n hx hb dX5_alike_27 rfl (lv_at hl 0 rfl) ?_
      refine va_get (D := (dC, dI)) (ci := 4) (v := .ref qmh) (C := RX5) (T := TX5) (N := 15) hx hb hts iwX5 hown hK hP 0 rfl rfl 11 (by decide) fk33 (fun _ h9 => h9) rfl dX5_alike_28 ?_
      refine lv_iload_n hx hb dX5_alike_31 rfl (lv_at hl 2 rfl) ?_
      refine lv_iload_n hx hb dX5_alike_32 rfl (lv_at hl 3 rfl) ?_
      refine lv_iadd hx hb dX5_alike_33 ?_
      refine zz_top (nI_add (i - d) q) ?_
      refine va_iald hx hb hK hP 1 0 rfl rfl (vp_in_nI (n := (i - d) + q) (by omega) (by decide)) dX5_alike_34 ?_
      refine zz_top (congrArg Hd (nI_clamp (n := (i - d) + q) (by omega))) ?_
      refine lv_icmp_ne (tgt := 44) hx hb dX5_alike_35 (by decide) (fun c_35 => ?_) (fun c_35 => ?_)
      ·
        refine lv_iload_n hx hb dX5_alike_44 rfl (lv_at hl 3 rfl) ?_
        have hret : (nI q : Int32) = nI (zRun Hd nh i d) := by first | (rw [show q = zCap nh i by omega]; exact congrArg nI (zFst_no (fun j h => hj j (by omega))).symm) | exact congrArg nI (zFst_is (by omega) (nd_t (by rw [show i + q - d = i - d + q by omega]; exact c_35)) hj).symm
        refine zz_top hret ?_
        exact W.iret hx hb hr (fun tS ht hW => ⟨_, rfl, rfl, ht⟩) (fun _ h => nomatch h) dX5_alike_45
      ·
        refine lv_iinc (v := nI (q + 1)) (lv' := [(3, .int (nI (q + 1))), (0, .ref qm), (1, .int (nI i)), (2, .int (nI (i - d)))]) hx hb dX5_alike_38 hl (k := 3) rfl (nI_add q 1) (by decide) rfl (fun ls hl => ?_)
        refine lv_goto (tgt := 2) hx hb dX5_alike_41 (by decide) ?_
        exact ih2 (q + 1) _ ⟨by omega, lt_step hj (nd_f (by rw [show i + q - d = i - d + q by omega]; exact c_35)), lv_sub hl [1, 2, 3, 0] rfl⟩ (by first | omega | (dsimp only; omega))
set_option maxHeartbeats 4000000 in
set_option maxRecDepth 100000 in
theorem c_X5_put (l : Launch) (dC : Nat → ClassId) (dI : Nat → Nat → Nat) (cyI cyZ : ClassId) (qm qmk qmd qmt qml qmh qmw : Nat) (sz : Nat) (n : Nat) (on : Bool) (lf : Int32) (dn : Nat) (pl : Int32) (k mz nh : Nat) (th : Int32) (M : Nat → Int32) (v : Int32) (hmz : mz < 460) : Met l yX5_put wsX5_put ({ frames := 0, cells := 0, slots := 0, locals := 0 }) (va_Pc [.ref qm, .int v] (fun U => U.heap.size = sz ∧ va_P (dC, dI) vwCl [(qm, .inr (4, [.ref qmd, .ref qmt, .int (nI n), .int (bI on), .int lf, .int (nI dn), .int pl, .ref qml, .int (nI k), .ref qmk, .int (nI mz), .ref qmh, .int (nI nh), .int th, .ref qmw])), (qmk, .inl (cyI, 460, .inl M))] U.heap ∧ va_K (dC, dI) vwCl [(cyI, .int), (cyZ, .boolean)] U ∧ va_D (fun _ => True) [(qm, .inr (4, [.ref qmd, .ref qmt, .int (nI n), .int (bI on), .int lf, .int (nI dn), .int pl, .ref qml, .int (nI k), .ref qmk, .int (nI mz), .ref qmh, .int (nI nh), .int th, .ref qmw])), (qmk, .inl (cyI, 460, .inl M))])) (va_Qv (S := Unit) (fun (_ : Unit) => True) (fun (_ : Unit) tS => va_P (dC, dI) vwCl [(qm, .inr (4, [.ref qmd, .ref qmt, .int (nI n), .int (bI on), .int lf, .int (nI dn), .int pl, .ref qml, .int (nI k), .ref qmk, .int (nI (mz + 1)), .ref qmh, .int (nI nh), .int th, .ref qmw])), (qmk, .inl (cyI, 460, .inl (upd M mz v)))] tS.heap ∧ va_K (dC, dI) vwCl [(cyI, .int), (cyZ, .boolean)] tS ∧ va_D (va_A [(qm, .inr (4, [.ref qmd, .ref qmt, .int (nI n), .int (bI on), .int lf, .int (nI dn), .int pl, .ref qml, .int (nI k), .ref qmk, .int (nI mz), .ref qmh, .int (nI nh), .int th, .ref qmw])), (qmk, .inl (cyI, 460, .inl M))] sz) [(qm, .inr (4, [.ref qmd, .ref qmt, .int (nI n), .int (bI on), .int lf, .int (nI dn), .int pl, .ref qml, .int (nI k), .ref qmk, .int (nI (mz + 1)), .ref qmh, .int (nI nh), .int th, .ref qmw])), (qmk, .inl (cyI, 460, .inl (upd M mz v)))]) (va_A [(qm, .inr (4, [.ref qmd, .ref qmt, .int (nI n), .int (bI on), .int lf, .int (nI dn), .int pl, .ref qml, .int (nI k), .ref qmk, .int (nI mz), .ref qmh, .int (nI nh), .int th, .ref qmw])), (qmk, .inl (cyI, 460, .inl M))] sz)) 0 0 (va_A [(qm, .inr (4, [.ref qmd, .ref qmt, .int (nI n), .int (bI on), .int lf, .int (nI dn), .int pl, .ref qml, .int (nI k), .ref qmk, .int (nI mz), .ref qmh, .int (nI nh), .int th, .ref qmw])), (qmk, .inl (cyI, 460, .inl M))] sz) := by
  refine Met.ofW (cc := cX5_put) (maxL := 2) (ret := none) (by decide) rfl ?_
  intro pz ez sS mM args below meth cC s₁ B hml hv
  obtain ⟨rfl, hsz, hP, hK, hD0⟩ := hv
  have hx := B.exec
  have hb := B.bytes
  have hr := B.returns
  have hts := atoms_spec (ws := wsX5_put) B.pre
  have hown : sS.vm.findClass RX5 = some mM.cls := findClass_of_methodNamed B.named
  have hlocks := B.notSynchronized
  subst hsz
  have hD := hD0.self (sz := sS.heap.size)
  generalize hAe : va_A [(qm, .inr (4, [.ref qmd, .ref qmt, .int (nI n), .int (bI on), .int lf, .int (nI dn), .int pl, .ref qml, .int (nI k), .ref qmk, .int (nI mz), .ref qmh, .int (nI nh), .int th, .ref qmw])), (qmk, .inl (cyI, 460, .inl M))] sS.heap.size = A at hD ⊢
  have hA : ∀ q : Nat, sS.heap.size ≤ q → A q := fun q h => by rw [← hAe]; exact Or.inr h
  have hS : va_S A sS.heap sS.heap [] := va_S.rf
  have hP : va_P (dC, dI) vwCl [(qm, .inr (4, [.ref qmd, .ref qmt, .int (nI n), .int (bI on), .int lf, .int (nI dn), .int pl, .ref qml, .int (nI k), .ref qmk, .int (nI mz), .ref qmh, .int (nI nh), .int th, .ref qmw])), (qmk, .inl (cyI, 460, .inl M))] sS.heap := hP
  have iwX5 : ∀ w ∈ wsX50, w ∈ wsX5_put := by decide +kernel
  have fk30 := hts (.fieldLink RX5 30 "CodedStoreModel" "made" "[I") (by decide +kernel)
  have fk51 := hts (.fieldLink RX5 51 "CodedStoreModel" "madeSize" "I") (by decide +kernel)
  have hl := lv_entry ([.ref qm, .int v]) (n := 2) (Nat.le_of_ble_eq_true rfl)
  rw [lg_entry_eq]
  generalize (lg_sl ([.ref qm, .int v]) ++ List.replicate (2 - (lg_sl ([.ref qm, .int v])).length) Slot.unset).toArray = ls at hl ⊢
  have hl : lv_has ls 2 [(0, .ref qm), (1, .int v)] := hl
  refine lv_aload_n hx hb dX5_put_0 rfl (lv_at hl 0 rfl) ?_
  refine va_get (D := (dC, dI)) (ci := 4) (v := .ref qmk) (C := RX5) (T := TX5) (N := 15) hx hb hts iwX5 hown hK hP 0 rfl rfl 9 (by decide) fk30 (fun _ h9 => h9) rfl dX5_put_1 ?_
  refine lv_aload_n hx hb dX5_put_4 rfl (lv_at hl 0 rfl) ?_
  refine va_get (D := (dC, dI)) (ci := 4) (v := .int (nI mz)) (C := RX5) (T := TX5) (N := 15) hx hb hts iwX5 hown hK hP 0 rfl rfl 10 (by decide) fk51 (fun _ h9 => h9) rfl dX5_put_5 ?_
  refine lv_iload_n hx hb dX5_put_8 rfl (lv_at hl 1 rfl) ?_
  refine va_iast hx hb hK hP hD hS 1 0 rfl rfl (vp_in_nI (n := mz) (by omega) (by decide)) dX5_put_9 (fun H locs hP hD hS => ?_)
  rw [nI_clamp (n := mz) (by omega)] at hP hD
  have hP : va_P (dC, dI) vwCl [(qm, .inr (4, [.ref qmd, .ref qmt, .int (nI n), .int (bI on), .int lf, .int (nI dn), .int pl, .ref qml, .int (nI k), .ref qmk, .int (nI mz), .ref qmh, .int (nI nh), .int th, .ref qmw])), (qmk, .inl (cyI, 460, .inl (upd M mz v)))] H := hP
  have hD : va_D A [(qm, .inr (4, [.ref qmd, .ref qmt, .int (nI n), .int (bI on), .int lf, .int (nI dn), .int pl, .ref qml, .int (nI k), .ref qmk, .int (nI mz), .ref qmh, .int (nI nh), .int th, .ref qmw])), (qmk, .inl (cyI, 460, .inl (upd M mz v)))] := hD
  refine lv_aload_n hx hb dX5_put_10 rfl (lv_at hl 0 rfl) ?_
  refine lv_dup hx hb dX5_put_11 rfl ?_
  refine va_get (D := (dC, dI)) (ci := 4) (v := .int (nI mz)) (C := RX5) (T := TX5) (N := 15) hx hb hts iwX5 hown hK hP 0 rfl rfl 10 (by decide) fk51 (fun _ h9 => h9) rfl dX5_put_12 ?_
  refine lv_iconst (v := nI 1) hx hb dX5_put_15 (by decide) ?_
  refine lv_iadd hx hb dX5_put_16 ?_
  refine zz_top (nI_add mz 1) ?_
  refine va_put (D := (dC, dI)) (ci := 4) (v := .int (nI (mz + 1))) (ty := .int) (C := RX5) (T := TX5) (N := 15) hx hb hts iwX5 tyX5 tyX5_ok nmX5 hown hK hP hD hS 0 rfl rfl 10 (by decide) fk51 (fun _ h9 => h9) rfl (by decide +kernel) rfl rfl (Nat.le_of_ble_eq_true rfl) dX5_put_17 (fun H locs hP hD hS => ?_)
  have hP : va_P (dC, dI) vwCl [(qm, .inr (4, [.ref qmd, .ref qmt, .int (nI n), .int (bI on), .int lf, .int (nI dn), .int pl, .ref qml, .int (nI k), .ref qmk, .int (nI (mz + 1)), .ref qmh, .int (nI nh), .int th, .ref qmw])), (qmk, .inl (cyI, 460, .inl (upd M mz v)))] H := hP
  have hD : va_D A [(qm, .inr (4, [.ref qmd, .ref qmt, .int (nI n), .int (bI on), .int lf, .int (nI dn), .int pl, .ref qml, .int (nI k), .ref qmk, .int (nI (mz + 1)), .ref qmh, .int (nI nh), .int th, .ref qmw])), (qmk, .inl (cyI, 460, .inl (upd M mz v)))] := hD
  have hP9 := hP.sub (ws' := [(qm, .inr (4, [.ref qmd, .ref qmt, .int (nI n), .int (bI on), .int lf, .int (nI dn), .int pl, .ref qml, .int (nI k), .ref qmk, .int (nI (mz + 1)), .ref qmh, .int (nI nh), .int th, .ref qmw])), (qmk, .inl (cyI, 460, .inl (upd M mz v)))]) [0, 1] rfl
  have hD9 := hD.sub (ws' := [(qm, .inr (4, [.ref qmd, .ref qmt, .int (nI n), .int (bI on), .int lf, .int (nI dn), .int pl, .ref qml, .int (nI k), .ref qmk, .int (nI (mz + 1)), .ref qmh, .int (nI nh), .int th, .ref qmw])), (qmk, .inl (cyI, 460, .inl (upd M mz v)))]) [0, 1] (by decide) rfl
  have hK9 := hK.sub (tys' := [(cyI, .int), (cyZ, .boolean)]) [0, 1] rfl
  exact W.vret hx hb hr (fun tS ht hW => ⟨⟨(), rfl, trivial, by rw [ht]; exact hP9, va_K.moved hW.alike hK9, hD9⟩, hS.F ht⟩) hS.2.2 dX5_put_20
set_option maxHeartbeats 4000000 in
set_option maxRecDepth 100000 in
theorem c_X5_wrong (l : Launch) (dC : Nat → ClassId) (dI : Nat → Nat → Nat) (cyI cyZ : ClassId) (qm qmd qmt qml qmk qmh qmw : Nat) (sz : Nat) (n : Nat) (on : Bool) (lf : Int32) (dn : Nat) (pl : Int32) (k mz nh : Nat) (th : Int32) (v : Int32)  : Met l yX5_wrong wsX5_wrong ({ frames := 0, cells := 0, slots := 0, locals := 0 }) (va_Pc [.ref qm, .int v] (fun U => U.heap.size = sz ∧ va_P (dC, dI) vwCl [(qm, .inr (4, [.ref qmd, .ref qmt, .int (nI n), .int (bI on), .int lf, .int (nI dn), .int pl, .ref qml, .int (nI k), .ref qmk, .int (nI mz), .ref qmh, .int (nI nh), .int th, .ref qmw]))] U.heap ∧ va_K (dC, dI) vwCl [(cyI, .int), (cyZ, .boolean)] U ∧ va_D (fun _ => True) [(qm, .inr (4, [.ref qmd, .ref qmt, .int (nI n), .int (bI on), .int lf, .int (nI dn), .int pl, .ref qml, .int (nI k), .ref qmk, .int (nI mz), .ref qmh, .int (nI nh), .int th, .ref qmw]))])) (va_Qi (S := Unit) (fun (r : Int32) (_ : Unit) => r = bI false) (fun (_ : Unit) tS => va_P (dC, dI) vwCl [(qm, .inr (4, [.ref qmd, .ref qmt, .int (nI n), .int (bI on), .int lf, .int (nI dn), .int v, .ref qml, .int (nI k), .ref qmk, .int (nI mz), .ref qmh, .int (nI nh), .int th, .ref qmw]))] tS.heap ∧ va_K (dC, dI) vwCl [(cyI, .int), (cyZ, .boolean)] tS ∧ va_D (va_A [(qm, .inr (4, [.ref qmd, .ref qmt, .int (nI n), .int (bI on), .int lf, .int (nI dn), .int pl, .ref qml, .int (nI k), .ref qmk, .int (nI mz), .ref qmh, .int (nI nh), .int th, .ref qmw]))] sz) [(qm, .inr (4, [.ref qmd, .ref qmt, .int (nI n), .int (bI on), .int lf, .int (nI dn), .int v, .ref qml, .int (nI k), .ref qmk, .int (nI mz), .ref qmh, .int (nI nh), .int th, .ref qmw]))]) (va_A [(qm, .inr (4, [.ref qmd, .ref qmt, .int (nI n), .int (bI on), .int lf, .int (nI dn), .int pl, .ref qml, .int (nI k), .ref qmk, .int (nI mz), .ref qmh, .int (nI nh), .int th, .ref qmw]))] sz)) 0 0 (va_A [(qm, .inr (4, [.ref qmd, .ref qmt, .int (nI n), .int (bI on), .int lf, .int (nI dn), .int pl, .ref qml, .int (nI k), .ref qmk, .int (nI mz), .ref qmh, .int (nI nh), .int th, .ref qmw]))] sz) := by
  refine Met.ofW (cc := cX5_wrong) (maxL := 2) (ret := (some .boolean)) (by decide) rfl ?_
  intro pz ez sS mM args below meth cC s₁ B hml hv
  obtain ⟨rfl, hsz, hP, hK, hD0⟩ := hv
  have hx := B.exec
  have hb := B.bytes
  have hr := B.returns
  have hts := atoms_spec (ws := wsX5_wrong) B.pre
  have hown : sS.vm.findClass RX5 = some mM.cls := findClass_of_methodNamed B.named
  have hlocks := B.notSynchronized
  subst hsz
  have hD := hD0.self (sz := sS.heap.size)
  generalize hAe : va_A [(qm, .inr (4, [.ref qmd, .ref qmt, .int (nI n), .int (bI on), .int lf, .int (nI dn), .int pl, .ref qml, .int (nI k), .ref qmk, .int (nI mz), .ref qmh, .int (nI nh), .int th, .ref qmw]))] sS.heap.size = A at hD ⊢
  have hA : ∀ q : Nat, sS.heap.size ≤ q → A q := fun q h => by rw [← hAe]; exact Or.inr h
  have hS : va_S A sS.heap sS.heap [] := va_S.rf
  have hP : va_P (dC, dI) vwCl [(qm, .inr (4, [.ref qmd, .ref qmt, .int (nI n), .int (bI on), .int lf, .int (nI dn), .int pl, .ref qml, .int (nI k), .ref qmk, .int (nI mz), .ref qmh, .int (nI nh), .int th, .ref qmw]))] sS.heap := hP
  have iwX5 : ∀ w ∈ wsX50, w ∈ wsX5_wrong := by decide +kernel
  have fk24 := hts (.fieldLink RX5 24 "CodedStoreModel" "place" "I") (by decide +kernel)
  have hl := lv_entry ([.ref qm, .int v]) (n := 2) (Nat.le_of_ble_eq_true rfl)
  rw [lg_entry_eq]
  generalize (lg_sl ([.ref qm, .int v]) ++ List.replicate (2 - (lg_sl ([.ref qm, .int v])).length) Slot.unset).toArray = ls at hl ⊢
  have hl : lv_has ls 2 [(0, .ref qm), (1, .int v)] := hl
  refine lv_aload_n hx hb dX5_wrong_0 rfl (lv_at hl 0 rfl) ?_
  refine lv_iload_n hx hb dX5_wrong_1 rfl (lv_at hl 1 rfl) ?_
  refine va_put (D := (dC, dI)) (ci := 4) (v := .int v) (ty := .int) (C := RX5) (T := TX5) (N := 15) hx hb hts iwX5 tyX5 tyX5_ok nmX5 hown hK hP hD hS 0 rfl rfl 6 (by decide) fk24 (fun _ h9 => h9) rfl (by decide +kernel) rfl rfl (Nat.le_of_ble_eq_true rfl) dX5_wrong_2 (fun H locs hP hD hS => ?_)
  have hP : va_P (dC, dI) vwCl [(qm, .inr (4, [.ref qmd, .ref qmt, .int (nI n), .int (bI on), .int lf, .int (nI dn), .int v, .ref qml, .int (nI k), .ref qmk, .int (nI mz), .ref qmh, .int (nI nh), .int th, .ref qmw]))] H := hP
  have hD : va_D A [(qm, .inr (4, [.ref qmd, .ref qmt, .int (nI n), .int (bI on), .int lf, .int (nI dn), .int v, .ref qml, .int (nI k), .ref qmk, .int (nI mz), .ref qmh, .int (nI nh), .int th, .ref qmw]))] := hD
  refine lv_iconst (v := nI 0) hx hb dX5_wrong_5 (by decide) ?_
  have hP9 := hP.sub (ws' := [(qm, .inr (4, [.ref qmd, .ref qmt, .int (nI n), .int (bI on), .int lf, .int (nI dn), .int v, .ref qml, .int (nI k), .ref qmk, .int (nI mz), .ref qmh, .int (nI nh), .int th, .ref qmw]))]) [0] rfl
  have hD9 := hD.sub (ws' := [(qm, .inr (4, [.ref qmd, .ref qmt, .int (nI n), .int (bI on), .int lf, .int (nI dn), .int v, .ref qml, .int (nI k), .ref qmk, .int (nI mz), .ref qmh, .int (nI nh), .int th, .ref qmw]))]) [0] (by decide) rfl
  have hK9 := hK.sub (tys' := [(cyI, .int), (cyZ, .boolean)]) [0, 1] rfl
  have hret : (nI 0 : Int32) = bI false := rfl
  refine zz_top hret ?_
  exact W.zret hx hb hr (zz_narZ (by first | exact zz_zb _ | exact zz_z0 | exact zz_z1)) (fun tS ht hW => ⟨⟨_, (), rfl, rfl, by rw [ht]; exact hP9, va_K.moved hW.alike hK9, hD9⟩, hS.F ht⟩) hS.2.2 dX5_wrong_6
set_option maxHeartbeats 4000000 in
set_option maxRecDepth 100000 in
theorem c_X5_load0 (l : Launch) (dC : Nat → ClassId) (dI : Nat → Nat → Nat) (cyI cyZ : ClassId) (qm qml qmk qmd qmt qmh qmw : Nat) (sz : Nat) (n : Nat) (on : Bool) (lf : Int32) (dn : Nat) (pl : Int32) (k mz nh : Nat) (th : Int32) (P : Nat → Int32) (M : Nat → Int32) (hmz : mz ≤ 450) : Met l yX5_load0 wsX5_load0 ({ frames := 0, cells := 0, slots := 0, locals := 0 }) (va_Pc [.ref qm] (fun U => U.heap.size = sz ∧ va_P (dC, dI) vwCl [(qm, .inr (4, [.ref qmd, .ref qmt, .int (nI n), .int (bI on), .int lf, .int (nI dn), .int pl, .ref qml, .int (nI k), .ref qmk, .int (nI mz), .ref qmh, .int (nI nh), .int th, .ref qmw])), (qml, .inl (cyI, 460, .inl P)), (qmk, .inl (cyI, 460, .inl M))] U.heap ∧ va_K (dC, dI) vwCl [(cyI, .int), (cyZ, .boolean)] U ∧ va_D (fun _ => True) [(qm, .inr (4, [.ref qmd, .ref qmt, .int (nI n), .int (bI on), .int lf, .int (nI dn), .int pl, .ref qml, .int (nI k), .ref qmk, .int (nI mz), .ref qmh, .int (nI nh), .int th, .ref qmw])), (qml, .inl (cyI, 460, .inl P)), (qmk, .inl (cyI, 460, .inl M))])) (va_Qv (S := (Nat → Int32)) (fun (P1 : (Nat → Int32)) => (∀ j, j < mz → P1 j = M j)) (fun (P1 : (Nat → Int32)) tS => va_P (dC, dI) vwCl [(qm, .inr (4, [.ref qmd, .ref qmt, .int (nI n), .int (bI on), .int lf, .int (nI dn), .int pl, .ref qml, .int (nI mz), .ref qmk, .int (nI mz), .ref qmh, .int (nI nh), .int th, .ref qmw])), (qml, .inl (cyI, 460, .inl P1)), (qmk, .inl (cyI, 460, .inl M))] tS.heap ∧ va_K (dC, dI) vwCl [(cyI, .int), (cyZ, .boolean)] tS ∧ va_D (va_A [(qm, .inr (4, [.ref qmd, .ref qmt, .int (nI n), .int (bI on), .int lf, .int (nI dn), .int pl, .ref qml, .int (nI k), .ref qmk, .int (nI mz), .ref qmh, .int (nI nh), .int th, .ref qmw])), (qml, .inl (cyI, 460, .inl P)), (qmk, .inl (cyI, 460, .inl M))] sz) [(qm, .inr (4, [.ref qmd, .ref qmt, .int (nI n), .int (bI on), .int lf, .int (nI dn), .int pl, .ref qml, .int (nI mz), .ref qmk, .int (nI mz), .ref qmh, .int (nI nh), .int th, .ref qmw])), (qml, .inl (cyI, 460, .inl P1)), (qmk, .inl (cyI, 460, .inl M))]) (va_A [(qm, .inr (4, [.ref qmd, .ref qmt, .int (nI n), .int (bI on), .int lf, .int (nI dn), .int pl, .ref qml, .int (nI k), .ref qmk, .int (nI mz), .ref qmh, .int (nI nh), .int th, .ref qmw])), (qml, .inl (cyI, 460, .inl P)), (qmk, .inl (cyI, 460, .inl M))] sz)) 0 0 (va_A [(qm, .inr (4, [.ref qmd, .ref qmt, .int (nI n), .int (bI on), .int lf, .int (nI dn), .int pl, .ref qml, .int (nI k), .ref qmk, .int (nI mz), .ref qmh, .int (nI nh), .int th, .ref qmw])), (qml, .inl (cyI, 460, .inl P)), (qmk, .inl (cyI, 460, .inl M))] sz) := by
  refine Met.ofW (cc := cX5_load0) (maxL := 2) (ret := none) (by decide) rfl ?_
  intro pz ez sS mM args below meth cC s₁ B hml hv
  obtain ⟨rfl, hsz, hP, hK, hD0⟩ := hv
  have hx := B.exec
  have hb := B.bytes
  have hr := B.returns
  have hts := atoms_spec (ws := wsX5_load0) B.pre
  have hown : sS.vm.findClass RX5 = some mM.cls := findClass_of_methodNamed B.named
  have hlocks := B.notSynchronized
  subst hsz
  have hD := hD0.self (sz := sS.heap.size)
  generalize hAe : va_A [(qm, .inr (4, [.ref qmd, .ref qmt, .int (nI n), .int (bI on), .int lf, .int (nI dn), .int pl, .ref qml, .int (nI k), .ref qmk, .int (nI mz), .ref qmh, .int (nI nh), .int th, .ref qmw])), (qml, .inl (cyI, 460, .inl P)), (qmk, .inl (cyI, 460, .inl M))] sS.heap.size = A at hD ⊢
  have hA : ∀ q : Nat, sS.heap.size ≤ q → A q := fun q h => by rw [← hAe]; exact Or.inr h
  have hS : va_S A sS.heap sS.heap [] := va_S.rf
  have hP : va_P (dC, dI) vwCl [(qm, .inr (4, [.ref qmd, .ref qmt, .int (nI n), .int (bI on), .int lf, .int (nI dn), .int pl, .ref qml, .int (nI k), .ref qmk, .int (nI mz), .ref qmh, .int (nI nh), .int th, .ref qmw])), (qml, .inl (cyI, 460, .inl P)), (qmk, .inl (cyI, 460, .inl M))] sS.heap := hP
  have iwX5 : ∀ w ∈ wsX50, w ∈ wsX5_load0 := by decide +kernel
  have fk27 := hts (.fieldLink RX5 27 "CodedStoreModel" "loaded" "[I") (by decide +kernel)
  have fk30 := hts (.fieldLink RX5 30 "CodedStoreModel" "made" "[I") (by decide +kernel)
  have fk51 := hts (.fieldLink RX5 51 "CodedStoreModel" "madeSize" "I") (by decide +kernel)
  have fk66 := hts (.fieldLink RX5 66 "CodedStoreModel" "loadedSize" "I") (by decide +kernel)
  have hl := lv_entry ([.ref qm]) (n := 2) (Nat.le_of_ble_eq_true rfl)
  rw [lg_entry_eq]
  generalize (lg_sl ([.ref qm]) ++ List.replicate (2 - (lg_sl ([.ref qm])).length) Slot.unset).toArray = ls at hl ⊢
  have hl : lv_has ls 2 [(0, .ref qm)] := hl
  refine lv_aload_n hx hb dX5_load0_0 rfl (lv_at hl 0 rfl) ?_
  refine lv_aload_n hx hb dX5_load0_1 rfl (lv_at hl 0 rfl) ?_
  refine va_get (D := (dC, dI)) (ci := 4) (v := .int (nI mz)) (C := RX5) (T := TX5) (N := 15) hx hb hts iwX5 hown hK hP 0 rfl rfl 10 (by decide) fk51 (fun _ h9 => h9) rfl dX5_load0_2 ?_
  refine va_put (D := (dC, dI)) (ci := 4) (v := .int (nI mz)) (ty := .int) (C := RX5) (T := TX5) (N := 15) hx hb hts iwX5 tyX5 tyX5_ok nmX5 hown hK hP hD hS 0 rfl rfl 8 (by decide) fk66 (fun _ h9 => h9) rfl (by decide +kernel) rfl rfl (Nat.le_of_ble_eq_true rfl) dX5_load0_5 (fun H locs hP hD hS => ?_)
  have hP : va_P (dC, dI) vwCl [(qm, .inr (4, [.ref qmd, .ref qmt, .int (nI n), .int (bI on), .int lf, .int (nI dn), .int pl, .ref qml, .int (nI mz), .ref qmk, .int (nI mz), .ref qmh, .int (nI nh), .int th, .ref qmw])), (qml, .inl (cyI, 460, .inl P)), (qmk, .inl (cyI, 460, .inl M))] H := hP
  have hD : va_D A [(qm, .inr (4, [.ref qmd, .ref qmt, .int (nI n), .int (bI on), .int lf, .int (nI dn), .int pl, .ref qml, .int (nI mz), .ref qmk, .int (nI mz), .ref qmh, .int (nI nh), .int th, .ref qmw])), (qml, .inl (cyI, 460, .inl P)), (qmk, .inl (cyI, 460, .inl M))] := hD
  refine lv_iconst (v := nI 0) hx hb dX5_load0_8 (by decide) ?_
  refine lv_istore_n (lv' := [(1, .int (nI 0)), (0, .ref qm)]) hx hb dX5_load0_9 rfl hl (by decide) rfl (fun ls hl => ?_)
  refine zz_loopW (pc := 10) (μ := fun (x : Nat × (Nat → Int32)) => match x with | (i, P1) => mz - i) (Inv := fun (x : Nat × (Nat → Int32)) (H : Heap) (locs : List Loc) (ls : Array Slot) => match x with | (i, P1) => (i ≤ mz) ∧ (∀ j, j < i → P1 j = M j) ∧ va_P (dC, dI) vwCl [(qm, .inr (4, [.ref qmd, .ref qmt, .int (nI n), .int (bI on), .int lf, .int (nI dn), .int pl, .ref qml, .int (nI mz), .ref qmk, .int (nI mz), .ref qmh, .int (nI nh), .int th, .ref qmw])), (qml, .inl (cyI, 460, .inl P1)), (qmk, .inl (cyI, 460, .inl M))] H ∧ va_D A [(qm, .inr (4, [.ref qmd, .ref qmt, .int (nI n), .int (bI on), .int lf, .int (nI dn), .int pl, .ref qml, .int (nI mz), .ref qmk, .int (nI mz), .ref qmh, .int (nI nh), .int th, .ref qmw])), (qml, .inl (cyI, 460, .inl P1)), (qmk, .inl (cyI, 460, .inl M))] ∧ va_S A sS.heap H locs ∧ lv_has ls 2 [(0, .ref qm), (1, .int (nI i))]) (x0 := (0, P)) ⟨by omega, no_lt0, hP, hD, hS, lv_sub hl [1, 0] rfl⟩ ?_
  intro ⟨i, P1⟩ H locs ls hI ih10
  obtain ⟨hi, hP1, hP, hD, hS, hl⟩ := hI
  have hl : lv_has ls 2 [(0, .ref qm), (1, .int (nI i))] := hl
  have hP : va_P (dC, dI) vwCl [(qm, .inr (4, [.ref qmd, .ref qmt, .int (nI n), .int (bI on), .int lf, .int (nI dn), .int pl, .ref qml, .int (nI mz), .ref qmk, .int (nI mz), .ref qmh, .int (nI nh), .int th, .ref qmw])), (qml, .inl (cyI, 460, .inl P1)), (qmk, .inl (cyI, 460, .inl M))] H := hP
  have hD : va_D A [(qm, .inr (4, [.ref qmd, .ref qmt, .int (nI n), .int (bI on), .int lf, .int (nI dn), .int pl, .ref qml, .int (nI mz), .ref qmk, .int (nI mz), .ref qmh, .int (nI nh), .int th, .ref qmw])), (qml, .inl (cyI, 460, .inl P1)), (qmk, .inl (cyI, 460, .inl M))] := hD
  have hi : i ≤ mz := hi
  have hP1 : ∀ j, j < i → P1 j = M j := hP1
  refine lv_iload_n hx hb dX5_load0_10 rfl (lv_at hl 1 rfl) ?_
  refine lv_aload_n hx hb dX5_load0_11 rfl (lv_at hl 0 rfl) ?_
  refine va_get (D := (dC, dI)) (ci := 4) (v := .int (nI mz)) (C := RX5) (T := TX5) (N := 15) hx hb hts iwX5 hown hK hP 0 rfl rfl 10 (by decide) fk51 (fun _ h9 => h9) rfl dX5_load0_12 ?_
  refine zn_icmp_ge (tgt := 36) hx hb dX5_load0_15 (by decide) (by omega) (by omega) (fun c_15 => ?_) (fun c_15 => ?_)
  ·
    have hP9 := hP.sub (ws' := [(qm, .inr (4, [.ref qmd, .ref qmt, .int (nI n), .int (bI on), .int lf, .int (nI dn), .int pl, .ref qml, .int (nI mz), .ref qmk, .int (nI mz), .ref qmh, .int (nI nh), .int th, .ref qmw])), (qml, .inl (cyI, 460, .inl P1)), (qmk, .inl (cyI, 460, .inl M))]) [0, 1, 2] rfl
    have hD9 := hD.sub (ws' := [(qm, .inr (4, [.ref qmd, .ref qmt, .int (nI n), .int (bI on), .int lf, .int (nI dn), .int pl, .ref qml, .int (nI mz), .ref qmk, .int (nI mz), .ref qmh, .int (nI nh), .int th, .ref qmw])), (qml, .inl (cyI, 460, .inl P1)), (qmk, .inl (cyI, 460, .inl M))]) [0, 1, 2] (by decide) rfl
    have hK9 := hK.sub (tys' := [(cyI, .int), (cyZ, .boolean)]) [0, 1] rfl
    exact W.vret hx hb hr (fun tS ht hW => ⟨⟨P1, rfl, fun j hj => hP1 j (by omega), by rw [ht]; exact hP9, va_K.moved hW.alike hK9, hD9⟩, hS.F ht⟩) hS.2.2 dX5_load0_36
  ·
    refine lv_aload_n hx hb dX5_load0_18 rfl (lv_at hl 0 rfl) ?_
    refine va_get (D := (dC, dI)) (ci := 4) (v := .ref qml) (C := RX5) (T := TX5) (N := 15) hx hb hts iwX5 hown hK hP 0 rfl rfl 7 (by decide) fk27 (fun _ h9 => h9) rfl dX5_load0_19 ?_
    refine lv_iload_n hx hb dX5_load0_22 rfl (lv_at hl 1 rfl) ?_
    refine lv_aload_n hx hb dX5_load0_23 rfl (lv_at hl 0 rfl) ?_
    refine va_get (D := (dC, dI)) (ci := 4) (v := .ref qmk) (C := RX5) (T := TX5) (N := 15) hx hb hts iwX5 hown hK hP 0 rfl rfl 9 (by decide) fk30 (fun _ h9 => h9) rfl dX5_load0_24 ?_
    refine lv_iload_n hx hb dX5_load0_27 rfl (lv_at hl 1 rfl) ?_
    refine va_iald hx hb hK hP 2 0 rfl rfl (vp_in_nI (n := i) (by omega) (by decide)) dX5_load0_28 ?_
    refine zz_top (congrArg M (nI_clamp (n := i) (by omega))) ?_
    refine va_iast hx hb hK hP hD hS 1 0 rfl rfl (vp_in_nI (n := i) (by omega) (by decide)) dX5_load0_29 (fun H locs hP hD hS => ?_)
    rw [nI_clamp (n := i) (by omega)] at hP hD
    have hP : va_P (dC, dI) vwCl [(qm, .inr (4, [.ref qmd, .ref qmt, .int (nI n), .int (bI on), .int lf, .int (nI dn), .int pl, .ref qml, .int (nI mz), .ref qmk, .int (nI mz), .ref qmh, .int (nI nh), .int th, .ref qmw])), (qml, .inl (cyI, 460, .inl (upd P1 i (M i)))), (qmk, .inl (cyI, 460, .inl M))] H := hP
    have hD : va_D A [(qm, .inr (4, [.ref qmd, .ref qmt, .int (nI n), .int (bI on), .int lf, .int (nI dn), .int pl, .ref qml, .int (nI mz), .ref qmk, .int (nI mz), .ref qmh, .int (nI nh), .int th, .ref qmw])), (qml, .inl (cyI, 460, .inl (upd P1 i (M i)))), (qmk, .inl (cyI, 460, .inl M))] := hD
    refine lv_iinc (v := nI (i + 1)) (lv' := [(1, .int (nI (i + 1))), (0, .ref qm)]) hx hb dX5_load0_30 hl (k := 1) rfl (nI_add i 1) (by decide) rfl (fun ls hl => ?_)
    refine lv_goto (tgt := 10) hx hb dX5_load0_33 (by decide) ?_
    exact ih10 (i + 1, upd P1 i (M i)) _ _ _ ⟨by omega, arr_step hP1 rfl, hP, hD, hS, lv_sub hl [1, 0] rfl⟩ (by first | omega | (dsimp only; omega))
set_option maxHeartbeats 4000000 in
set_option maxRecDepth 100000 in
theorem c_X5_takeTape (l : Launch) (dC : Nat → ClassId) (dI : Nat → Nat → Nat) (cyI cyZ : ClassId) (qm qmt qmh qmd qml qmk qmw : Nat) (sz : Nat) (n : Nat) (on : Bool) (lf : Int32) (dn : Nat) (pl : Int32) (k mz nh : Nat) (th : Int32) (T : Nat → Int32) (Hd : Nat → Int32) (hn : n ≤ 400) : Met l yX5_takeTape wsX5_takeTape ({ frames := 0, cells := 0, slots := 0, locals := 0 }) (va_Pc [.ref qm] (fun U => U.heap.size = sz ∧ va_P (dC, dI) vwCl [(qm, .inr (4, [.ref qmd, .ref qmt, .int (nI n), .int (bI on), .int lf, .int (nI dn), .int pl, .ref qml, .int (nI k), .ref qmk, .int (nI mz), .ref qmh, .int (nI nh), .int th, .ref qmw])), (qmt, .inl (cyI, 400, .inl T)), (qmh, .inl (cyI, 460, .inl Hd))] U.heap ∧ va_K (dC, dI) vwCl [(cyI, .int), (cyZ, .boolean)] U ∧ va_D (fun _ => True) [(qm, .inr (4, [.ref qmd, .ref qmt, .int (nI n), .int (bI on), .int lf, .int (nI dn), .int pl, .ref qml, .int (nI k), .ref qmk, .int (nI mz), .ref qmh, .int (nI nh), .int th, .ref qmw])), (qmt, .inl (cyI, 400, .inl T)), (qmh, .inl (cyI, 460, .inl Hd))])) (va_Qv (S := (Nat → Int32)) (fun (H1 : (Nat → Int32)) => (∀ j, j < n → H1 j = T j)) (fun (H1 : (Nat → Int32)) tS => va_P (dC, dI) vwCl [(qm, .inr (4, [.ref qmd, .ref qmt, .int (nI 0), .int (bI on), .int lf, .int (nI dn), .int pl, .ref qml, .int (nI k), .ref qmk, .int (nI mz), .ref qmh, .int (nI n), .int th, .ref qmw])), (qmt, .inl (cyI, 400, .inl T)), (qmh, .inl (cyI, 460, .inl H1))] tS.heap ∧ va_K (dC, dI) vwCl [(cyI, .int), (cyZ, .boolean)] tS ∧ va_D (va_A [(qm, .inr (4, [.ref qmd, .ref qmt, .int (nI n), .int (bI on), .int lf, .int (nI dn), .int pl, .ref qml, .int (nI k), .ref qmk, .int (nI mz), .ref qmh, .int (nI nh), .int th, .ref qmw])), (qmt, .inl (cyI, 400, .inl T)), (qmh, .inl (cyI, 460, .inl Hd))] sz) [(qm, .inr (4, [.ref qmd, .ref qmt, .int (nI 0), .int (bI on), .int lf, .int (nI dn), .int pl, .ref qml, .int (nI k), .ref qmk, .int (nI mz), .ref qmh, .int (nI n), .int th, .ref qmw])), (qmt, .inl (cyI, 400, .inl T)), (qmh, .inl (cyI, 460, .inl H1))]) (va_A [(qm, .inr (4, [.ref qmd, .ref qmt, .int (nI n), .int (bI on), .int lf, .int (nI dn), .int pl, .ref qml, .int (nI k), .ref qmk, .int (nI mz), .ref qmh, .int (nI nh), .int th, .ref qmw])), (qmt, .inl (cyI, 400, .inl T)), (qmh, .inl (cyI, 460, .inl Hd))] sz)) 0 0 (va_A [(qm, .inr (4, [.ref qmd, .ref qmt, .int (nI n), .int (bI on), .int lf, .int (nI dn), .int pl, .ref qml, .int (nI k), .ref qmk, .int (nI mz), .ref qmh, .int (nI nh), .int th, .ref qmw])), (qmt, .inl (cyI, 400, .inl T)), (qmh, .inl (cyI, 460, .inl Hd))] sz) := by
  refine Met.ofW (cc := cX5_takeTape) (maxL := 2) (ret := none) (by decide) rfl ?_
  intro pz ez sS mM args below meth cC s₁ B hml hv
  obtain ⟨rfl, hsz, hP, hK, hD0⟩ := hv
  have hx := B.exec
  have hb := B.bytes
  have hr := B.returns
  have hts := atoms_spec (ws := wsX5_takeTape) B.pre
  have hown : sS.vm.findClass RX5 = some mM.cls := findClass_of_methodNamed B.named
  have hlocks := B.notSynchronized
  subst hsz
  have hD := hD0.self (sz := sS.heap.size)
  generalize hAe : va_A [(qm, .inr (4, [.ref qmd, .ref qmt, .int (nI n), .int (bI on), .int lf, .int (nI dn), .int pl, .ref qml, .int (nI k), .ref qmk, .int (nI mz), .ref qmh, .int (nI nh), .int th, .ref qmw])), (qmt, .inl (cyI, 400, .inl T)), (qmh, .inl (cyI, 460, .inl Hd))] sS.heap.size = A at hD ⊢
  have hA : ∀ q : Nat, sS.heap.size ≤ q → A q := fun q h => by rw [← hAe]; exact Or.inr h
  have hS : va_S A sS.heap sS.heap [] := va_S.rf
  have hP : va_P (dC, dI) vwCl [(qm, .inr (4, [.ref qmd, .ref qmt, .int (nI n), .int (bI on), .int lf, .int (nI dn), .int pl, .ref qml, .int (nI k), .ref qmk, .int (nI mz), .ref qmh, .int (nI nh), .int th, .ref qmw])), (qmt, .inl (cyI, 400, .inl T)), (qmh, .inl (cyI, 460, .inl Hd))] sS.heap := hP
  have iwX5 : ∀ w ∈ wsX50, w ∈ wsX5_takeTape := by decide +kernel
  have fk13 := hts (.fieldLink RX5 13 "CodedStoreModel" "tape" "[I") (by decide +kernel)
  have fk33 := hts (.fieldLink RX5 33 "CodedStoreModel" "hand" "[I") (by decide +kernel)
  have fk40 := hts (.fieldLink RX5 40 "CodedStoreModel" "size" "I") (by decide +kernel)
  have fk48 := hts (.fieldLink RX5 48 "CodedStoreModel" "handSize" "I") (by decide +kernel)
  have hl := lv_entry ([.ref qm]) (n := 2) (Nat.le_of_ble_eq_true rfl)
  rw [lg_entry_eq]
  generalize (lg_sl ([.ref qm]) ++ List.replicate (2 - (lg_sl ([.ref qm])).length) Slot.unset).toArray = ls at hl ⊢
  have hl : lv_has ls 2 [(0, .ref qm)] := hl
  refine lv_aload_n hx hb dX5_takeTape_0 rfl (lv_at hl 0 rfl) ?_
  refine lv_aload_n hx hb dX5_takeTape_1 rfl (lv_at hl 0 rfl) ?_
  refine va_get (D := (dC, dI)) (ci := 4) (v := .int (nI n)) (C := RX5) (T := TX5) (N := 15) hx hb hts iwX5 hown hK hP 0 rfl rfl 2 (by decide) fk40 (fun _ h9 => h9) rfl dX5_takeTape_2 ?_
  refine va_put (D := (dC, dI)) (ci := 4) (v := .int (nI n)) (ty := .int) (C := RX5) (T := TX5) (N := 15) hx hb hts iwX5 tyX5 tyX5_ok nmX5 hown hK hP hD hS 0 rfl rfl 12 (by decide) fk48 (fun _ h9 => h9) rfl (by decide +kernel) rfl rfl (Nat.le_of_ble_eq_true rfl) dX5_takeTape_5 (fun H locs hP hD hS => ?_)
  have hP : va_P (dC, dI) vwCl [(qm, .inr (4, [.ref qmd, .ref qmt, .int (nI n), .int (bI on), .int lf, .int (nI dn), .int pl, .ref qml, .int (nI k), .ref qmk, .int (nI mz), .ref qmh, .int (nI n), .int th, .ref qmw])), (qmt, .inl (cyI, 400, .inl T)), (qmh, .inl (cyI, 460, .inl Hd))] H := hP
  have hD : va_D A [(qm, .inr (4, [.ref qmd, .ref qmt, .int (nI n), .int (bI on), .int lf, .int (nI dn), .int pl, .ref qml, .int (nI k), .ref qmk, .int (nI mz), .ref qmh, .int (nI n), .int th, .ref qmw])), (qmt, .inl (cyI, 400, .inl T)), (qmh, .inl (cyI, 460, .inl Hd))] := hD
  refine lv_iconst (v := nI 0) hx hb dX5_takeTape_8 (by decide) ?_
  refine lv_istore_n (lv' := [(1, .int (nI 0)), (0, .ref qm)]) hx hb dX5_takeTape_9 rfl hl (by decide) rfl (fun ls hl => ?_)
  refine zz_loopW (pc := 10) (μ := fun (x : Nat × (Nat → Int32)) => match x with | (i, H1) => n - i) (Inv := fun (x : Nat × (Nat → Int32)) (H : Heap) (locs : List Loc) (ls : Array Slot) => match x with | (i, H1) => (i ≤ n) ∧ (∀ j, j < i → H1 j = T j) ∧ va_P (dC, dI) vwCl [(qm, .inr (4, [.ref qmd, .ref qmt, .int (nI n), .int (bI on), .int lf, .int (nI dn), .int pl, .ref qml, .int (nI k), .ref qmk, .int (nI mz), .ref qmh, .int (nI n), .int th, .ref qmw])), (qmt, .inl (cyI, 400, .inl T)), (qmh, .inl (cyI, 460, .inl H1))] H ∧ va_D A [(qm, .inr (4, [.ref qmd, .ref qmt, .int (nI n), .int (bI on), .int lf, .int (nI dn), .int pl, .ref qml, .int (nI k), .ref qmk, .int (nI mz), .ref qmh, .int (nI n), .int th, .ref qmw])), (qmt, .inl (cyI, 400, .inl T)), (qmh, .inl (cyI, 460, .inl H1))] ∧ va_S A sS.heap H locs ∧ lv_has ls 2 [(0, .ref qm), (1, .int (nI i))]) (x0 := (0, Hd)) ⟨by omega, no_lt0, hP, hD, hS, lv_sub hl [1, 0] rfl⟩ ?_
  intro ⟨i, H1⟩ H locs ls hI ih10
  obtain ⟨hi, hH1, hP, hD, hS, hl⟩ := hI
  have hl : lv_has ls 2 [(0, .ref qm), (1, .int (nI i))] := hl
  have hP : va_P (dC, dI) vwCl [(qm, .inr (4, [.ref qmd, .ref qmt, .int (nI n), .int (bI on), .int lf, .int (nI dn), .int pl, .ref qml, .int (nI k), .ref qmk, .int (nI mz), .ref qmh, .int (nI n), .int th, .ref qmw])), (qmt, .inl (cyI, 400, .inl T)), (qmh, .inl (cyI, 460, .inl H1))] H := hP
  have hD : va_D A [(qm, .inr (4, [.ref qmd, .ref qmt, .int (nI n), .int (bI on), .int lf, .int (nI dn), .int pl, .ref qml, .int (nI k), .ref qmk, .int (nI mz), .ref qmh, .int (nI n), .int th, .ref qmw])), (qmt, .inl (cyI, 400, .inl T)), (qmh, .inl (cyI, 460, .inl H1))] := hD
  have hi : i ≤ n := hi
  have hH1 : ∀ j, j < i → H1 j = T j := hH1
  refine lv_iload_n hx hb dX5_takeTape_10 rfl (lv_at hl 1 rfl) ?_
  refine lv_aload_n hx hb dX5_takeTape_11 rfl (lv_at hl 0 rfl) ?_
  refine va_get (D := (dC, dI)) (ci := 4) (v := .int (nI n)) (C := RX5) (T := TX5) (N := 15) hx hb hts iwX5 hown hK hP 0 rfl rfl 2 (by decide) fk40 (fun _ h9 => h9) rfl dX5_takeTape_12 ?_
  refine zn_icmp_ge (tgt := 36) hx hb dX5_takeTape_15 (by decide) (by omega) (by omega) (fun c_15 => ?_) (fun c_15 => ?_)
  ·
    refine lv_aload_n hx hb dX5_takeTape_36 rfl (lv_at hl 0 rfl) ?_
    refine lv_iconst (v := nI 0) hx hb dX5_takeTape_37 (by decide) ?_
    refine va_put (D := (dC, dI)) (ci := 4) (v := .int (nI 0)) (ty := .int) (C := RX5) (T := TX5) (N := 15) hx hb hts iwX5 tyX5 tyX5_ok nmX5 hown hK hP hD hS 0 rfl rfl 2 (by decide) fk40 (fun _ h9 => h9) rfl (by decide +kernel) rfl rfl (Nat.le_of_ble_eq_true rfl) dX5_takeTape_38 (fun H locs hP hD hS => ?_)
    have hP : va_P (dC, dI) vwCl [(qm, .inr (4, [.ref qmd, .ref qmt, .int (nI 0), .int (bI on), .int lf, .int (nI dn), .int pl, .ref qml, .int (nI k), .ref qmk, .int (nI mz), .ref qmh, .int (nI n), .int th, .ref qmw])), (qmt, .inl (cyI, 400, .inl T)), (qmh, .inl (cyI, 460, .inl H1))] H := hP
    have hD : va_D A [(qm, .inr (4, [.ref qmd, .ref qmt, .int (nI 0), .int (bI on), .int lf, .int (nI dn), .int pl, .ref qml, .int (nI k), .ref qmk, .int (nI mz), .ref qmh, .int (nI n), .int th, .ref qmw])), (qmt, .inl (cyI, 400, .inl T)), (qmh, .inl (cyI, 460, .inl H1))] := hD
    have hP9 := hP.sub (ws' := [(qm, .inr (4, [.ref qmd, .ref qmt, .int (nI 0), .int (bI on), .int lf, .int (nI dn), .int pl, .ref qml, .int (nI k), .ref qmk, .int (nI mz), .ref qmh, .int (nI n), .int th, .ref qmw])), (qmt, .inl (cyI, 400, .inl T)), (qmh, .inl (cyI, 460, .inl H1))]) [0, 1, 2] rfl
    have hD9 := hD.sub (ws' := [(qm, .inr (4, [.ref qmd, .ref qmt, .int (nI 0), .int (bI on), .int lf, .int (nI dn), .int pl, .ref qml, .int (nI k), .ref qmk, .int (nI mz), .ref qmh, .int (nI n), .int th, .ref qmw])), (qmt, .inl (cyI, 400, .inl T)), (qmh, .inl (cyI, 460, .inl H1))]) [0, 1, 2] (by decide) rfl
    have hK9 := hK.sub (tys' := [(cyI, .int), (cyZ, .boolean)]) [0, 1] rfl
    exact W.vret hx hb hr (fun tS ht hW => ⟨⟨H1, rfl, fun j hj => hH1 j (by omega), by rw [ht]; exact hP9, va_K.moved hW.alike hK9, hD9⟩, hS.F ht⟩) hS.2.2 dX5_takeTape_41
  ·
    refine lv_aload_n hx hb dX5_takeTape_18 rfl (lv_at hl 0 rfl) ?_
    refine va_get (D := (dC, dI)) (ci := 4) (v := .ref qmh) (C := RX5) (T := TX5) (N := 15) hx hb hts iwX5 hown hK hP 0 rfl rfl 11 (by decide) fk33 (fun _ h9 => h9) rfl dX5_takeTape_19 ?_
    refine lv_iload_n hx hb dX5_takeTape_22 rfl (lv_at hl 1 rfl) ?_
    refine lv_aload_n hx hb dX5_takeTape_23 rfl (lv_at hl 0 rfl) ?_
    refine va_get (D := (dC, dI)) (ci := 4) (v := .ref qmt) (C := RX5) (T := TX5) (N := 15) hx hb hts iwX5 hown hK hP 0 rfl rfl 1 (by decide) fk13 (fun _ h9 => h9) rfl dX5_takeTape_24 ?_
    refine lv_iload_n hx hb dX5_takeTape_27 rfl (lv_at hl 1 rfl) ?_
    refine va_iald hx hb hK hP 1 0 rfl rfl (vp_in_nI (n := i) (by omega) (by decide)) dX5_takeTape_28 ?_
    refine zz_top (congrArg T (nI_clamp (n := i) (by omega))) ?_
    refine va_iast hx hb hK hP hD hS 2 0 rfl rfl (vp_in_nI (n := i) (by omega) (by decide)) dX5_takeTape_29 (fun H locs hP hD hS => ?_)
    rw [nI_clamp (n := i) (by omega)] at hP hD
    have hP : va_P (dC, dI) vwCl [(qm, .inr (4, [.ref qmd, .ref qmt, .int (nI n), .int (bI on), .int lf, .int (nI dn), .int pl, .ref qml, .int (nI k), .ref qmk, .int (nI mz), .ref qmh, .int (nI n), .int th, .ref qmw])), (qmt, .inl (cyI, 400, .inl T)), (qmh, .inl (cyI, 460, .inl (upd H1 i (T i))))] H := hP
    have hD : va_D A [(qm, .inr (4, [.ref qmd, .ref qmt, .int (nI n), .int (bI on), .int lf, .int (nI dn), .int pl, .ref qml, .int (nI k), .ref qmk, .int (nI mz), .ref qmh, .int (nI n), .int th, .ref qmw])), (qmt, .inl (cyI, 400, .inl T)), (qmh, .inl (cyI, 460, .inl (upd H1 i (T i))))] := hD
    refine lv_iinc (v := nI (i + 1)) (lv' := [(1, .int (nI (i + 1))), (0, .ref qm)]) hx hb dX5_takeTape_30 hl (k := 1) rfl (nI_add i 1) (by decide) rfl (fun ls hl => ?_)
    refine lv_goto (tgt := 10) hx hb dX5_takeTape_33 (by decide) ?_
    exact ih10 (i + 1, upd H1 i (T i)) _ _ _ ⟨by omega, arr_step hH1 rfl, hP, hD, hS, lv_sub hl [1, 0] rfl⟩ (by first | omega | (dsimp only; omega))
set_option maxHeartbeats 4000000 in
set_option maxRecDepth 100000 in
theorem c_X5_code (l : Launch) (dC : Nat → ClassId) (dI : Nat → Nat → Nat) (cyI cyZ : ClassId) (qm qmk qmh qmd qmt qml qmw : Nat) (sz : Nat) (n : Nat) (on : Bool) (lf : Int32) (dn : Nat) (pl : Int32) (k mz nh : Nat) (th : Int32) (M : Nat → Int32) (Hd : Nat → Int32) (hn : nh ≤ 400) : Met l yX5_code wsX5_code ({ frames := 1, cells := 0, slots := 0, locals := 23 }) (va_Pc [.ref qm] (fun U => U.heap.size = sz ∧ va_P (dC, dI) vwCl [(qm, .inr (4, [.ref qmd, .ref qmt, .int (nI n), .int (bI on), .int lf, .int (nI dn), .int pl, .ref qml, .int (nI k), .ref qmk, .int (nI mz), .ref qmh, .int (nI nh), .int th, .ref qmw])), (qmk, .inl (cyI, 460, .inl M)), (qmh, .inl (cyI, 460, .inl Hd))] U.heap ∧ va_K (dC, dI) vwCl [(cyI, .int), (cyZ, .boolean)] U ∧ va_D (fun _ => True) [(qm, .inr (4, [.ref qmd, .ref qmt, .int (nI n), .int (bI on), .int lf, .int (nI dn), .int pl, .ref qml, .int (nI k), .ref qmk, .int (nI mz), .ref qmh, .int (nI nh), .int th, .ref qmw])), (qmk, .inl (cyI, 460, .inl M)), (qmh, .inl (cyI, 460, .inl Hd))])) (va_Qv (S := Nat × (Nat → Int32)) (fun (uU : Nat × (Nat → Int32)) => match uU with | (m1, M1) => (m1 = (zE Hd nh).1) ∧ (∀ j, j < m1 → M1 j = (zE Hd nh).2 j) ∧ (m1 ≤ 450)) (fun (uU : Nat × (Nat → Int32)) tS => match uU with | (m1, M1) => va_P (dC, dI) vwCl [(qm, .inr (4, [.ref qmd, .ref qmt, .int (nI n), .int (bI on), .int lf, .int (nI dn), .int pl, .ref qml, .int (nI k), .ref qmk, .int (nI m1), .ref qmh, .int (nI nh), .int th, .ref qmw])), (qmk, .inl (cyI, 460, .inl M1)), (qmh, .inl (cyI, 460, .inl Hd))] tS.heap ∧ va_K (dC, dI) vwCl [(cyI, .int), (cyZ, .boolean)] tS ∧ va_D (va_A [(qm, .inr (4, [.ref qmd, .ref qmt, .int (nI n), .int (bI on), .int lf, .int (nI dn), .int pl, .ref qml, .int (nI k), .ref qmk, .int (nI mz), .ref qmh, .int (nI nh), .int th, .ref qmw])), (qmk, .inl (cyI, 460, .inl M)), (qmh, .inl (cyI, 460, .inl Hd))] sz) [(qm, .inr (4, [.ref qmd, .ref qmt, .int (nI n), .int (bI on), .int lf, .int (nI dn), .int pl, .ref qml, .int (nI k), .ref qmk, .int (nI m1), .ref qmh, .int (nI nh), .int th, .ref qmw])), (qmk, .inl (cyI, 460, .inl M1)), (qmh, .inl (cyI, 460, .inl Hd))]) (va_A [(qm, .inr (4, [.ref qmd, .ref qmt, .int (nI n), .int (bI on), .int lf, .int (nI dn), .int pl, .ref qml, .int (nI k), .ref qmk, .int (nI mz), .ref qmh, .int (nI nh), .int th, .ref qmw])), (qmk, .inl (cyI, 460, .inl M)), (qmh, .inl (cyI, 460, .inl Hd))] sz)) 0 0 (va_A [(qm, .inr (4, [.ref qmd, .ref qmt, .int (nI n), .int (bI on), .int lf, .int (nI dn), .int pl, .ref qml, .int (nI k), .ref qmk, .int (nI mz), .ref qmh, .int (nI nh), .int th, .ref qmw])), (qmk, .inl (cyI, 460, .inl M)), (qmh, .inl (cyI, 460, .inl Hd))] sz) := by
  refine Met.ofW (cc := cX5_code) (maxL := 8) (ret := none) (by decide) rfl ?_
  intro pz ez sS mM args below meth cC s₁ B hml hv
  obtain ⟨rfl, hsz, hP, hK, hD0⟩ := hv
  have hx := B.exec
  have hb := B.bytes
  have hr := B.returns
  have hts := atoms_spec (ws := wsX5_code) B.pre
  have hown : sS.vm.findClass RX5 = some mM.cls := findClass_of_methodNamed B.named
  have hlocks := B.notSynchronized
  subst hsz
  have hD := hD0.self (sz := sS.heap.size)
  generalize hAe : va_A [(qm, .inr (4, [.ref qmd, .ref qmt, .int (nI n), .int (bI on), .int lf, .int (nI dn), .int pl, .ref qml, .int (nI k), .ref qmk, .int (nI mz), .ref qmh, .int (nI nh), .int th, .ref qmw])), (qmk, .inl (cyI, 460, .inl M)), (qmh, .inl (cyI, 460, .inl Hd))] sS.heap.size = A at hD ⊢
  have hA : ∀ q : Nat, sS.heap.size ≤ q → A q := fun q h => by rw [← hAe]; exact Or.inr h
  have hS : va_S A sS.heap sS.heap [] := va_S.rf
  have hP : va_P (dC, dI) vwCl [(qm, .inr (4, [.ref qmd, .ref qmt, .int (nI n), .int (bI on), .int lf, .int (nI dn), .int pl, .ref qml, .int (nI k), .ref qmk, .int (nI mz), .ref qmh, .int (nI nh), .int th, .ref qmw])), (qmk, .inl (cyI, 460, .inl M)), (qmh, .inl (cyI, 460, .inl Hd))] sS.heap := hP
  have iwX5 : ∀ w ∈ wsX50, w ∈ wsX5_code := by decide +kernel
  have fk30 := hts (.fieldLink RX5 30 "CodedStoreModel" "made" "[I") (by decide +kernel)
  have fk33 := hts (.fieldLink RX5 33 "CodedStoreModel" "hand" "[I") (by decide +kernel)
  have fk48 := hts (.fieldLink RX5 48 "CodedStoreModel" "handSize" "I") (by decide +kernel)
  have fk51 := hts (.fieldLink RX5 51 "CodedStoreModel" "madeSize" "I") (by decide +kernel)
  have hl := lv_entry ([.ref qm]) (n := 8) (Nat.le_of_ble_eq_true rfl)
  rw [lg_entry_eq]
  generalize (lg_sl ([.ref qm]) ++ List.replicate (8 - (lg_sl ([.ref qm])).length) Slot.unset).toArray = ls at hl ⊢
  have hl : lv_has ls 8 [(0, .ref qm)] := hl
  refine lv_aload_n hx hb dX5_code_0 rfl (lv_at hl 0 rfl) ?_
  refine lv_iconst (v := nI 0) hx hb dX5_code_1 (by decide) ?_
  refine va_put (D := (dC, dI)) (ci := 4) (v := .int (nI 0)) (ty := .int) (C := RX5) (T := TX5) (N := 15) hx hb hts iwX5 tyX5 tyX5_ok nmX5 hown hK hP hD hS 0 rfl rfl 10 (by decide) fk51 (fun _ h9 => h9) rfl (by decide +kernel) rfl rfl (Nat.le_of_ble_eq_true rfl) dX5_code_2 (fun H locs hP hD hS => ?_)
  have hP : va_P (dC, dI) vwCl [(qm, .inr (4, [.ref qmd, .ref qmt, .int (nI n), .int (bI on), .int lf, .int (nI dn), .int pl, .ref qml, .int (nI k), .ref qmk, .int (nI 0), .ref qmh, .int (nI nh), .int th, .ref qmw])), (qmk, .inl (cyI, 460, .inl M)), (qmh, .inl (cyI, 460, .inl Hd))] H := hP
  have hD : va_D A [(qm, .inr (4, [.ref qmd, .ref qmt, .int (nI n), .int (bI on), .int lf, .int (nI dn), .int pl, .ref qml, .int (nI k), .ref qmk, .int (nI 0), .ref qmh, .int (nI nh), .int th, .ref qmw])), (qmk, .inl (cyI, 460, .inl M)), (qmh, .inl (cyI, 460, .inl Hd))] := hD
  refine lv_iconst (v := nI 0) hx hb dX5_code_5 (by decide) ?_
  refine lv_istore_n (lv' := [(1, .int (nI 0)), (0, .ref qm)]) hx hb dX5_code_6 rfl hl (by decide) rfl (fun ls hl => ?_)
  refine lv_bipush (v := nI 8) hx hb dX5_code_7 (by decide) ?_
  refine lv_istore_n (lv' := [(2, .int (nI 8)), (1, .int (nI 0)), (0, .ref qm)]) hx hb dX5_code_9 rfl hl (by decide) rfl (fun ls hl => ?_)
  refine lv_iconst (v := nI 0) hx hb dX5_code_10 (by decide) ?_
  refine lv_istore_n (lv' := [(3, .int (nI 0)), (2, .int (nI 8)), (1, .int (nI 0)), (0, .ref qm)]) hx hb dX5_code_11 rfl hl (by decide) rfl (fun ls hl => ?_)
  refine zz_loopW (pc := 12) (μ := fun (x : Nat × Nat × Nat × Nat × Nat × (Nat → Int32) × (Nat → Int32) × Nat) => match x with | (i, b, g, c, f, o, M, mz) => nh - i) (Inv := fun (x : Nat × Nat × Nat × Nat × Nat × (Nat → Int32) × (Nat → Int32) × Nat) (H : Heap) (locs : List Loc) (ls : Array Slot) => match x with | (i, b, g, c, f, o, M, mz) => (i ≤ nh) ∧ (nh ≤ i + f) ∧ (c ≤ i) ∧ (mz ≤ i + (c + 7) / 8) ∧ ((b = 8 ∧ c % 8 = 0) ∨ (b = c % 8 ∧ 0 < b)) ∧ (b = 8 ∨ g < mz) ∧ (eF Hd nh f i mz g c o = zE Hd nh) ∧ (∀ j, j < mz → M j = o j) ∧ va_P (dC, dI) vwCl [(qm, .inr (4, [.ref qmd, .ref qmt, .int (nI n), .int (bI on), .int lf, .int (nI dn), .int pl, .ref qml, .int (nI k), .ref qmk, .int (nI mz), .ref qmh, .int (nI nh), .int th, .ref qmw])), (qmk, .inl (cyI, 460, .inl M)), (qmh, .inl (cyI, 460, .inl Hd))] H ∧ va_D A [(qm, .inr (4, [.ref qmd, .ref qmt, .int (nI n), .int (bI on), .int lf, .int (nI dn), .int pl, .ref qml, .int (nI k), .ref qmk, .int (nI mz), .ref qmh, .int (nI nh), .int th, .ref qmw])), (qmk, .inl (cyI, 460, .inl M)), (qmh, .inl (cyI, 460, .inl Hd))] ∧ va_S A sS.heap H locs ∧ lv_has ls 8 [(0, .ref qm), (1, .int (nI i)), (2, .int (nI b)), (3, .int (nI g))]) (x0 := (0, 8, 0, 0, nh, fun _ => nI 0, M, 0)) ⟨by omega, by omega, by omega, by omega, by omega, by omega, rfl, no_lt0, hP, hD, hS, lv_sub hl [3, 2, 1, 0] rfl⟩ ?_
  intro ⟨i, b, g, c, f, o, M, mz⟩ H locs ls hI ih12
  obtain ⟨hi, hf, hc, hm, hbc, hg, hE, hF, hP, hD, hS, hl⟩ := hI
  have hl : lv_has ls 8 [(0, .ref qm), (1, .int (nI i)), (2, .int (nI b)), (3, .int (nI g))] := hl
  have hP : va_P (dC, dI) vwCl [(qm, .inr (4, [.ref qmd, .ref qmt, .int (nI n), .int (bI on), .int lf, .int (nI dn), .int pl, .ref qml, .int (nI k), .ref qmk, .int (nI mz), .ref qmh, .int (nI nh), .int th, .ref qmw])), (qmk, .inl (cyI, 460, .inl M)), (qmh, .inl (cyI, 460, .inl Hd))] H := hP
  have hD : va_D A [(qm, .inr (4, [.ref qmd, .ref qmt, .int (nI n), .int (bI on), .int lf, .int (nI dn), .int pl, .ref qml, .int (nI k), .ref qmk, .int (nI mz), .ref qmh, .int (nI nh), .int th, .ref qmw])), (qmk, .inl (cyI, 460, .inl M)), (qmh, .inl (cyI, 460, .inl Hd))] := hD
  have hi : i ≤ nh := hi
  have hf : nh ≤ i + f := hf
  have hc : c ≤ i := hc
  have hm : mz ≤ i + (c + 7) / 8 := hm
  have hbc : (b = 8 ∧ c % 8 = 0) ∨ (b = c % 8 ∧ 0 < b) := hbc
  have hg : b = 8 ∨ g < mz := hg
  have hE : eF Hd nh f i mz g c o = zE Hd nh := hE
  have hF : ∀ j, j < mz → M j = o j := hF
  refine lv_iload_n hx hb dX5_code_12 rfl (lv_at hl 1 rfl) ?_
  refine lv_aload_n hx hb dX5_code_13 rfl (lv_at hl 0 rfl) ?_
  refine va_get (D := (dC, dI)) (ci := 4) (v := .int (nI nh)) (C := RX5) (T := TX5) (N := 15) hx hb hts iwX5 hown hK hP 0 rfl rfl 12 (by decide) fk48 (fun _ h9 => h9) rfl dX5_code_14 ?_
  refine zn_icmp_ge (tgt := 171) hx hb dX5_code_17 (by decide) (by omega) (by omega) (fun c_17 => ?_) (fun c_17 => ?_)
  ·
    have e171 : i = nh := by omega
    have hE2 : (mz, o) = zE Hd nh := by rw [← hE]; exact (eF_end (by omega)).symm
    have hP9 := hP.sub (ws' := [(qm, .inr (4, [.ref qmd, .ref qmt, .int (nI n), .int (bI on), .int lf, .int (nI dn), .int pl, .ref qml, .int (nI k), .ref qmk, .int (nI mz), .ref qmh, .int (nI nh), .int th, .ref qmw])), (qmk, .inl (cyI, 460, .inl M)), (qmh, .inl (cyI, 460, .inl Hd))]) [0, 1, 2] rfl
    have hD9 := hD.sub (ws' := [(qm, .inr (4, [.ref qmd, .ref qmt, .int (nI n), .int (bI on), .int lf, .int (nI dn), .int pl, .ref qml, .int (nI k), .ref qmk, .int (nI mz), .ref qmh, .int (nI nh), .int th, .ref qmw])), (qmk, .inl (cyI, 460, .inl M)), (qmh, .inl (cyI, 460, .inl Hd))]) [0, 1, 2] (by decide) rfl
    have hK9 := hK.sub (tys' := [(cyI, .int), (cyZ, .boolean)]) [0, 1] rfl
    exact W.vret hx hb hr (fun tS ht hW => ⟨⟨(mz, M), rfl, ⟨by rw [← hE2], by rw [← hE2]; exact hF, by omega⟩, by rw [ht]; exact hP9, va_K.moved hW.alike hK9, hD9⟩, hS.F ht⟩) hS.2.2 dX5_code_171
  ·
    have hi9 : i < nh := by omega
    obtain ⟨f9, e9⟩ : ∃ f9, f = f9 + 1 := ⟨f - 1, by omega⟩
    subst e9
    refine lv_iload_n hx hb dX5_code_20 rfl (lv_at hl 2 rfl) ?_
    refine lv_bipush (v := nI 8) hx hb dX5_code_21 (by decide) ?_
    refine zn_icmp_ne (tgt := 38) hx hb dX5_code_23 (by decide) (by omega) (by omega) (fun c_23 => ?_) (fun c_23 => ?_)
    ·
      have hc9 : ¬ c % 8 = 0 := by omega
      have hg9 : g < mz := by omega
      refine lv_iconst (v := nI 0) hx hb dX5_code_38 (by decide) ?_
      refine lv_istore (lv' := [(4, .int (nI 0)), (0, .ref qm), (1, .int (nI i)), (2, .int (nI b)), (3, .int (nI g))]) hx hb dX5_code_39 hl (by decide) rfl (fun ls hl => ?_)
      refine lv_iconst (v := nI 0) hx hb dX5_code_41 (by decide) ?_
      refine lv_istore (lv' := [(5, .int (nI 0)), (4, .int (nI 0)), (0, .ref qm), (1, .int (nI i)), (2, .int (nI b)), (3, .int (nI g))]) hx hb dX5_code_42 hl (by decide) rfl (fun ls hl => ?_)
      refine lv_iconst (v := nI 1) hx hb dX5_code_44 (by decide) ?_
      refine lv_istore (lv' := [(6, .int (nI 1)), (5, .int (nI 0)), (4, .int (nI 0)), (0, .ref qm), (1, .int (nI i)), (2, .int (nI b)), (3, .int (nI g))]) hx hb dX5_code_45 hl (by decide) rfl (fun ls hl => ?_)
      refine zz_loopW (pc := 47) (μ := fun (d : Nat) => 300 - d) (Inv := fun (d : Nat) (H : Heap) (locs : List Loc) (ls : Array Slot) => (d ≤ min 256 i) ∧ va_P (dC, dI) vwCl [(qm, .inr (4, [.ref qmd, .ref qmt, .int (nI n), .int (bI on), .int lf, .int (nI dn), .int pl, .ref qml, .int (nI k), .ref qmk, .int (nI mz), .ref qmh, .int (nI nh), .int th, .ref qmw])), (qmk, .inl (cyI, 460, .inl M)), (qmh, .inl (cyI, 460, .inl Hd))] H ∧ va_D A [(qm, .inr (4, [.ref qmd, .ref qmt, .int (nI n), .int (bI on), .int lf, .int (nI dn), .int pl, .ref qml, .int (nI k), .ref qmk, .int (nI mz), .ref qmh, .int (nI nh), .int th, .ref qmw])), (qmk, .inl (cyI, 460, .inl M)), (qmh, .inl (cyI, 460, .inl Hd))] ∧ va_S A sS.heap H locs ∧ lv_has ls 8 [(0, .ref qm), (1, .int (nI i)), (2, .int (nI b)), (3, .int (nI g)), (4, .int (nI ((zBst Hd nh i d).2))), (5, .int (nI ((zBst Hd nh i d).1))), (6, .int (nI (d + 1)))]) (x0 := (0)) ⟨by omega, hP, hD, hS, lv_sub hl [3, 4, 5, 6, 2, 1, 0] rfl⟩ ?_
      intro d H locs ls hI ih47
      obtain ⟨hd, hP, hD, hS, hl⟩ := hI
      have hl : lv_has ls 8 [(0, .ref qm), (1, .int (nI i)), (2, .int (nI b)), (3, .int (nI g)), (4, .int (nI ((zBst Hd nh i d).2))), (5, .int (nI ((zBst Hd nh i d).1))), (6, .int (nI (d + 1)))] := hl
      have hP : va_P (dC, dI) vwCl [(qm, .inr (4, [.ref qmd, .ref qmt, .int (nI n), .int (bI on), .int lf, .int (nI dn), .int pl, .ref qml, .int (nI k), .ref qmk, .int (nI mz), .ref qmh, .int (nI nh), .int th, .ref qmw])), (qmk, .inl (cyI, 460, .inl M)), (qmh, .inl (cyI, 460, .inl Hd))] H := hP
      have hD : va_D A [(qm, .inr (4, [.ref qmd, .ref qmt, .int (nI n), .int (bI on), .int lf, .int (nI dn), .int pl, .ref qml, .int (nI k), .ref qmk, .int (nI mz), .ref qmh, .int (nI nh), .int th, .ref qmw])), (qmk, .inl (cyI, 460, .inl M)), (qmh, .inl (cyI, 460, .inl Hd))] := hD
      have hd : d ≤ min 256 i := hd
      have hB2 : (zBst Hd nh i d).2 ≤ 258 := by have := (zBst_le Hd nh i d).1; have := zcap_le nh i; omega
      have hB1 : (zBst Hd nh i d).1 ≤ 256 := by have := (zBst_le Hd nh i d).2.1; omega
      have hru : zRun Hd nh i (d + 1) ≤ 258 := by have := zRun_le Hd nh i (d + 1); have := zcap_le nh i; omega
      refine lv_iload hx hb dX5_code_47 (lv_at hl 6 rfl) ?_
      refine lv_sipush (v := nI 256) hx hb dX5_code_49 (by decide) ?_
      refine zn_icmp_gt (tgt := 110) hx hb dX5_code_52 (by decide) (by omega) (by omega) (fun c_52 => ?_) (fun c_52 => ?_)
      ·
        have ed : d = min 256 i := by omega
        have eB : zBst Hd nh i d = zB Hd nh i := by rw [ed]; rfl
        obtain ⟨z1, z2, z3, z4⟩ := zB_in Hd nh i
        obtain ⟨zc1, zc2⟩ := zcap_le nh i
        rw [eB] at hl
        refine lv_iload hx hb dX5_code_110 (lv_at hl 4 rfl) ?_
        refine lv_iconst (v := nI 3) hx hb dX5_code_112 (by decide) ?_
        refine zn_icmp_lt (tgt := 140) hx hb dX5_code_113 (by decide) (by omega) (by omega) (fun c_113 => ?_) (fun c_113 => ?_)
        ·
          refine lv_aload_n hx hb dX5_code_140 rfl (lv_at hl 0 rfl) ?_
          refine va_get (D := (dC, dI)) (ci := 4) (v := .ref qmk) (C := RX5) (T := TX5) (N := 15) hx hb hts iwX5 hown hK hP 0 rfl rfl 9 (by decide) fk30 (fun _ h9 => h9) rfl dX5_code_141 ?_
          refine lv_iload_n hx hb dX5_code_144 rfl (lv_at hl 3 rfl) ?_
          refine lv_dup2_11 hx hb dX5_code_145 rfl rfl ?_
          refine va_iald hx hb hK hP 1 0 rfl rfl (vp_in_nI (n := g) (by omega) (by decide)) dX5_code_146 ?_
          refine zz_top (congrArg M (nI_clamp (n := g) (by omega))) ?_
          refine lv_iconst (v := nI 1) hx hb dX5_code_147 (by decide) ?_
          refine lv_iload_n hx hb dX5_code_148 rfl (lv_at hl 2 rfl) ?_
          refine lv_ishl hx hb dX5_code_149 ?_
          refine lv_ior hx hb dX5_code_150 ?_
          refine va_iast hx hb hK hP hD hS 1 0 rfl rfl (vp_in_nI (n := g) (by omega) (by decide)) dX5_code_151 (fun H locs hP hD hS => ?_)
          rw [nI_clamp (n := g) (by omega)] at hP hD
          have hP : va_P (dC, dI) vwCl [(qm, .inr (4, [.ref qmd, .ref qmt, .int (nI n), .int (bI on), .int lf, .int (nI dn), .int pl, .ref qml, .int (nI k), .ref qmk, .int (nI mz), .ref qmh, .int (nI nh), .int th, .ref qmw])), (qmk, .inl (cyI, 460, .inl (upd M g ((M g) ||| ((nI 1) <<< ((nI b) &&& 31)))))), (qmh, .inl (cyI, 460, .inl Hd))] H := hP
          have hD : va_D A [(qm, .inr (4, [.ref qmd, .ref qmt, .int (nI n), .int (bI on), .int lf, .int (nI dn), .int pl, .ref qml, .int (nI k), .ref qmk, .int (nI mz), .ref qmh, .int (nI nh), .int th, .ref qmw])), (qmk, .inl (cyI, 460, .inl (upd M g ((M g) ||| ((nI 1) <<< ((nI b) &&& 31)))))), (qmh, .inl (cyI, 460, .inl Hd))] := hD
          refine lv_aload_n hx hb dX5_code_152 rfl (lv_at hl 0 rfl) ?_
          refine lv_aload_n hx hb dX5_code_153 rfl (lv_at hl 0 rfl) ?_
          refine va_get (D := (dC, dI)) (ci := 4) (v := .ref qmh) (C := RX5) (T := TX5) (N := 15) hx hb hts iwX5 hown hK hP 0 rfl rfl 11 (by decide) fk33 (fun _ h9 => h9) rfl dX5_code_154 ?_
          refine lv_iload_n hx hb dX5_code_157 rfl (lv_at hl 1 rfl) ?_
          refine va_iald hx hb hK hP 2 0 rfl rfl (vp_in_nI (n := i) (by omega) (by decide)) dX5_code_158 ?_
          refine zz_top (congrArg Hd (nI_clamp (n := i) (by omega))) ?_
          have hPc := hP.sub (ws' := [(qm, .inr (4, [.ref qmd, .ref qmt, .int (nI n), .int (bI on), .int lf, .int (nI dn), .int pl, .ref qml, .int (nI k), .ref qmk, .int (nI mz), .ref qmh, .int (nI nh), .int th, .ref qmw])), (qmk, .inl (cyI, 460, .inl (upd M g ((M g) ||| ((nI 1) <<< ((nI b) &&& 31))))))]) [0, 1] rfl
          have hKc := hK.sub (tys' := [(cyI, .int), (cyZ, .boolean)]) [0, 1] rfl
          have hDc := hD.sub (ws' := [(qm, .inr (4, [.ref qmd, .ref qmt, .int (nI n), .int (bI on), .int lf, .int (nI dn), .int pl, .ref qml, .int (nI k), .ref qmk, .int (nI mz), .ref qmh, .int (nI nh), .int th, .ref qmw])), (qmk, .inl (cyI, 460, .inl (upd M g ((M g) ||| ((nI 1) <<< ((nI b) &&& 31))))))]) [0, 1] (by decide) rfl
          have hFc := va_free (wc := [(qm, .inr (4, [.ref qmd, .ref qmt, .int (nI n), .int (bI on), .int lf, .int (nI dn), .int pl, .ref qml, .int (nI k), .ref qmk, .int (nI mz), .ref qmh, .int (nI nh), .int th, .ref qmw])), (qmk, .inl (cyI, 460, .inl (upd M g ((M g) ||| ((nI 1) <<< ((nI b) &&& 31))))))]) hD hS hA [0, 1] rfl
          refine va_callv (va_runV (As := [.int (Hd i)]) (rest := []) ⟨hx, hb, hml, hown, hts⟩ (c_X5_put l dC dI cyI cyZ qm qmk qmd qmt qml qmh qmw H.size n on lf dn pl k mz nh th (upd M g ((M g) ||| ((nI 1) <<< ((nI b) &&& 31)))) (Hd i) (by omega)) (cwV 1 hts gX5_code_X5_put rfl rfl rfl (by decide +kernel) ⟨Nat.le_of_ble_eq_true rfl, Nat.le_of_ble_eq_true rfl⟩) ⟨zz_blW, va_recv hKc hPc (ci := 4) (q0 := 0) rfl rfl, fun U hU hW => ⟨rfl, by rw [hU], by rw [hU]; exact hPc, va_K.moved hW.alike hKc, hDc.weaken (fun _ _ _ _ => trivial)⟩⟩ rfl rfl hl.1 rfl (lv_room (Nat.le_of_ble_eq_true rfl)) dX5_code_159 ⟨Nat.zero_le _, Nat.zero_le _⟩) hS (fun q _ h => hFc q h) hFc (fun uU tS H1 locs ht9 hvm9 hw9 hB9 hz1 hk1 hS => ?_)
          obtain ⟨hP1, hK1, hD1⟩ := hB9
          rw [ht9] at hP1
          have hK1 := va_K.moved hvm9.symm hK1
          obtain ⟨hP, hD⟩ := va_join (wr := [(qmh, .inl (cyI, 460, .inl Hd))]) (w1 := [(qm, .inr (4, [.ref qmd, .ref qmt, .int (nI n), .int (bI on), .int lf, .int (nI dn), .int pl, .ref qml, .int (nI k), .ref qmk, .int (nI (mz + 1)), .ref qmh, .int (nI nh), .int th, .ref qmw])), (qmk, .inl (cyI, 460, .inl (upd (upd M g ((M g) ||| ((nI 1) <<< ((nI b) &&& 31)))) mz (Hd i))))]) hP hD [0, 1] [2] rfl rfl (by decide) (by decide) hk1 hFc hP1 hD1
          generalize H1 = H at hP hS ⊢
          have hP : va_P (dC, dI) vwCl [(qmh, .inl (cyI, 460, .inl Hd)), (qm, .inr (4, [.ref qmd, .ref qmt, .int (nI n), .int (bI on), .int lf, .int (nI dn), .int pl, .ref qml, .int (nI k), .ref qmk, .int (nI (mz + 1)), .ref qmh, .int (nI nh), .int th, .ref qmw])), (qmk, .inl (cyI, 460, .inl (upd (upd M g ((M g) ||| ((nI 1) <<< ((nI b) &&& 31)))) mz (Hd i))))] H := hP
          have hD : va_D A [(qmh, .inl (cyI, 460, .inl Hd)), (qm, .inr (4, [.ref qmd, .ref qmt, .int (nI n), .int (bI on), .int lf, .int (nI dn), .int pl, .ref qml, .int (nI k), .ref qmk, .int (nI (mz + 1)), .ref qmh, .int (nI nh), .int th, .ref qmw])), (qmk, .inl (cyI, 460, .inl (upd (upd M g ((M g) ||| ((nI 1) <<< ((nI b) &&& 31)))) mz (Hd i))))] := hD
          refine lv_iinc (v := nI (i + 1)) (lv' := [(1, .int (nI (i + 1))), (0, .ref qm), (2, .int (nI b)), (3, .int (nI g)), (4, .int (nI ((zB Hd nh i).2))), (5, .int (nI ((zB Hd nh i).1))), (6, .int (nI (d + 1)))]) hx hb dX5_code_162 hl (k := 1) rfl (nI_add i 1) (by decide) rfl (fun ls hl => ?_)
          refine lv_iinc (v := nI (b + 1)) (lv' := [(2, .int (nI (b + 1))), (1, .int (nI (i + 1))), (0, .ref qm), (3, .int (nI g)), (4, .int (nI ((zB Hd nh i).2))), (5, .int (nI ((zB Hd nh i).1))), (6, .int (nI (d + 1)))]) hx hb dX5_code_165 hl (k := 2) rfl (nI_add b 1) (by decide) rfl (fun ls hl => ?_)
          refine lv_goto (tgt := 12) hx hb dX5_code_168 (by decide) ?_
          skip
          have hP := hP.sub (ws' := [(qm, .inr (4, [.ref qmd, .ref qmt, .int (nI n), .int (bI on), .int lf, .int (nI dn), .int pl, .ref qml, .int (nI k), .ref qmk, .int (nI (mz + 1)), .ref qmh, .int (nI nh), .int th, .ref qmw])), (qmk, .inl (cyI, 460, .inl (upd (upd M g ((M g) ||| ((nI 1) <<< ((nI b) &&& 31)))) mz (Hd i)))), (qmh, .inl (cyI, 460, .inl Hd))]) [1, 2, 0] rfl
          have hD := hD.sub (ws' := [(qm, .inr (4, [.ref qmd, .ref qmt, .int (nI n), .int (bI on), .int lf, .int (nI dn), .int pl, .ref qml, .int (nI k), .ref qmk, .int (nI (mz + 1)), .ref qmh, .int (nI nh), .int th, .ref qmw])), (qmk, .inl (cyI, 460, .inl (upd (upd M g ((M g) ||| ((nI 1) <<< ((nI b) &&& 31)))) mz (Hd i)))), (qmh, .inl (cyI, 460, .inl Hd))]) [1, 2, 0] (by decide) rfl
          exact ih12 (i + 1, b + 1, g, c + 1, f9, upd (upd (o) g ((o) g ||| (nI 1 <<< (nI (c % 8) &&& 31)))) (mz) (Hd i), upd (upd M g ((M g) ||| ((nI 1) <<< ((nI b) &&& 31)))) mz (Hd i), mz + 1) _ _ _ ⟨by omega, by omega, by omega, by omega, by omega, by omega, (eF_one1 hi9 hc9 (Nat.not_le.mpr c_113)).symm.trans hE, upd_new (upd_cong hF (by rw [hF g (by omega), show c % 8 = b by omega])) rfl, hP, hD, hS, lv_sub hl [2, 1, 0, 3] rfl⟩ (by first | omega | (dsimp only; omega))
        ·
          have z5 := z4 (by omega)
          refine lv_aload_n hx hb dX5_code_116 rfl (lv_at hl 0 rfl) ?_
          refine lv_iload hx hb dX5_code_117 (lv_at hl 5 rfl) ?_
          refine lv_iconst (v := nI 1) hx hb dX5_code_119 (by decide) ?_
          refine lv_isub hx hb dX5_code_120 ?_
          refine zz_top (pk_sub (a := (zB Hd nh i).1) (b := 1) (by omega)) ?_
          have hPc := hP.sub (ws' := [(qm, .inr (4, [.ref qmd, .ref qmt, .int (nI n), .int (bI on), .int lf, .int (nI dn), .int pl, .ref qml, .int (nI k), .ref qmk, .int (nI mz), .ref qmh, .int (nI nh), .int th, .ref qmw])), (qmk, .inl (cyI, 460, .inl M))]) [0, 1] rfl
          have hKc := hK.sub (tys' := [(cyI, .int), (cyZ, .boolean)]) [0, 1] rfl
          have hDc := hD.sub (ws' := [(qm, .inr (4, [.ref qmd, .ref qmt, .int (nI n), .int (bI on), .int lf, .int (nI dn), .int pl, .ref qml, .int (nI k), .ref qmk, .int (nI mz), .ref qmh, .int (nI nh), .int th, .ref qmw])), (qmk, .inl (cyI, 460, .inl M))]) [0, 1] (by decide) rfl
          have hFc := va_free (wc := [(qm, .inr (4, [.ref qmd, .ref qmt, .int (nI n), .int (bI on), .int lf, .int (nI dn), .int pl, .ref qml, .int (nI k), .ref qmk, .int (nI mz), .ref qmh, .int (nI nh), .int th, .ref qmw])), (qmk, .inl (cyI, 460, .inl M))]) hD hS hA [0, 1] rfl
          refine va_callv (va_runV (As := [.int (nI (((zB Hd nh i).1) - 1))]) (rest := []) ⟨hx, hb, hml, hown, hts⟩ (c_X5_put l dC dI cyI cyZ qm qmk qmd qmt qml qmh qmw H.size n on lf dn pl k mz nh th M (nI (((zB Hd nh i).1) - 1)) (by omega)) (cwV 1 hts gX5_code_X5_put rfl rfl rfl (by decide +kernel) ⟨Nat.le_of_ble_eq_true rfl, Nat.le_of_ble_eq_true rfl⟩) ⟨zz_blW, va_recv hKc hPc (ci := 4) (q0 := 0) rfl rfl, fun U hU hW => ⟨rfl, by rw [hU], by rw [hU]; exact hPc, va_K.moved hW.alike hKc, hDc.weaken (fun _ _ _ _ => trivial)⟩⟩ rfl rfl hl.1 rfl (lv_room (Nat.le_of_ble_eq_true rfl)) dX5_code_121 ⟨Nat.zero_le _, Nat.zero_le _⟩) hS (fun q _ h => hFc q h) hFc (fun uU tS H1 locs ht9 hvm9 hw9 hB9 hz1 hk1 hS => ?_)
          obtain ⟨hP1, hK1, hD1⟩ := hB9
          rw [ht9] at hP1
          have hK1 := va_K.moved hvm9.symm hK1
          obtain ⟨hP, hD⟩ := va_join (wr := [(qmh, .inl (cyI, 460, .inl Hd))]) (w1 := [(qm, .inr (4, [.ref qmd, .ref qmt, .int (nI n), .int (bI on), .int lf, .int (nI dn), .int pl, .ref qml, .int (nI k), .ref qmk, .int (nI (mz + 1)), .ref qmh, .int (nI nh), .int th, .ref qmw])), (qmk, .inl (cyI, 460, .inl (upd M mz (nI (((zB Hd nh i).1) - 1)))))]) hP hD [0, 1] [2] rfl rfl (by decide) (by decide) hk1 hFc hP1 hD1
          generalize H1 = H at hP hS ⊢
          have hP : va_P (dC, dI) vwCl [(qmh, .inl (cyI, 460, .inl Hd)), (qm, .inr (4, [.ref qmd, .ref qmt, .int (nI n), .int (bI on), .int lf, .int (nI dn), .int pl, .ref qml, .int (nI k), .ref qmk, .int (nI (mz + 1)), .ref qmh, .int (nI nh), .int th, .ref qmw])), (qmk, .inl (cyI, 460, .inl (upd M mz (nI (((zB Hd nh i).1) - 1)))))] H := hP
          have hD : va_D A [(qmh, .inl (cyI, 460, .inl Hd)), (qm, .inr (4, [.ref qmd, .ref qmt, .int (nI n), .int (bI on), .int lf, .int (nI dn), .int pl, .ref qml, .int (nI k), .ref qmk, .int (nI (mz + 1)), .ref qmh, .int (nI nh), .int th, .ref qmw])), (qmk, .inl (cyI, 460, .inl (upd M mz (nI (((zB Hd nh i).1) - 1)))))] := hD
          refine lv_aload_n hx hb dX5_code_124 rfl (lv_at hl 0 rfl) ?_
          refine lv_iload hx hb dX5_code_125 (lv_at hl 4 rfl) ?_
          refine lv_iconst (v := nI 3) hx hb dX5_code_127 (by decide) ?_
          refine lv_isub hx hb dX5_code_128 ?_
          refine zz_top (pk_sub (a := (zB Hd nh i).2) (b := 3) (by omega)) ?_
          have hPc := hP.sub (ws' := [(qm, .inr (4, [.ref qmd, .ref qmt, .int (nI n), .int (bI on), .int lf, .int (nI dn), .int pl, .ref qml, .int (nI k), .ref qmk, .int (nI (mz + 1)), .ref qmh, .int (nI nh), .int th, .ref qmw])), (qmk, .inl (cyI, 460, .inl (upd M mz (nI (((zB Hd nh i).1) - 1)))))]) [1, 2] rfl
          have hKc := hK.sub (tys' := [(cyI, .int), (cyZ, .boolean)]) [0, 1] rfl
          have hDc := hD.sub (ws' := [(qm, .inr (4, [.ref qmd, .ref qmt, .int (nI n), .int (bI on), .int lf, .int (nI dn), .int pl, .ref qml, .int (nI k), .ref qmk, .int (nI (mz + 1)), .ref qmh, .int (nI nh), .int th, .ref qmw])), (qmk, .inl (cyI, 460, .inl (upd M mz (nI (((zB Hd nh i).1) - 1)))))]) [1, 2] (by decide) rfl
          have hFc := va_free (wc := [(qm, .inr (4, [.ref qmd, .ref qmt, .int (nI n), .int (bI on), .int lf, .int (nI dn), .int pl, .ref qml, .int (nI k), .ref qmk, .int (nI (mz + 1)), .ref qmh, .int (nI nh), .int th, .ref qmw])), (qmk, .inl (cyI, 460, .inl (upd M mz (nI (((zB Hd nh i).1) - 1)))))]) hD hS hA [1, 2] rfl
          refine va_callv (va_runV (As := [.int (nI (((zB Hd nh i).2) - 3))]) (rest := []) ⟨hx, hb, hml, hown, hts⟩ (c_X5_put l dC dI cyI cyZ qm qmk qmd qmt qml qmh qmw H.size n on lf dn pl k (mz + 1) nh th (upd M mz (nI (((zB Hd nh i).1) - 1))) (nI (((zB Hd nh i).2) - 3)) (by omega)) (cwV 1 hts gX5_code_X5_put rfl rfl rfl (by decide +kernel) ⟨Nat.le_of_ble_eq_true rfl, Nat.le_of_ble_eq_true rfl⟩) ⟨zz_blW, va_recv hKc hPc (ci := 4) (q0 := 0) rfl rfl, fun U hU hW => ⟨rfl, by rw [hU], by rw [hU]; exact hPc, va_K.moved hW.alike hKc, hDc.weaken (fun _ _ _ _ => trivial)⟩⟩ rfl rfl hl.1 rfl (lv_room (Nat.le_of_ble_eq_true rfl)) dX5_code_129 ⟨Nat.zero_le _, Nat.zero_le _⟩) hS (fun q _ h => hFc q h) hFc (fun uU tS H1 locs ht9 hvm9 hw9 hB9 hz1 hk1 hS => ?_)
          obtain ⟨hP1, hK1, hD1⟩ := hB9
          rw [ht9] at hP1
          have hK1 := va_K.moved hvm9.symm hK1
          obtain ⟨hP, hD⟩ := va_join (wr := [(qmh, .inl (cyI, 460, .inl Hd))]) (w1 := [(qm, .inr (4, [.ref qmd, .ref qmt, .int (nI n), .int (bI on), .int lf, .int (nI dn), .int pl, .ref qml, .int (nI k), .ref qmk, .int (nI ((mz + 1) + 1)), .ref qmh, .int (nI nh), .int th, .ref qmw])), (qmk, .inl (cyI, 460, .inl (upd (upd M mz (nI (((zB Hd nh i).1) - 1))) (mz + 1) (nI (((zB Hd nh i).2) - 3)))))]) hP hD [1, 2] [0] rfl rfl (by decide) (by decide) hk1 hFc hP1 hD1
          generalize H1 = H at hP hS ⊢
          have hP : va_P (dC, dI) vwCl [(qmh, .inl (cyI, 460, .inl Hd)), (qm, .inr (4, [.ref qmd, .ref qmt, .int (nI n), .int (bI on), .int lf, .int (nI dn), .int pl, .ref qml, .int (nI k), .ref qmk, .int (nI ((mz + 1) + 1)), .ref qmh, .int (nI nh), .int th, .ref qmw])), (qmk, .inl (cyI, 460, .inl (upd (upd M mz (nI (((zB Hd nh i).1) - 1))) (mz + 1) (nI (((zB Hd nh i).2) - 3)))))] H := hP
          have hD : va_D A [(qmh, .inl (cyI, 460, .inl Hd)), (qm, .inr (4, [.ref qmd, .ref qmt, .int (nI n), .int (bI on), .int lf, .int (nI dn), .int pl, .ref qml, .int (nI k), .ref qmk, .int (nI ((mz + 1) + 1)), .ref qmh, .int (nI nh), .int th, .ref qmw])), (qmk, .inl (cyI, 460, .inl (upd (upd M mz (nI (((zB Hd nh i).1) - 1))) (mz + 1) (nI (((zB Hd nh i).2) - 3)))))] := hD
          refine lv_iload_n hx hb dX5_code_132 rfl (lv_at hl 1 rfl) ?_
          refine lv_iload hx hb dX5_code_133 (lv_at hl 4 rfl) ?_
          refine lv_iadd hx hb dX5_code_135 ?_
          refine zz_top (nI_add i ((zB Hd nh i).2)) ?_
          refine lv_istore_n (lv' := [(1, .int (nI (i + ((zB Hd nh i).2)))), (0, .ref qm), (2, .int (nI b)), (3, .int (nI g)), (4, .int (nI ((zB Hd nh i).2))), (5, .int (nI ((zB Hd nh i).1))), (6, .int (nI (d + 1)))]) hx hb dX5_code_136 rfl hl (by decide) rfl (fun ls hl => ?_)
          refine lv_goto (tgt := 165) hx hb dX5_code_137 (by decide) ?_
          refine lv_iinc (v := nI (b + 1)) (lv' := [(2, .int (nI (b + 1))), (1, .int (nI (i + ((zB Hd nh i).2)))), (0, .ref qm), (3, .int (nI g)), (4, .int (nI ((zB Hd nh i).2))), (5, .int (nI ((zB Hd nh i).1))), (6, .int (nI (d + 1)))]) hx hb dX5_code_165 hl (k := 2) rfl (nI_add b 1) (by decide) rfl (fun ls hl => ?_)
          refine lv_goto (tgt := 12) hx hb dX5_code_168 (by decide) ?_
          skip
          have hP := hP.sub (ws' := [(qm, .inr (4, [.ref qmd, .ref qmt, .int (nI n), .int (bI on), .int lf, .int (nI dn), .int pl, .ref qml, .int (nI k), .ref qmk, .int (nI ((mz + 1) + 1)), .ref qmh, .int (nI nh), .int th, .ref qmw])), (qmk, .inl (cyI, 460, .inl (upd (upd M mz (nI (((zB Hd nh i).1) - 1))) (mz + 1) (nI (((zB Hd nh i).2) - 3))))), (qmh, .inl (cyI, 460, .inl Hd))]) [1, 2, 0] rfl
          have hD := hD.sub (ws' := [(qm, .inr (4, [.ref qmd, .ref qmt, .int (nI n), .int (bI on), .int lf, .int (nI dn), .int pl, .ref qml, .int (nI k), .ref qmk, .int (nI ((mz + 1) + 1)), .ref qmh, .int (nI nh), .int th, .ref qmw])), (qmk, .inl (cyI, 460, .inl (upd (upd M mz (nI (((zB Hd nh i).1) - 1))) (mz + 1) (nI (((zB Hd nh i).2) - 3))))), (qmh, .inl (cyI, 460, .inl Hd))]) [1, 2, 0] (by decide) rfl
          exact ih12 (i + ((zB Hd nh i).2), b + 1, g, c + 1, f9, upd (upd (o) (mz) (nI ((zB Hd nh i).1 - 1))) (mz + 1) (nI ((zB Hd nh i).2 - 3)), upd (upd M mz (nI (((zB Hd nh i).1) - 1))) (mz + 1) (nI (((zB Hd nh i).2) - 3)), (mz + 1) + 1) _ _ _ ⟨by omega, by omega, by omega, by omega, by omega, by omega, (eF_row1 hi9 hc9 c_113).symm.trans hE, upd_new (upd_new hF rfl) rfl, hP, hD, hS, lv_sub hl [2, 1, 0, 3] rfl⟩ (by first | omega | (dsimp only; omega))
      ·
        refine lv_iload hx hb dX5_code_55 (lv_at hl 6 rfl) ?_
        refine lv_iload_n hx hb dX5_code_57 rfl (lv_at hl 1 rfl) ?_
        refine zn_icmp_gt (tgt := 110) hx hb dX5_code_58 (by decide) (by omega) (by omega) (fun c_58 => ?_) (fun c_58 => ?_)
        ·
          have ed : d = min 256 i := by omega
          have eB : zBst Hd nh i d = zB Hd nh i := by rw [ed]; rfl
          obtain ⟨z1, z2, z3, z4⟩ := zB_in Hd nh i
          obtain ⟨zc1, zc2⟩ := zcap_le nh i
          rw [eB] at hl
          refine lv_iload hx hb dX5_code_110 (lv_at hl 4 rfl) ?_
          refine lv_iconst (v := nI 3) hx hb dX5_code_112 (by decide) ?_
          refine zn_icmp_lt (tgt := 140) hx hb dX5_code_113 (by decide) (by omega) (by omega) (fun c_113 => ?_) (fun c_113 => ?_)
          ·
            refine lv_aload_n hx hb dX5_code_140 rfl (lv_at hl 0 rfl) ?_
            refine va_get (D := (dC, dI)) (ci := 4) (v := .ref qmk) (C := RX5) (T := TX5) (N := 15) hx hb hts iwX5 hown hK hP 0 rfl rfl 9 (by decide) fk30 (fun _ h9 => h9) rfl dX5_code_141 ?_
            refine lv_iload_n hx hb dX5_code_144 rfl (lv_at hl 3 rfl) ?_
            refine lv_dup2_11 hx hb dX5_code_145 rfl rfl ?_
            refine va_iald hx hb hK hP 1 0 rfl rfl (vp_in_nI (n := g) (by omega) (by decide)) dX5_code_146 ?_
            refine zz_top (congrArg M (nI_clamp (n := g) (by omega))) ?_
            refine lv_iconst (v := nI 1) hx hb dX5_code_147 (by decide) ?_
            refine lv_iload_n hx hb dX5_code_148 rfl (lv_at hl 2 rfl) ?_
            refine lv_ishl hx hb dX5_code_149 ?_
            refine lv_ior hx hb dX5_code_150 ?_
            refine va_iast hx hb hK hP hD hS 1 0 rfl rfl (vp_in_nI (n := g) (by omega) (by decide)) dX5_code_151 (fun H locs hP hD hS => ?_)
            rw [nI_clamp (n := g) (by omega)] at hP hD
            have hP : va_P (dC, dI) vwCl [(qm, .inr (4, [.ref qmd, .ref qmt, .int (nI n), .int (bI on), .int lf, .int (nI dn), .int pl, .ref qml, .int (nI k), .ref qmk, .int (nI mz), .ref qmh, .int (nI nh), .int th, .ref qmw])), (qmk, .inl (cyI, 460, .inl (upd M g ((M g) ||| ((nI 1) <<< ((nI b) &&& 31)))))), (qmh, .inl (cyI, 460, .inl Hd))] H := hP
            have hD : va_D A [(qm, .inr (4, [.ref qmd, .ref qmt, .int (nI n), .int (bI on), .int lf, .int (nI dn), .int pl, .ref qml, .int (nI k), .ref qmk, .int (nI mz), .ref qmh, .int (nI nh), .int th, .ref qmw])), (qmk, .inl (cyI, 460, .inl (upd M g ((M g) ||| ((nI 1) <<< ((nI b) &&& 31)))))), (qmh, .inl (cyI, 460, .inl Hd))] := hD
            refine lv_aload_n hx hb dX5_code_152 rfl (lv_at hl 0 rfl) ?_
            refine lv_aload_n hx hb dX5_code_153 rfl (lv_at hl 0 rfl) ?_
            refine va_get (D := (dC, dI)) (ci := 4) (v := .ref qmh) (C := RX5) (T := TX5) (N := 15) hx hb hts iwX5 hown hK hP 0 rfl rfl 11 (by decide) fk33 (fun _ h9 => h9) rfl dX5_code_154 ?_
            refine lv_iload_n hx hb dX5_code_157 rfl (lv_at hl 1 rfl) ?_
            refine va_iald hx hb hK hP 2 0 rfl rfl (vp_in_nI (n := i) (by omega) (by decide)) dX5_code_158 ?_
            refine zz_top (congrArg Hd (nI_clamp (n := i) (by omega))) ?_
            have hPc := hP.sub (ws' := [(qm, .inr (4, [.ref qmd, .ref qmt, .int (nI n), .int (bI on), .int lf, .int (nI dn), .int pl, .ref qml, .int (nI k), .ref qmk, .int (nI mz), .ref qmh, .int (nI nh), .int th, .ref qmw])), (qmk, .inl (cyI, 460, .inl (upd M g ((M g) ||| ((nI 1) <<< ((nI b) &&& 31))))))]) [0, 1] rfl
            have hKc := hK.sub (tys' := [(cyI, .int), (cyZ, .boolean)]) [0, 1] rfl
            have hDc := hD.sub (ws' := [(qm, .inr (4, [.ref qmd, .ref qmt, .int (nI n), .int (bI on), .int lf, .int (nI dn), .int pl, .ref qml, .int (nI k), .ref qmk, .int (nI mz), .ref qmh, .int (nI nh), .int th, .ref qmw])), (qmk, .inl (cyI, 460, .inl (upd M g ((M g) ||| ((nI 1) <<< ((nI b) &&& 31))))))]) [0, 1] (by decide) rfl
            have hFc := va_free (wc := [(qm, .inr (4, [.ref qmd, .ref qmt, .int (nI n), .int (bI on), .int lf, .int (nI dn), .int pl, .ref qml, .int (nI k), .ref qmk, .int (nI mz), .ref qmh, .int (nI nh), .int th, .ref qmw])), (qmk, .inl (cyI, 460, .inl (upd M g ((M g) ||| ((nI 1) <<< ((nI b) &&& 31))))))]) hD hS hA [0, 1] rfl
            refine va_callv (va_runV (As := [.int (Hd i)]) (rest := []) ⟨hx, hb, hml, hown, hts⟩ (c_X5_put l dC dI cyI cyZ qm qmk qmd qmt qml qmh qmw H.size n on lf dn pl k mz nh th (upd M g ((M g) ||| ((nI 1) <<< ((nI b) &&& 31)))) (Hd i) (by omega)) (cwV 1 hts gX5_code_X5_put rfl rfl rfl (by decide +kernel) ⟨Nat.le_of_ble_eq_true rfl, Nat.le_of_ble_eq_true rfl⟩) ⟨zz_blW, va_recv hKc hPc (ci := 4) (q0 := 0) rfl rfl, fun U hU hW => ⟨rfl, by rw [hU], by rw [hU]; exact hPc, va_K.moved hW.alike hKc, hDc.weaken (fun _ _ _ _ => trivial)⟩⟩ rfl rfl hl.1 rfl (lv_room (Nat.le_of_ble_eq_true rfl)) dX5_code_159 ⟨Nat.zero_le _, Nat.zero_le _⟩) hS (fun q _ h => hFc q h) hFc (fun uU tS H1 locs ht9 hvm9 hw9 hB9 hz1 hk1 hS => ?_)
            obtain ⟨hP1, hK1, hD1⟩ := hB9
            rw [ht9] at hP1
            have hK1 := va_K.moved hvm9.symm hK1
            obtain ⟨hP, hD⟩ := va_join (wr := [(qmh, .inl (cyI, 460, .inl Hd))]) (w1 := [(qm, .inr (4, [.ref qmd, .ref qmt, .int (nI n), .int (bI on), .int lf, .int (nI dn), .int pl, .ref qml, .int (nI k), .ref qmk, .int (nI (mz + 1)), .ref qmh, .int (nI nh), .int th, .ref qmw])), (qmk, .inl (cyI, 460, .inl (upd (upd M g ((M g) ||| ((nI 1) <<< ((nI b) &&& 31)))) mz (Hd i))))]) hP hD [0, 1] [2] rfl rfl (by decide) (by decide) hk1 hFc hP1 hD1
            generalize H1 = H at hP hS ⊢
            have hP : va_P (dC, dI) vwCl [(qmh, .inl (cyI, 460, .inl Hd)), (qm, .inr (4, [.ref qmd, .ref qmt, .int (nI n), .int (bI on), .int lf, .int (nI dn), .int pl, .ref qml, .int (nI k), .ref qmk, .int (nI (mz + 1)), .ref qmh, .int (nI nh), .int th, .ref qmw])), (qmk, .inl (cyI, 460, .inl (upd (upd M g ((M g) ||| ((nI 1) <<< ((nI b) &&& 31)))) mz (Hd i))))] H := hP
            have hD : va_D A [(qmh, .inl (cyI, 460, .inl Hd)), (qm, .inr (4, [.ref qmd, .ref qmt, .int (nI n), .int (bI on), .int lf, .int (nI dn), .int pl, .ref qml, .int (nI k), .ref qmk, .int (nI (mz + 1)), .ref qmh, .int (nI nh), .int th, .ref qmw])), (qmk, .inl (cyI, 460, .inl (upd (upd M g ((M g) ||| ((nI 1) <<< ((nI b) &&& 31)))) mz (Hd i))))] := hD
            refine lv_iinc (v := nI (i + 1)) (lv' := [(1, .int (nI (i + 1))), (0, .ref qm), (2, .int (nI b)), (3, .int (nI g)), (4, .int (nI ((zB Hd nh i).2))), (5, .int (nI ((zB Hd nh i).1))), (6, .int (nI (d + 1)))]) hx hb dX5_code_162 hl (k := 1) rfl (nI_add i 1) (by decide) rfl (fun ls hl => ?_)
            refine lv_iinc (v := nI (b + 1)) (lv' := [(2, .int (nI (b + 1))), (1, .int (nI (i + 1))), (0, .ref qm), (3, .int (nI g)), (4, .int (nI ((zB Hd nh i).2))), (5, .int (nI ((zB Hd nh i).1))), (6, .int (nI (d + 1)))]) hx hb dX5_code_165 hl (k := 2) rfl (nI_add b 1) (by decide) rfl (fun ls hl => ?_)
            refine lv_goto (tgt := 12) hx hb dX5_code_168 (by decide) ?_
            skip
            have hP := hP.sub (ws' := [(qm, .inr (4, [.ref qmd, .ref qmt, .int (nI n), .int (bI on), .int lf, .int (nI dn), .int pl, .ref qml, .int (nI k), .ref qmk, .int (nI (mz + 1)), .ref qmh, .int (nI nh), .int th, .ref qmw])), (qmk, .inl (cyI, 460, .inl (upd (upd M g ((M g) ||| ((nI 1) <<< ((nI b) &&& 31)))) mz (Hd i)))), (qmh, .inl (cyI, 460, .inl Hd))]) [1, 2, 0] rfl
            have hD := hD.sub (ws' := [(qm, .inr (4, [.ref qmd, .ref qmt, .int (nI n), .int (bI on), .int lf, .int (nI dn), .int pl, .ref qml, .int (nI k), .ref qmk, .int (nI (mz + 1)), .ref qmh, .int (nI nh), .int th, .ref qmw])), (qmk, .inl (cyI, 460, .inl (upd (upd M g ((M g) ||| ((nI 1) <<< ((nI b) &&& 31)))) mz (Hd i)))), (qmh, .inl (cyI, 460, .inl Hd))]) [1, 2, 0] (by decide) rfl
            exact ih12 (i + 1, b + 1, g, c + 1, f9, upd (upd (o) g ((o) g ||| (nI 1 <<< (nI (c % 8) &&& 31)))) (mz) (Hd i), upd (upd M g ((M g) ||| ((nI 1) <<< ((nI b) &&& 31)))) mz (Hd i), mz + 1) _ _ _ ⟨by omega, by omega, by omega, by omega, by omega, by omega, (eF_one1 hi9 hc9 (Nat.not_le.mpr c_113)).symm.trans hE, upd_new (upd_cong hF (by rw [hF g (by omega), show c % 8 = b by omega])) rfl, hP, hD, hS, lv_sub hl [2, 1, 0, 3] rfl⟩ (by first | omega | (dsimp only; omega))
          ·
            have z5 := z4 (by omega)
            refine lv_aload_n hx hb dX5_code_116 rfl (lv_at hl 0 rfl) ?_
            refine lv_iload hx hb dX5_code_117 (lv_at hl 5 rfl) ?_
            refine lv_iconst (v := nI 1) hx hb dX5_code_119 (by decide) ?_
            refine lv_isub hx hb dX5_code_120 ?_
            refine zz_top (pk_sub (a := (zB Hd nh i).1) (b := 1) (by omega)) ?_
            have hPc := hP.sub (ws' := [(qm, .inr (4, [.ref qmd, .ref qmt, .int (nI n), .int (bI on), .int lf, .int (nI dn), .int pl, .ref qml, .int (nI k), .ref qmk, .int (nI mz), .ref qmh, .int (nI nh), .int th, .ref qmw])), (qmk, .inl (cyI, 460, .inl M))]) [0, 1] rfl
            have hKc := hK.sub (tys' := [(cyI, .int), (cyZ, .boolean)]) [0, 1] rfl
            have hDc := hD.sub (ws' := [(qm, .inr (4, [.ref qmd, .ref qmt, .int (nI n), .int (bI on), .int lf, .int (nI dn), .int pl, .ref qml, .int (nI k), .ref qmk, .int (nI mz), .ref qmh, .int (nI nh), .int th, .ref qmw])), (qmk, .inl (cyI, 460, .inl M))]) [0, 1] (by decide) rfl
            have hFc := va_free (wc := [(qm, .inr (4, [.ref qmd, .ref qmt, .int (nI n), .int (bI on), .int lf, .int (nI dn), .int pl, .ref qml, .int (nI k), .ref qmk, .int (nI mz), .ref qmh, .int (nI nh), .int th, .ref qmw])), (qmk, .inl (cyI, 460, .inl M))]) hD hS hA [0, 1] rfl
            refine va_callv (va_runV (As := [.int (nI (((zB Hd nh i).1) - 1))]) (rest := []) ⟨hx, hb, hml, hown, hts⟩ (c_X5_put l dC dI cyI cyZ qm qmk qmd qmt qml qmh qmw H.size n on lf dn pl k mz nh th M (nI (((zB Hd nh i).1) - 1)) (by omega)) (cwV 1 hts gX5_code_X5_put rfl rfl rfl (by decide +kernel) ⟨Nat.le_of_ble_eq_true rfl, Nat.le_of_ble_eq_true rfl⟩) ⟨zz_blW, va_recv hKc hPc (ci := 4) (q0 := 0) rfl rfl, fun U hU hW => ⟨rfl, by rw [hU], by rw [hU]; exact hPc, va_K.moved hW.alike hKc, hDc.weaken (fun _ _ _ _ => trivial)⟩⟩ rfl rfl hl.1 rfl (lv_room (Nat.le_of_ble_eq_true rfl)) dX5_code_121 ⟨Nat.zero_le _, Nat.zero_le _⟩) hS (fun q _ h => hFc q h) hFc (fun uU tS H1 locs ht9 hvm9 hw9 hB9 hz1 hk1 hS => ?_)
            obtain ⟨hP1, hK1, hD1⟩ := hB9
            rw [ht9] at hP1
            have hK1 := va_K.moved hvm9.symm hK1
            obtain ⟨hP, hD⟩ := va_join (wr := [(qmh, .inl (cyI, 460, .inl Hd))]) (w1 := [(qm, .inr (4, [.ref qmd, .ref qmt, .int (nI n), .int (bI on), .int lf, .int (nI dn), .int pl, .ref qml, .int (nI k), .ref qmk, .int (nI (mz + 1)), .ref qmh, .int (nI nh), .int th, .ref qmw])), (qmk, .inl (cyI, 460, .inl (upd M mz (nI (((zB Hd nh i).1) - 1)))))]) hP hD [0, 1] [2] rfl rfl (by decide) (by decide) hk1 hFc hP1 hD1
            generalize H1 = H at hP hS ⊢
            have hP : va_P (dC, dI) vwCl [(qmh, .inl (cyI, 460, .inl Hd)), (qm, .inr (4, [.ref qmd, .ref qmt, .int (nI n), .int (bI on), .int lf, .int (nI dn), .int pl, .ref qml, .int (nI k), .ref qmk, .int (nI (mz + 1)), .ref qmh, .int (nI nh), .int th, .ref qmw])), (qmk, .inl (cyI, 460, .inl (upd M mz (nI (((zB Hd nh i).1) - 1)))))] H := hP
            have hD : va_D A [(qmh, .inl (cyI, 460, .inl Hd)), (qm, .inr (4, [.ref qmd, .ref qmt, .int (nI n), .int (bI on), .int lf, .int (nI dn), .int pl, .ref qml, .int (nI k), .ref qmk, .int (nI (mz + 1)), .ref qmh, .int (nI nh), .int th, .ref qmw])), (qmk, .inl (cyI, 460, .inl (upd M mz (nI (((zB Hd nh i).1) - 1)))))] := hD
            refine lv_aload_n hx hb dX5_code_124 rfl (lv_at hl 0 rfl) ?_
            refine lv_iload hx hb dX5_code_125 (lv_at hl 4 rfl) ?_
            refine lv_iconst (v := nI 3) hx hb dX5_code_127 (by decide) ?_
            refine lv_isub hx hb dX5_code_128 ?_
            refine zz_top (pk_sub (a := (zB Hd nh i).2) (b := 3) (by omega)) ?_
            have hPc := hP.sub (ws' := [(qm, .inr (4, [.ref qmd, .ref qmt, .int (nI n), .int (bI on), .int lf, .int (nI dn), .int pl, .ref qml, .int (nI k), .ref qmk, .int (nI (mz + 1)), .ref qmh, .int (nI nh), .int th, .ref qmw])), (qmk, .inl (cyI, 460, .inl (upd M mz (nI (((zB Hd nh i).1) - 1)))))]) [1, 2] rfl
            have hKc := hK.sub (tys' := [(cyI, .int), (cyZ, .boolean)]) [0, 1] rfl
            have hDc := hD.sub (ws' := [(qm, .inr (4, [.ref qmd, .ref qmt, .int (nI n), .int (bI on), .int lf, .int (nI dn), .int pl, .ref qml, .int (nI k), .ref qmk, .int (nI (mz + 1)), .ref qmh, .int (nI nh), .int th, .ref qmw])), (qmk, .inl (cyI, 460, .inl (upd M mz (nI (((zB Hd nh i).1) - 1)))))]) [1, 2] (by decide) rfl
            have hFc := va_free (wc := [(qm, .inr (4, [.ref qmd, .ref qmt, .int (nI n), .int (bI on), .int lf, .int (nI dn), .int pl, .ref qml, .int (nI k), .ref qmk, .int (nI (mz + 1)), .ref qmh, .int (nI nh), .int th, .ref qmw])), (qmk, .inl (cyI, 460, .inl (upd M mz (nI (((zB Hd nh i).1) - 1)))))]) hD hS hA [1, 2] rfl
            refine va_callv (va_runV (As := [.int (nI (((zB Hd nh i).2) - 3))]) (rest := []) ⟨hx, hb, hml, hown, hts⟩ (c_X5_put l dC dI cyI cyZ qm qmk qmd qmt qml qmh qmw H.size n on lf dn pl k (mz + 1) nh th (upd M mz (nI (((zB Hd nh i).1) - 1))) (nI (((zB Hd nh i).2) - 3)) (by omega)) (cwV 1 hts gX5_code_X5_put rfl rfl rfl (by decide +kernel) ⟨Nat.le_of_ble_eq_true rfl, Nat.le_of_ble_eq_true rfl⟩) ⟨zz_blW, va_recv hKc hPc (ci := 4) (q0 := 0) rfl rfl, fun U hU hW => ⟨rfl, by rw [hU], by rw [hU]; exact hPc, va_K.moved hW.alike hKc, hDc.weaken (fun _ _ _ _ => trivial)⟩⟩ rfl rfl hl.1 rfl (lv_room (Nat.le_of_ble_eq_true rfl)) dX5_code_129 ⟨Nat.zero_le _, Nat.zero_le _⟩) hS (fun q _ h => hFc q h) hFc (fun uU tS H1 locs ht9 hvm9 hw9 hB9 hz1 hk1 hS => ?_)
            obtain ⟨hP1, hK1, hD1⟩ := hB9
            rw [ht9] at hP1
            have hK1 := va_K.moved hvm9.symm hK1
            obtain ⟨hP, hD⟩ := va_join (wr := [(qmh, .inl (cyI, 460, .inl Hd))]) (w1 := [(qm, .inr (4, [.ref qmd, .ref qmt, .int (nI n), .int (bI on), .int lf, .int (nI dn), .int pl, .ref qml, .int (nI k), .ref qmk, .int (nI ((mz + 1) + 1)), .ref qmh, .int (nI nh), .int th, .ref qmw])), (qmk, .inl (cyI, 460, .inl (upd (upd M mz (nI (((zB Hd nh i).1) - 1))) (mz + 1) (nI (((zB Hd nh i).2) - 3)))))]) hP hD [1, 2] [0] rfl rfl (by decide) (by decide) hk1 hFc hP1 hD1
            generalize H1 = H at hP hS ⊢
            have hP : va_P (dC, dI) vwCl [(qmh, .inl (cyI, 460, .inl Hd)), (qm, .inr (4, [.ref qmd, .ref qmt, .int (nI n), .int (bI on), .int lf, .int (nI dn), .int pl, .ref qml, .int (nI k), .ref qmk, .int (nI ((mz + 1) + 1)), .ref qmh, .int (nI nh), .int th, .ref qmw])), (qmk, .inl (cyI, 460, .inl (upd (upd M mz (nI (((zB Hd nh i).1) - 1))) (mz + 1) (nI (((zB Hd nh i).2) - 3)))))] H := hP
            have hD : va_D A [(qmh, .inl (cyI, 460, .inl Hd)), (qm, .inr (4, [.ref qmd, .ref qmt, .int (nI n), .int (bI on), .int lf, .int (nI dn), .int pl, .ref qml, .int (nI k), .ref qmk, .int (nI ((mz + 1) + 1)), .ref qmh, .int (nI nh), .int th, .ref qmw])), (qmk, .inl (cyI, 460, .inl (upd (upd M mz (nI (((zB Hd nh i).1) - 1))) (mz + 1) (nI (((zB Hd nh i).2) - 3)))))] := hD
            refine lv_iload_n hx hb dX5_code_132 rfl (lv_at hl 1 rfl) ?_
            refine lv_iload hx hb dX5_code_133 (lv_at hl 4 rfl) ?_
            refine lv_iadd hx hb dX5_code_135 ?_
            refine zz_top (nI_add i ((zB Hd nh i).2)) ?_
            refine lv_istore_n (lv' := [(1, .int (nI (i + ((zB Hd nh i).2)))), (0, .ref qm), (2, .int (nI b)), (3, .int (nI g)), (4, .int (nI ((zB Hd nh i).2))), (5, .int (nI ((zB Hd nh i).1))), (6, .int (nI (d + 1)))]) hx hb dX5_code_136 rfl hl (by decide) rfl (fun ls hl => ?_)
            refine lv_goto (tgt := 165) hx hb dX5_code_137 (by decide) ?_
            refine lv_iinc (v := nI (b + 1)) (lv' := [(2, .int (nI (b + 1))), (1, .int (nI (i + ((zB Hd nh i).2)))), (0, .ref qm), (3, .int (nI g)), (4, .int (nI ((zB Hd nh i).2))), (5, .int (nI ((zB Hd nh i).1))), (6, .int (nI (d + 1)))]) hx hb dX5_code_165 hl (k := 2) rfl (nI_add b 1) (by decide) rfl (fun ls hl => ?_)
            refine lv_goto (tgt := 12) hx hb dX5_code_168 (by decide) ?_
            skip
            have hP := hP.sub (ws' := [(qm, .inr (4, [.ref qmd, .ref qmt, .int (nI n), .int (bI on), .int lf, .int (nI dn), .int pl, .ref qml, .int (nI k), .ref qmk, .int (nI ((mz + 1) + 1)), .ref qmh, .int (nI nh), .int th, .ref qmw])), (qmk, .inl (cyI, 460, .inl (upd (upd M mz (nI (((zB Hd nh i).1) - 1))) (mz + 1) (nI (((zB Hd nh i).2) - 3))))), (qmh, .inl (cyI, 460, .inl Hd))]) [1, 2, 0] rfl
            have hD := hD.sub (ws' := [(qm, .inr (4, [.ref qmd, .ref qmt, .int (nI n), .int (bI on), .int lf, .int (nI dn), .int pl, .ref qml, .int (nI k), .ref qmk, .int (nI ((mz + 1) + 1)), .ref qmh, .int (nI nh), .int th, .ref qmw])), (qmk, .inl (cyI, 460, .inl (upd (upd M mz (nI (((zB Hd nh i).1) - 1))) (mz + 1) (nI (((zB Hd nh i).2) - 3))))), (qmh, .inl (cyI, 460, .inl Hd))]) [1, 2, 0] (by decide) rfl
            exact ih12 (i + ((zB Hd nh i).2), b + 1, g, c + 1, f9, upd (upd (o) (mz) (nI ((zB Hd nh i).1 - 1))) (mz + 1) (nI ((zB Hd nh i).2 - 3)), upd (upd M mz (nI (((zB Hd nh i).1) - 1))) (mz + 1) (nI (((zB Hd nh i).2) - 3)), (mz + 1) + 1) _ _ _ ⟨by omega, by omega, by omega, by omega, by omega, by omega, (eF_row1 hi9 hc9 c_113).symm.trans hE, upd_new (upd_new hF rfl) rfl, hP, hD, hS, lv_sub hl [2, 1, 0, 3] rfl⟩ (by first | omega | (dsimp only; omega))
        ·
          refine lv_aload_n hx hb dX5_code_61 rfl (lv_at hl 0 rfl) ?_
          refine lv_iload_n hx hb dX5_code_62 rfl (lv_at hl 1 rfl) ?_
          refine lv_iload_n hx hb dX5_code_63 rfl (lv_at hl 1 rfl) ?_
          refine lv_iload hx hb dX5_code_64 (lv_at hl 6 rfl) ?_
          refine lv_isub hx hb dX5_code_66 ?_
          refine zz_top (pk_sub (a := i) (b := d + 1) (by omega)) ?_
          have hPc := hP.sub (ws' := [(qm, .inr (4, [.ref qmd, .ref qmt, .int (nI n), .int (bI on), .int lf, .int (nI dn), .int pl, .ref qml, .int (nI k), .ref qmk, .int (nI mz), .ref qmh, .int (nI nh), .int th, .ref qmw])), (qmh, .inl (cyI, 460, .inl Hd))]) [0, 2] rfl
          have hKc := hK.sub (tys' := [(cyI, .int), (cyZ, .boolean)]) [0, 1] rfl
          refine vp_callSi (va_Run.run (va_runV (As := [.int (nI i), .int (nI (i - (d + 1)))]) (rest := []) ⟨hx, hb, hml, hown, hts⟩ (c_X5_alike l dC dI cyI cyZ qm qmh qmd qmt qml qmk qmw n on lf dn pl k mz nh th Hd i (d + 1) (by omega) (by omega) (by omega) (by omega)) (cwV 2 hts gX5_code_X5_alike rfl rfl rfl (by decide +kernel) ⟨Nat.le_of_ble_eq_true rfl, Nat.le_of_ble_eq_true rfl⟩) ⟨zz_blR, va_recv hKc hPc (ci := 4) (q0 := 0) rfl rfl, fun U hU hW => ⟨rfl, by rw [hU]; exact hPc, va_K.moved hW.alike hKc⟩⟩ rfl rfl hl.1 rfl (lv_room (Nat.le_of_ble_eq_true rfl)) dX5_code_67 ⟨Nat.zero_le _, Nat.zero_le _⟩)) (fun r_67 hr_67 => ?_)
          have hr_67 : nI (zRun Hd nh i (d + 1)) = r_67 := Eq.symm hr_67
          subst hr_67
          refine lv_istore (lv' := [(7, .int (nI (zRun Hd nh i (d + 1)))), (0, .ref qm), (1, .int (nI i)), (2, .int (nI b)), (3, .int (nI g)), (4, .int (nI ((zBst Hd nh i d).2))), (5, .int (nI ((zBst Hd nh i d).1))), (6, .int (nI (d + 1)))]) hx hb dX5_code_70 hl (by decide) rfl (fun ls hl => ?_)
          refine lv_iload hx hb dX5_code_72 (lv_at hl 0 rfl) ?_
          refine lv_iload hx hb dX5_code_74 (lv_at hl 5 rfl) ?_
          refine zn_icmp_le (tgt := 84) hx hb dX5_code_76 (by decide) (by omega) (by omega) (fun c_76 => ?_) (fun c_76 => ?_)
          ·
            refine lv_iload hx hb dX5_code_84 (lv_at hl 6 rfl) ?_
            refine lv_istore (lv' := [(5, .int (nI ((zBst Hd nh i d).1))), (7, .int (nI (zRun Hd nh i (d + 1)))), (0, .ref qm), (1, .int (nI i)), (2, .int (nI b)), (3, .int (nI g)), (4, .int (nI ((zBst Hd nh i d).2))), (6, .int (nI (d + 1)))]) hx hb dX5_code_86 hl (by decide) rfl (fun ls hl => ?_)
            refine lv_iload hx hb dX5_code_88 (lv_at hl 1 rfl) ?_
            refine lv_iload hx hb dX5_code_90 (lv_at hl 6 rfl) ?_
            refine zn_icmp_le (tgt := 100) hx hb dX5_code_92 (by decide) (by omega) (by omega) (fun c_92 => ?_) (fun c_92 => ?_)
            ·
              refine lv_iload hx hb dX5_code_100 (lv_at hl 6 rfl) ?_
              refine lv_istore (lv' := [(4, .int (nI ((zBst Hd nh i d).2))), (5, .int (nI ((zBst Hd nh i d).1))), (7, .int (nI (zRun Hd nh i (d + 1)))), (0, .ref qm), (1, .int (nI i)), (2, .int (nI b)), (3, .int (nI g)), (6, .int (nI (d + 1)))]) hx hb dX5_code_102 hl (by decide) rfl (fun ls hl => ?_)
              refine lv_iinc (v := nI (d + 2)) (lv' := [(6, .int (nI (d + 2))), (4, .int (nI ((zBst Hd nh i d).2))), (5, .int (nI ((zBst Hd nh i d).1))), (7, .int (nI (zRun Hd nh i (d + 1)))), (0, .ref qm), (1, .int (nI i)), (2, .int (nI b)), (3, .int (nI g))]) hx hb dX5_code_104 hl (k := 7) rfl (nI_add (d + 1) 1) (by decide) rfl (fun ls hl => ?_)
              refine lv_goto (tgt := 47) hx hb dX5_code_107 (by decide) ?_
              -- local 4: .int (nI ((zBst Hd nh i d).2)) ~ .int (nI ((zBst Hd nh i (d + 1)).2))
              -- local 5: .int (nI ((zBst Hd nh i d).1)) ~ .int (nI ((zBst Hd nh i (d + 1)).1))
              -- local 6: .int (nI (d + 2)) ~ .int (nI ((d + 1) + 1))
              exact ih47 (d + 1) _ _ _ ⟨by omega, hP, hD, hS, lv_sub hl [4, 5, 6, 7, 1, 2, 0] (by rw [show zBst Hd nh i (d + 1) = zBst Hd nh i d from if_neg (by omega)]; rfl)⟩ (by first | omega | (dsimp only; omega))
            ·
              exfalso
              omega
          ·
            refine lv_iload hx hb dX5_code_79 (lv_at hl 7 rfl) ?_
            refine lv_goto (tgt := 86) hx hb dX5_code_81 (by decide) ?_
            refine lv_istore (lv' := [(5, .int (nI (d + 1))), (7, .int (nI (zRun Hd nh i (d + 1)))), (0, .ref qm), (1, .int (nI i)), (2, .int (nI b)), (3, .int (nI g)), (4, .int (nI ((zBst Hd nh i d).2))), (6, .int (nI (d + 1)))]) hx hb dX5_code_86 hl (by decide) rfl (fun ls hl => ?_)
            refine lv_iload hx hb dX5_code_88 (lv_at hl 1 rfl) ?_
            refine lv_iload hx hb dX5_code_90 (lv_at hl 6 rfl) ?_
            refine zn_icmp_le (tgt := 100) hx hb dX5_code_92 (by decide) (by omega) (by omega) (fun c_92 => ?_) (fun c_92 => ?_)
            ·
              exfalso
              omega
            ·
              refine lv_iload hx hb dX5_code_95 (lv_at hl 1 rfl) ?_
              refine lv_goto (tgt := 102) hx hb dX5_code_97 (by decide) ?_
              refine lv_istore (lv' := [(4, .int (nI (zRun Hd nh i (d + 1)))), (5, .int (nI (d + 1))), (7, .int (nI (zRun Hd nh i (d + 1)))), (0, .ref qm), (1, .int (nI i)), (2, .int (nI b)), (3, .int (nI g)), (6, .int (nI (d + 1)))]) hx hb dX5_code_102 hl (by decide) rfl (fun ls hl => ?_)
              refine lv_iinc (v := nI (d + 2)) (lv' := [(6, .int (nI (d + 2))), (4, .int (nI (zRun Hd nh i (d + 1)))), (5, .int (nI (d + 1))), (7, .int (nI (zRun Hd nh i (d + 1)))), (0, .ref qm), (1, .int (nI i)), (2, .int (nI b)), (3, .int (nI g))]) hx hb dX5_code_104 hl (k := 7) rfl (nI_add (d + 1) 1) (by decide) rfl (fun ls hl => ?_)
              refine lv_goto (tgt := 47) hx hb dX5_code_107 (by decide) ?_
              -- local 4: .int (nI (zRun Hd nh i (d + 1))) ~ .int (nI ((zBst Hd nh i (d + 1)).2))
              -- local 5: .int (nI (d + 1)) ~ .int (nI ((zBst Hd nh i (d + 1)).1))
              -- local 6: .int (nI (d + 2)) ~ .int (nI ((d + 1) + 1))
              exact ih47 (d + 1) _ _ _ ⟨by omega, hP, hD, hS, lv_sub hl [4, 5, 6, 7, 1, 2, 0] (by rw [show zBst Hd nh i (d + 1) = (d + 1, zRun Hd nh i (d + 1)) from if_pos c_76]; rfl)⟩ (by first | omega | (dsimp only; omega))
    ·
      have hc8 : c % 8 = 0 := by omega
      refine lv_aload_n hx hb dX5_code_26 rfl (lv_at hl 0 rfl) ?_
      refine va_get (D := (dC, dI)) (ci := 4) (v := .int (nI mz)) (C := RX5) (T := TX5) (N := 15) hx hb hts iwX5 hown hK hP 0 rfl rfl 10 (by decide) fk51 (fun _ h9 => h9) rfl dX5_code_27 ?_
      refine lv_istore_n (lv' := [(3, .int (nI mz)), (0, .ref qm), (1, .int (nI i)), (2, .int (nI b))]) hx hb dX5_code_30 rfl hl (by decide) rfl (fun ls hl => ?_)
      refine lv_aload_n hx hb dX5_code_31 rfl (lv_at hl 1 rfl) ?_
      refine lv_iconst (v := nI 0) hx hb dX5_code_32 (by decide) ?_
      have hPc := hP.sub (ws' := [(qm, .inr (4, [.ref qmd, .ref qmt, .int (nI n), .int (bI on), .int lf, .int (nI dn), .int pl, .ref qml, .int (nI k), .ref qmk, .int (nI mz), .ref qmh, .int (nI nh), .int th, .ref qmw])), (qmk, .inl (cyI, 460, .inl M))]) [0, 1] rfl
      have hKc := hK.sub (tys' := [(cyI, .int), (cyZ, .boolean)]) [0, 1] rfl
      have hDc := hD.sub (ws' := [(qm, .inr (4, [.ref qmd, .ref qmt, .int (nI n), .int (bI on), .int lf, .int (nI dn), .int pl, .ref qml, .int (nI k), .ref qmk, .int (nI mz), .ref qmh, .int (nI nh), .int th, .ref qmw])), (qmk, .inl (cyI, 460, .inl M))]) [0, 1] (by decide) rfl
      have hFc := va_free (wc := [(qm, .inr (4, [.ref qmd, .ref qmt, .int (nI n), .int (bI on), .int lf, .int (nI dn), .int pl, .ref qml, .int (nI k), .ref qmk, .int (nI mz), .ref qmh, .int (nI nh), .int th, .ref qmw])), (qmk, .inl (cyI, 460, .inl M))]) hD hS hA [0, 1] rfl
      refine va_callv (va_runV (As := [.int (nI 0)]) (rest := []) ⟨hx, hb, hml, hown, hts⟩ (c_X5_put l dC dI cyI cyZ qm qmk qmd qmt qml qmh qmw H.size n on lf dn pl k mz nh th M (nI 0) (by omega)) (cwV 1 hts gX5_code_X5_put rfl rfl rfl (by decide +kernel) ⟨Nat.le_of_ble_eq_true rfl, Nat.le_of_ble_eq_true rfl⟩) ⟨zz_blW, va_recv hKc hPc (ci := 4) (q0 := 0) rfl rfl, fun U hU hW => ⟨rfl, by rw [hU], by rw [hU]; exact hPc, va_K.moved hW.alike hKc, hDc.weaken (fun _ _ _ _ => trivial)⟩⟩ rfl rfl hl.1 rfl (lv_room (Nat.le_of_ble_eq_true rfl)) dX5_code_33 ⟨Nat.zero_le _, Nat.zero_le _⟩) hS (fun q _ h => hFc q h) hFc (fun uU tS H1 locs ht9 hvm9 hw9 hB9 hz1 hk1 hS => ?_)
      obtain ⟨hP1, hK1, hD1⟩ := hB9
      rw [ht9] at hP1
      have hK1 := va_K.moved hvm9.symm hK1
      obtain ⟨hP, hD⟩ := va_join (wr := [(qmh, .inl (cyI, 460, .inl Hd))]) (w1 := [(qm, .inr (4, [.ref qmd, .ref qmt, .int (nI n), .int (bI on), .int lf, .int (nI dn), .int pl, .ref qml, .int (nI k), .ref qmk, .int (nI (mz + 1)), .ref qmh, .int (nI nh), .int th, .ref qmw])), (qmk, .inl (cyI, 460, .inl (upd M mz (nI 0))))]) hP hD [0, 1] [2] rfl rfl (by decide) (by decide) hk1 hFc hP1 hD1
      generalize H1 = H at hP hS ⊢
      have hP : va_P (dC, dI) vwCl [(qmh, .inl (cyI, 460, .inl Hd)), (qm, .inr (4, [.ref qmd, .ref qmt, .int (nI n), .int (bI on), .int lf, .int (nI dn), .int pl, .ref qml, .int (nI k), .ref qmk, .int (nI (mz + 1)), .ref qmh, .int (nI nh), .int th, .ref qmw])), (qmk, .inl (cyI, 460, .inl (upd M mz (nI 0))))] H := hP
      have hD : va_D A [(qmh, .inl (cyI, 460, .inl Hd)), (qm, .inr (4, [.ref qmd, .ref qmt, .int (nI n), .int (bI on), .int lf, .int (nI dn), .int pl, .ref qml, .int (nI k), .ref qmk, .int (nI (mz + 1)), .ref qmh, .int (nI nh), .int th, .ref qmw])), (qmk, .inl (cyI, 460, .inl (upd M mz (nI 0))))] := hD
      refine lv_iconst (v := nI 0) hx hb dX5_code_36 (by decide) ?_
      refine lv_istore_n (lv' := [(2, .int (nI 0)), (3, .int (nI mz)), (0, .ref qm), (1, .int (nI i))]) hx hb dX5_code_37 rfl hl (by decide) rfl (fun ls hl => ?_)
      refine lv_iconst (v := nI 0) hx hb dX5_code_38 (by decide) ?_
      refine lv_istore (lv' := [(4, .int (nI 0)), (2, .int (nI 0)), (3, .int (nI mz)), (0, .ref qm), (1, .int (nI i))]) hx hb dX5_code_39 hl (by decide) rfl (fun ls hl => ?_)
      refine lv_iconst (v := nI 0) hx hb dX5_code_41 (by decide) ?_
      refine lv_istore (lv' := [(5, .int (nI 0)), (4, .int (nI 0)), (2, .int (nI 0)), (3, .int (nI mz)), (0, .ref qm), (1, .int (nI i))]) hx hb dX5_code_42 hl (by decide) rfl (fun ls hl => ?_)
      refine lv_iconst (v := nI 1) hx hb dX5_code_44 (by decide) ?_
      refine lv_istore (lv' := [(6, .int (nI 1)), (5, .int (nI 0)), (4, .int (nI 0)), (2, .int (nI 0)), (3, .int (nI mz)), (0, .ref qm), (1, .int (nI i))]) hx hb dX5_code_45 hl (by decide) rfl (fun ls hl => ?_)
      refine zz_loopW (pc := 47) (μ := fun (d : Nat) => 300 - d) (Inv := fun (d : Nat) (H : Heap) (locs : List Loc) (ls : Array Slot) => (d ≤ min 256 i) ∧ va_P (dC, dI) vwCl [(qmh, .inl (cyI, 460, .inl Hd)), (qm, .inr (4, [.ref qmd, .ref qmt, .int (nI n), .int (bI on), .int lf, .int (nI dn), .int pl, .ref qml, .int (nI k), .ref qmk, .int (nI (mz + 1)), .ref qmh, .int (nI nh), .int th, .ref qmw])), (qmk, .inl (cyI, 460, .inl (upd M mz (nI 0))))] H ∧ va_D A [(qmh, .inl (cyI, 460, .inl Hd)), (qm, .inr (4, [.ref qmd, .ref qmt, .int (nI n), .int (bI on), .int lf, .int (nI dn), .int pl, .ref qml, .int (nI k), .ref qmk, .int (nI (mz + 1)), .ref qmh, .int (nI nh), .int th, .ref qmw])), (qmk, .inl (cyI, 460, .inl (upd M mz (nI 0))))] ∧ va_S A sS.heap H locs ∧ lv_has ls 8 [(0, .ref qm), (1, .int (nI i)), (2, .int (nI 0)), (3, .int (nI mz)), (4, .int (nI ((zBst Hd nh i d).2))), (5, .int (nI ((zBst Hd nh i d).1))), (6, .int (nI (d + 1)))]) (x0 := (0)) ⟨by omega, hP, hD, hS, lv_sub hl [5, 6, 3, 4, 2, 1, 0] rfl⟩ ?_
      intro d H locs ls hI ih47
      obtain ⟨hd, hP, hD, hS, hl⟩ := hI
      have hl : lv_has ls 8 [(0, .ref qm), (1, .int (nI i)), (2, .int (nI 0)), (3, .int (nI mz)), (4, .int (nI ((zBst Hd nh i d).2))), (5, .int (nI ((zBst Hd nh i d).1))), (6, .int (nI (d + 1)))] := hl
      have hP : va_P (dC, dI) vwCl [(qmh, .inl (cyI, 460, .inl Hd)), (qm, .inr (4, [.ref qmd, .ref qmt, .int (nI n), .int (bI on), .int lf, .int (nI dn), .int pl, .ref qml, .int (nI k), .ref qmk, .int (nI (mz + 1)), .ref qmh, .int (nI nh), .int th, .ref qmw])), (qmk, .inl (cyI, 460, .inl (upd M mz (nI 0))))] H := hP
      have hD : va_D A [(qmh, .inl (cyI, 460, .inl Hd)), (qm, .inr (4, [.ref qmd, .ref qmt, .int (nI n), .int (bI on), .int lf, .int (nI dn), .int pl, .ref qml, .int (nI k), .ref qmk, .int (nI (mz + 1)), .ref qmh, .int (nI nh), .int th, .ref qmw])), (qmk, .inl (cyI, 460, .inl (upd M mz (nI 0))))] := hD
      have hd : d ≤ min 256 i := hd
      have hB2 : (zBst Hd nh i d).2 ≤ 258 := by have := (zBst_le Hd nh i d).1; have := zcap_le nh i; omega
      have hB1 : (zBst Hd nh i d).1 ≤ 256 := by have := (zBst_le Hd nh i d).2.1; omega
      have hru : zRun Hd nh i (d + 1) ≤ 258 := by have := zRun_le Hd nh i (d + 1); have := zcap_le nh i; omega
      refine lv_iload hx hb dX5_code_47 (lv_at hl 6 rfl) ?_
      refine lv_sipush (v := nI 256) hx hb dX5_code_49 (by decide) ?_
      refine zn_icmp_gt (tgt := 110) hx hb dX5_code_52 (by decide) (by omega) (by omega) (fun c_52 => ?_) (fun c_52 => ?_)
      ·
        have ed : d = min 256 i := by omega
        have eB : zBst Hd nh i d = zB Hd nh i := by rw [ed]; rfl
        obtain ⟨z1, z2, z3, z4⟩ := zB_in Hd nh i
        obtain ⟨zc1, zc2⟩ := zcap_le nh i
        rw [eB] at hl
        refine lv_iload hx hb dX5_code_110 (lv_at hl 4 rfl) ?_
        refine lv_iconst (v := nI 3) hx hb dX5_code_112 (by decide) ?_
        refine zn_icmp_lt (tgt := 140) hx hb dX5_code_113 (by decide) (by omega) (by omega) (fun c_113 => ?_) (fun c_113 => ?_)
        ·
          refine lv_aload_n hx hb dX5_code_140 rfl (lv_at hl 0 rfl) ?_
          refine va_get (D := (dC, dI)) (ci := 4) (v := .ref qmk) (C := RX5) (T := TX5) (N := 15) hx hb hts iwX5 hown hK hP 1 rfl rfl 9 (by decide) fk30 (fun _ h9 => h9) rfl dX5_code_141 ?_
          refine lv_iload_n hx hb dX5_code_144 rfl (lv_at hl 3 rfl) ?_
          refine lv_dup2_11 hx hb dX5_code_145 rfl rfl ?_
          refine va_iald hx hb hK hP 2 0 rfl rfl (vp_in_nI (n := mz) (by omega) (by decide)) dX5_code_146 ?_
          refine zz_top (congrArg (upd M mz (nI 0)) (nI_clamp (n := mz) (by omega))) ?_
          refine lv_iconst (v := nI 1) hx hb dX5_code_147 (by decide) ?_
          refine lv_iload_n hx hb dX5_code_148 rfl (lv_at hl 2 rfl) ?_
          refine lv_ishl hx hb dX5_code_149 ?_
          refine lv_ior hx hb dX5_code_150 ?_
          refine va_iast hx hb hK hP hD hS 2 0 rfl rfl (vp_in_nI (n := mz) (by omega) (by decide)) dX5_code_151 (fun H locs hP hD hS => ?_)
          rw [nI_clamp (n := mz) (by omega)] at hP hD
          have hP : va_P (dC, dI) vwCl [(qmh, .inl (cyI, 460, .inl Hd)), (qm, .inr (4, [.ref qmd, .ref qmt, .int (nI n), .int (bI on), .int lf, .int (nI dn), .int pl, .ref qml, .int (nI k), .ref qmk, .int (nI (mz + 1)), .ref qmh, .int (nI nh), .int th, .ref qmw])), (qmk, .inl (cyI, 460, .inl (upd (upd M mz (nI 0)) mz (((upd M mz (nI 0)) mz) ||| ((nI 1) <<< ((nI 0) &&& 31))))))] H := hP
          have hD : va_D A [(qmh, .inl (cyI, 460, .inl Hd)), (qm, .inr (4, [.ref qmd, .ref qmt, .int (nI n), .int (bI on), .int lf, .int (nI dn), .int pl, .ref qml, .int (nI k), .ref qmk, .int (nI (mz + 1)), .ref qmh, .int (nI nh), .int th, .ref qmw])), (qmk, .inl (cyI, 460, .inl (upd (upd M mz (nI 0)) mz (((upd M mz (nI 0)) mz) ||| ((nI 1) <<< ((nI 0) &&& 31))))))] := hD
          refine lv_aload_n hx hb dX5_code_152 rfl (lv_at hl 0 rfl) ?_
          refine lv_aload_n hx hb dX5_code_153 rfl (lv_at hl 0 rfl) ?_
          refine va_get (D := (dC, dI)) (ci := 4) (v := .ref qmh) (C := RX5) (T := TX5) (N := 15) hx hb hts iwX5 hown hK hP 1 rfl rfl 11 (by decide) fk33 (fun _ h9 => h9) rfl dX5_code_154 ?_
          refine lv_iload_n hx hb dX5_code_157 rfl (lv_at hl 1 rfl) ?_
          refine va_iald hx hb hK hP 0 0 rfl rfl (vp_in_nI (n := i) (by omega) (by decide)) dX5_code_158 ?_
          refine zz_top (congrArg Hd (nI_clamp (n := i) (by omega))) ?_
          have hPc := hP.sub (ws' := [(qm, .inr (4, [.ref qmd, .ref qmt, .int (nI n), .int (bI on), .int lf, .int (nI dn), .int pl, .ref qml, .int (nI k), .ref qmk, .int (nI (mz + 1)), .ref qmh, .int (nI nh), .int th, .ref qmw])), (qmk, .inl (cyI, 460, .inl (upd (upd M mz (nI 0)) mz (((upd M mz (nI 0)) mz) ||| ((nI 1) <<< ((nI 0) &&& 31))))))]) [1, 2] rfl
          have hKc := hK.sub (tys' := [(cyI, .int), (cyZ, .boolean)]) [0, 1] rfl
          have hDc := hD.sub (ws' := [(qm, .inr (4, [.ref qmd, .ref qmt, .int (nI n), .int (bI on), .int lf, .int (nI dn), .int pl, .ref qml, .int (nI k), .ref qmk, .int (nI (mz + 1)), .ref qmh, .int (nI nh), .int th, .ref qmw])), (qmk, .inl (cyI, 460, .inl (upd (upd M mz (nI 0)) mz (((upd M mz (nI 0)) mz) ||| ((nI 1) <<< ((nI 0) &&& 31))))))]) [1, 2] (by decide) rfl
          have hFc := va_free (wc := [(qm, .inr (4, [.ref qmd, .ref qmt, .int (nI n), .int (bI on), .int lf, .int (nI dn), .int pl, .ref qml, .int (nI k), .ref qmk, .int (nI (mz + 1)), .ref qmh, .int (nI nh), .int th, .ref qmw])), (qmk, .inl (cyI, 460, .inl (upd (upd M mz (nI 0)) mz (((upd M mz (nI 0)) mz) ||| ((nI 1) <<< ((nI 0) &&& 31))))))]) hD hS hA [1, 2] rfl
          refine va_callv (va_runV (As := [.int (Hd i)]) (rest := []) ⟨hx, hb, hml, hown, hts⟩ (c_X5_put l dC dI cyI cyZ qm qmk qmd qmt qml qmh qmw H.size n on lf dn pl k (mz + 1) nh th (upd (upd M mz (nI 0)) mz (((upd M mz (nI 0)) mz) ||| ((nI 1) <<< ((nI 0) &&& 31)))) (Hd i) (by omega)) (cwV 1 hts gX5_code_X5_put rfl rfl rfl (by decide +kernel) ⟨Nat.le_of_ble_eq_true rfl, Nat.le_of_ble_eq_true rfl⟩) ⟨zz_blW, va_recv hKc hPc (ci := 4) (q0 := 0) rfl rfl, fun U hU hW => ⟨rfl, by rw [hU], by rw [hU]; exact hPc, va_K.moved hW.alike hKc, hDc.weaken (fun _ _ _ _ => trivial)⟩⟩ rfl rfl hl.1 rfl (lv_room (Nat.le_of_ble_eq_true rfl)) dX5_code_159 ⟨Nat.zero_le _, Nat.zero_le _⟩) hS (fun q _ h => hFc q h) hFc (fun uU tS H1 locs ht9 hvm9 hw9 hB9 hz1 hk1 hS => ?_)
          obtain ⟨hP1, hK1, hD1⟩ := hB9
          rw [ht9] at hP1
          have hK1 := va_K.moved hvm9.symm hK1
          obtain ⟨hP, hD⟩ := va_join (wr := [(qmh, .inl (cyI, 460, .inl Hd))]) (w1 := [(qm, .inr (4, [.ref qmd, .ref qmt, .int (nI n), .int (bI on), .int lf, .int (nI dn), .int pl, .ref qml, .int (nI k), .ref qmk, .int (nI ((mz + 1) + 1)), .ref qmh, .int (nI nh), .int th, .ref qmw])), (qmk, .inl (cyI, 460, .inl (upd (upd (upd M mz (nI 0)) mz (((upd M mz (nI 0)) mz) ||| ((nI 1) <<< ((nI 0) &&& 31)))) (mz + 1) (Hd i))))]) hP hD [1, 2] [0] rfl rfl (by decide) (by decide) hk1 hFc hP1 hD1
          generalize H1 = H at hP hS ⊢
          have hP : va_P (dC, dI) vwCl [(qmh, .inl (cyI, 460, .inl Hd)), (qm, .inr (4, [.ref qmd, .ref qmt, .int (nI n), .int (bI on), .int lf, .int (nI dn), .int pl, .ref qml, .int (nI k), .ref qmk, .int (nI ((mz + 1) + 1)), .ref qmh, .int (nI nh), .int th, .ref qmw])), (qmk, .inl (cyI, 460, .inl (upd (upd (upd M mz (nI 0)) mz (((upd M mz (nI 0)) mz) ||| ((nI 1) <<< ((nI 0) &&& 31)))) (mz + 1) (Hd i))))] H := hP
          have hD : va_D A [(qmh, .inl (cyI, 460, .inl Hd)), (qm, .inr (4, [.ref qmd, .ref qmt, .int (nI n), .int (bI on), .int lf, .int (nI dn), .int pl, .ref qml, .int (nI k), .ref qmk, .int (nI ((mz + 1) + 1)), .ref qmh, .int (nI nh), .int th, .ref qmw])), (qmk, .inl (cyI, 460, .inl (upd (upd (upd M mz (nI 0)) mz (((upd M mz (nI 0)) mz) ||| ((nI 1) <<< ((nI 0) &&& 31)))) (mz + 1) (Hd i))))] := hD
          refine lv_iinc (v := nI (i + 1)) (lv' := [(1, .int (nI (i + 1))), (0, .ref qm), (2, .int (nI 0)), (3, .int (nI mz)), (4, .int (nI ((zB Hd nh i).2))), (5, .int (nI ((zB Hd nh i).1))), (6, .int (nI (d + 1)))]) hx hb dX5_code_162 hl (k := 1) rfl (nI_add i 1) (by decide) rfl (fun ls hl => ?_)
          refine lv_iinc (v := nI 1) (lv' := [(2, .int (nI 1)), (1, .int (nI (i + 1))), (0, .ref qm), (3, .int (nI mz)), (4, .int (nI ((zB Hd nh i).2))), (5, .int (nI ((zB Hd nh i).1))), (6, .int (nI (d + 1)))]) hx hb dX5_code_165 hl (k := 2) rfl (nI_add 0 1) (by decide) rfl (fun ls hl => ?_)
          refine lv_goto (tgt := 12) hx hb dX5_code_168 (by decide) ?_
          skip
          have hP := hP.sub (ws' := [(qm, .inr (4, [.ref qmd, .ref qmt, .int (nI n), .int (bI on), .int lf, .int (nI dn), .int pl, .ref qml, .int (nI k), .ref qmk, .int (nI ((mz + 1) + 1)), .ref qmh, .int (nI nh), .int th, .ref qmw])), (qmk, .inl (cyI, 460, .inl (upd (upd (upd M mz (nI 0)) mz (((upd M mz (nI 0)) mz) ||| ((nI 1) <<< ((nI 0) &&& 31)))) (mz + 1) (Hd i)))), (qmh, .inl (cyI, 460, .inl Hd))]) [1, 2, 0] rfl
          have hD := hD.sub (ws' := [(qm, .inr (4, [.ref qmd, .ref qmt, .int (nI n), .int (bI on), .int lf, .int (nI dn), .int pl, .ref qml, .int (nI k), .ref qmk, .int (nI ((mz + 1) + 1)), .ref qmh, .int (nI nh), .int th, .ref qmw])), (qmk, .inl (cyI, 460, .inl (upd (upd (upd M mz (nI 0)) mz (((upd M mz (nI 0)) mz) ||| ((nI 1) <<< ((nI 0) &&& 31)))) (mz + 1) (Hd i)))), (qmh, .inl (cyI, 460, .inl Hd))]) [1, 2, 0] (by decide) rfl
          exact ih12 (i + 1, 1, mz, c + 1, f9, upd (upd (upd o mz (nI 0)) mz ((upd o mz (nI 0)) mz ||| (nI 1 <<< (nI (c % 8) &&& 31)))) (mz + 1) (Hd i), upd (upd (upd M mz (nI 0)) mz (((upd M mz (nI 0)) mz) ||| ((nI 1) <<< ((nI 0) &&& 31)))) (mz + 1) (Hd i), (mz + 1) + 1) _ _ _ ⟨by omega, by omega, by omega, by omega, by omega, by omega, (eF_one0 hi9 hc8 (Nat.not_le.mpr c_113)).symm.trans hE, upd_new (upd_cong (upd_new hF rfl) (by rw [(upd_new hF rfl) mz (by omega), show c % 8 = 0 by omega])) rfl, hP, hD, hS, lv_sub hl [2, 1, 0, 3] rfl⟩ (by first | omega | (dsimp only; omega))
        ·
          have z5 := z4 (by omega)
          refine lv_aload_n hx hb dX5_code_116 rfl (lv_at hl 0 rfl) ?_
          refine lv_iload hx hb dX5_code_117 (lv_at hl 5 rfl) ?_
          refine lv_iconst (v := nI 1) hx hb dX5_code_119 (by decide) ?_
          refine lv_isub hx hb dX5_code_120 ?_
          refine zz_top (pk_sub (a := (zB Hd nh i).1) (b := 1) (by omega)) ?_
          have hPc := hP.sub (ws' := [(qm, .inr (4, [.ref qmd, .ref qmt, .int (nI n), .int (bI on), .int lf, .int (nI dn), .int pl, .ref qml, .int (nI k), .ref qmk, .int (nI (mz + 1)), .ref qmh, .int (nI nh), .int th, .ref qmw])), (qmk, .inl (cyI, 460, .inl (upd M mz (nI 0))))]) [1, 2] rfl
          have hKc := hK.sub (tys' := [(cyI, .int), (cyZ, .boolean)]) [0, 1] rfl
          have hDc := hD.sub (ws' := [(qm, .inr (4, [.ref qmd, .ref qmt, .int (nI n), .int (bI on), .int lf, .int (nI dn), .int pl, .ref qml, .int (nI k), .ref qmk, .int (nI (mz + 1)), .ref qmh, .int (nI nh), .int th, .ref qmw])), (qmk, .inl (cyI, 460, .inl (upd M mz (nI 0))))]) [1, 2] (by decide) rfl
          have hFc := va_free (wc := [(qm, .inr (4, [.ref qmd, .ref qmt, .int (nI n), .int (bI on), .int lf, .int (nI dn), .int pl, .ref qml, .int (nI k), .ref qmk, .int (nI (mz + 1)), .ref qmh, .int (nI nh), .int th, .ref qmw])), (qmk, .inl (cyI, 460, .inl (upd M mz (nI 0))))]) hD hS hA [1, 2] rfl
          refine va_callv (va_runV (As := [.int (nI (((zB Hd nh i).1) - 1))]) (rest := []) ⟨hx, hb, hml, hown, hts⟩ (c_X5_put l dC dI cyI cyZ qm qmk qmd qmt qml qmh qmw H.size n on lf dn pl k (mz + 1) nh th (upd M mz (nI 0)) (nI (((zB Hd nh i).1) - 1)) (by omega)) (cwV 1 hts gX5_code_X5_put rfl rfl rfl (by decide +kernel) ⟨Nat.le_of_ble_eq_true rfl, Nat.le_of_ble_eq_true rfl⟩) ⟨zz_blW, va_recv hKc hPc (ci := 4) (q0 := 0) rfl rfl, fun U hU hW => ⟨rfl, by rw [hU], by rw [hU]; exact hPc, va_K.moved hW.alike hKc, hDc.weaken (fun _ _ _ _ => trivial)⟩⟩ rfl rfl hl.1 rfl (lv_room (Nat.le_of_ble_eq_true rfl)) dX5_code_121 ⟨Nat.zero_le _, Nat.zero_le _⟩) hS (fun q _ h => hFc q h) hFc (fun uU tS H1 locs ht9 hvm9 hw9 hB9 hz1 hk1 hS => ?_)
          obtain ⟨hP1, hK1, hD1⟩ := hB9
          rw [ht9] at hP1
          have hK1 := va_K.moved hvm9.symm hK1
          obtain ⟨hP, hD⟩ := va_join (wr := [(qmh, .inl (cyI, 460, .inl Hd))]) (w1 := [(qm, .inr (4, [.ref qmd, .ref qmt, .int (nI n), .int (bI on), .int lf, .int (nI dn), .int pl, .ref qml, .int (nI k), .ref qmk, .int (nI ((mz + 1) + 1)), .ref qmh, .int (nI nh), .int th, .ref qmw])), (qmk, .inl (cyI, 460, .inl (upd (upd M mz (nI 0)) (mz + 1) (nI (((zB Hd nh i).1) - 1)))))]) hP hD [1, 2] [0] rfl rfl (by decide) (by decide) hk1 hFc hP1 hD1
          generalize H1 = H at hP hS ⊢
          have hP : va_P (dC, dI) vwCl [(qmh, .inl (cyI, 460, .inl Hd)), (qm, .inr (4, [.ref qmd, .ref qmt, .int (nI n), .int (bI on), .int lf, .int (nI dn), .int pl, .ref qml, .int (nI k), .ref qmk, .int (nI ((mz + 1) + 1)), .ref qmh, .int (nI nh), .int th, .ref qmw])), (qmk, .inl (cyI, 460, .inl (upd (upd M mz (nI 0)) (mz + 1) (nI (((zB Hd nh i).1) - 1)))))] H := hP
          have hD : va_D A [(qmh, .inl (cyI, 460, .inl Hd)), (qm, .inr (4, [.ref qmd, .ref qmt, .int (nI n), .int (bI on), .int lf, .int (nI dn), .int pl, .ref qml, .int (nI k), .ref qmk, .int (nI ((mz + 1) + 1)), .ref qmh, .int (nI nh), .int th, .ref qmw])), (qmk, .inl (cyI, 460, .inl (upd (upd M mz (nI 0)) (mz + 1) (nI (((zB Hd nh i).1) - 1)))))] := hD
          refine lv_aload_n hx hb dX5_code_124 rfl (lv_at hl 0 rfl) ?_
          refine lv_iload hx hb dX5_code_125 (lv_at hl 4 rfl) ?_
          refine lv_iconst (v := nI 3) hx hb dX5_code_127 (by decide) ?_
          refine lv_isub hx hb dX5_code_128 ?_
          refine zz_top (pk_sub (a := (zB Hd nh i).2) (b := 3) (by omega)) ?_
          have hPc := hP.sub (ws' := [(qm, .inr (4, [.ref qmd, .ref qmt, .int (nI n), .int (bI on), .int lf, .int (nI dn), .int pl, .ref qml, .int (nI k), .ref qmk, .int (nI ((mz + 1) + 1)), .ref qmh, .int (nI nh), .int th, .ref qmw])), (qmk, .inl (cyI, 460, .inl (upd (upd M mz (nI 0)) (mz + 1) (nI (((zB Hd nh i).1) - 1)))))]) [1, 2] rfl
          have hKc := hK.sub (tys' := [(cyI, .int), (cyZ, .boolean)]) [0, 1] rfl
          have hDc := hD.sub (ws' := [(qm, .inr (4, [.ref qmd, .ref qmt, .int (nI n), .int (bI on), .int lf, .int (nI dn), .int pl, .ref qml, .int (nI k), .ref qmk, .int (nI ((mz + 1) + 1)), .ref qmh, .int (nI nh), .int th, .ref qmw])), (qmk, .inl (cyI, 460, .inl (upd (upd M mz (nI 0)) (mz + 1) (nI (((zB Hd nh i).1) - 1)))))]) [1, 2] (by decide) rfl
          have hFc := va_free (wc := [(qm, .inr (4, [.ref qmd, .ref qmt, .int (nI n), .int (bI on), .int lf, .int (nI dn), .int pl, .ref qml, .int (nI k), .ref qmk, .int (nI ((mz + 1) + 1)), .ref qmh, .int (nI nh), .int th, .ref qmw])), (qmk, .inl (cyI, 460, .inl (upd (upd M mz (nI 0)) (mz + 1) (nI (((zB Hd nh i).1) - 1)))))]) hD hS hA [1, 2] rfl
          refine va_callv (va_runV (As := [.int (nI (((zB Hd nh i).2) - 3))]) (rest := []) ⟨hx, hb, hml, hown, hts⟩ (c_X5_put l dC dI cyI cyZ qm qmk qmd qmt qml qmh qmw H.size n on lf dn pl k ((mz + 1) + 1) nh th (upd (upd M mz (nI 0)) (mz + 1) (nI (((zB Hd nh i).1) - 1))) (nI (((zB Hd nh i).2) - 3)) (by omega)) (cwV 1 hts gX5_code_X5_put rfl rfl rfl (by decide +kernel) ⟨Nat.le_of_ble_eq_true rfl, Nat.le_of_ble_eq_true rfl⟩) ⟨zz_blW, va_recv hKc hPc (ci := 4) (q0 := 0) rfl rfl, fun U hU hW => ⟨rfl, by rw [hU], by rw [hU]; exact hPc, va_K.moved hW.alike hKc, hDc.weaken (fun _ _ _ _ => trivial)⟩⟩ rfl rfl hl.1 rfl (lv_room (Nat.le_of_ble_eq_true rfl)) dX5_code_129 ⟨Nat.zero_le _, Nat.zero_le _⟩) hS (fun q _ h => hFc q h) hFc (fun uU tS H1 locs ht9 hvm9 hw9 hB9 hz1 hk1 hS => ?_)
          obtain ⟨hP1, hK1, hD1⟩ := hB9
          rw [ht9] at hP1
          have hK1 := va_K.moved hvm9.symm hK1
          obtain ⟨hP, hD⟩ := va_join (wr := [(qmh, .inl (cyI, 460, .inl Hd))]) (w1 := [(qm, .inr (4, [.ref qmd, .ref qmt, .int (nI n), .int (bI on), .int lf, .int (nI dn), .int pl, .ref qml, .int (nI k), .ref qmk, .int (nI (((mz + 1) + 1) + 1)), .ref qmh, .int (nI nh), .int th, .ref qmw])), (qmk, .inl (cyI, 460, .inl (upd (upd (upd M mz (nI 0)) (mz + 1) (nI (((zB Hd nh i).1) - 1))) ((mz + 1) + 1) (nI (((zB Hd nh i).2) - 3)))))]) hP hD [1, 2] [0] rfl rfl (by decide) (by decide) hk1 hFc hP1 hD1
          generalize H1 = H at hP hS ⊢
          have hP : va_P (dC, dI) vwCl [(qmh, .inl (cyI, 460, .inl Hd)), (qm, .inr (4, [.ref qmd, .ref qmt, .int (nI n), .int (bI on), .int lf, .int (nI dn), .int pl, .ref qml, .int (nI k), .ref qmk, .int (nI (((mz + 1) + 1) + 1)), .ref qmh, .int (nI nh), .int th, .ref qmw])), (qmk, .inl (cyI, 460, .inl (upd (upd (upd M mz (nI 0)) (mz + 1) (nI (((zB Hd nh i).1) - 1))) ((mz + 1) + 1) (nI (((zB Hd nh i).2) - 3)))))] H := hP
          have hD : va_D A [(qmh, .inl (cyI, 460, .inl Hd)), (qm, .inr (4, [.ref qmd, .ref qmt, .int (nI n), .int (bI on), .int lf, .int (nI dn), .int pl, .ref qml, .int (nI k), .ref qmk, .int (nI (((mz + 1) + 1) + 1)), .ref qmh, .int (nI nh), .int th, .ref qmw])), (qmk, .inl (cyI, 460, .inl (upd (upd (upd M mz (nI 0)) (mz + 1) (nI (((zB Hd nh i).1) - 1))) ((mz + 1) + 1) (nI (((zB Hd nh i).2) - 3)))))] := hD
          refine lv_iload_n hx hb dX5_code_132 rfl (lv_at hl 1 rfl) ?_
          refine lv_iload hx hb dX5_code_133 (lv_at hl 4 rfl) ?_
          refine lv_iadd hx hb dX5_code_135 ?_
          refine zz_top (nI_add i ((zB Hd nh i).2)) ?_
          refine lv_istore_n (lv' := [(1, .int (nI (i + ((zB Hd nh i).2)))), (0, .ref qm), (2, .int (nI 0)), (3, .int (nI mz)), (4, .int (nI ((zB Hd nh i).2))), (5, .int (nI ((zB Hd nh i).1))), (6, .int (nI (d + 1)))]) hx hb dX5_code_136 rfl hl (by decide) rfl (fun ls hl => ?_)
          refine lv_goto (tgt := 165) hx hb dX5_code_137 (by decide) ?_
          refine lv_iinc (v := nI 1) (lv' := [(2, .int (nI 1)), (1, .int (nI (i + ((zB Hd nh i).2)))), (0, .ref qm), (3, .int (nI mz)), (4, .int (nI ((zB Hd nh i).2))), (5, .int (nI ((zB Hd nh i).1))), (6, .int (nI (d + 1)))]) hx hb dX5_code_165 hl (k := 2) rfl (nI_add 0 1) (by decide) rfl (fun ls hl => ?_)
          refine lv_goto (tgt := 12) hx hb dX5_code_168 (by decide) ?_
          skip
          have hP := hP.sub (ws' := [(qm, .inr (4, [.ref qmd, .ref qmt, .int (nI n), .int (bI on), .int lf, .int (nI dn), .int pl, .ref qml, .int (nI k), .ref qmk, .int (nI (((mz + 1) + 1) + 1)), .ref qmh, .int (nI nh), .int th, .ref qmw])), (qmk, .inl (cyI, 460, .inl (upd (upd (upd M mz (nI 0)) (mz + 1) (nI (((zB Hd nh i).1) - 1))) ((mz + 1) + 1) (nI (((zB Hd nh i).2) - 3))))), (qmh, .inl (cyI, 460, .inl Hd))]) [1, 2, 0] rfl
          have hD := hD.sub (ws' := [(qm, .inr (4, [.ref qmd, .ref qmt, .int (nI n), .int (bI on), .int lf, .int (nI dn), .int pl, .ref qml, .int (nI k), .ref qmk, .int (nI (((mz + 1) + 1) + 1)), .ref qmh, .int (nI nh), .int th, .ref qmw])), (qmk, .inl (cyI, 460, .inl (upd (upd (upd M mz (nI 0)) (mz + 1) (nI (((zB Hd nh i).1) - 1))) ((mz + 1) + 1) (nI (((zB Hd nh i).2) - 3))))), (qmh, .inl (cyI, 460, .inl Hd))]) [1, 2, 0] (by decide) rfl
          exact ih12 (i + ((zB Hd nh i).2), 1, mz, c + 1, f9, upd (upd (upd o mz (nI 0)) (mz + 1) (nI ((zB Hd nh i).1 - 1))) (mz + 2) (nI ((zB Hd nh i).2 - 3)), upd (upd (upd M mz (nI 0)) (mz + 1) (nI (((zB Hd nh i).1) - 1))) ((mz + 1) + 1) (nI (((zB Hd nh i).2) - 3)), ((mz + 1) + 1) + 1) _ _ _ ⟨by omega, by omega, by omega, by omega, by omega, by omega, (eF_row0 hi9 hc8 c_113).symm.trans hE, upd_new (upd_new (upd_new hF rfl) rfl) rfl, hP, hD, hS, lv_sub hl [2, 1, 0, 3] rfl⟩ (by first | omega | (dsimp only; omega))
      ·
        refine lv_iload hx hb dX5_code_55 (lv_at hl 6 rfl) ?_
        refine lv_iload_n hx hb dX5_code_57 rfl (lv_at hl 1 rfl) ?_
        refine zn_icmp_gt (tgt := 110) hx hb dX5_code_58 (by decide) (by omega) (by omega) (fun c_58 => ?_) (fun c_58 => ?_)
        ·
          have ed : d = min 256 i := by omega
          have eB : zBst Hd nh i d = zB Hd nh i := by rw [ed]; rfl
          obtain ⟨z1, z2, z3, z4⟩ := zB_in Hd nh i
          obtain ⟨zc1, zc2⟩ := zcap_le nh i
          rw [eB] at hl
          refine lv_iload hx hb dX5_code_110 (lv_at hl 4 rfl) ?_
          refine lv_iconst (v := nI 3) hx hb dX5_code_112 (by decide) ?_
          refine zn_icmp_lt (tgt := 140) hx hb dX5_code_113 (by decide) (by omega) (by omega) (fun c_113 => ?_) (fun c_113 => ?_)
          ·
            refine lv_aload_n hx hb dX5_code_140 rfl (lv_at hl 0 rfl) ?_
            refine va_get (D := (dC, dI)) (ci := 4) (v := .ref qmk) (C := RX5) (T := TX5) (N := 15) hx hb hts iwX5 hown hK hP 1 rfl rfl 9 (by decide) fk30 (fun _ h9 => h9) rfl dX5_code_141 ?_
            refine lv_iload_n hx hb dX5_code_144 rfl (lv_at hl 3 rfl) ?_
            refine lv_dup2_11 hx hb dX5_code_145 rfl rfl ?_
            refine va_iald hx hb hK hP 2 0 rfl rfl (vp_in_nI (n := mz) (by omega) (by decide)) dX5_code_146 ?_
            refine zz_top (congrArg (upd M mz (nI 0)) (nI_clamp (n := mz) (by omega))) ?_
            refine lv_iconst (v := nI 1) hx hb dX5_code_147 (by decide) ?_
            refine lv_iload_n hx hb dX5_code_148 rfl (lv_at hl 2 rfl) ?_
            refine lv_ishl hx hb dX5_code_149 ?_
            refine lv_ior hx hb dX5_code_150 ?_
            refine va_iast hx hb hK hP hD hS 2 0 rfl rfl (vp_in_nI (n := mz) (by omega) (by decide)) dX5_code_151 (fun H locs hP hD hS => ?_)
            rw [nI_clamp (n := mz) (by omega)] at hP hD
            have hP : va_P (dC, dI) vwCl [(qmh, .inl (cyI, 460, .inl Hd)), (qm, .inr (4, [.ref qmd, .ref qmt, .int (nI n), .int (bI on), .int lf, .int (nI dn), .int pl, .ref qml, .int (nI k), .ref qmk, .int (nI (mz + 1)), .ref qmh, .int (nI nh), .int th, .ref qmw])), (qmk, .inl (cyI, 460, .inl (upd (upd M mz (nI 0)) mz (((upd M mz (nI 0)) mz) ||| ((nI 1) <<< ((nI 0) &&& 31))))))] H := hP
            have hD : va_D A [(qmh, .inl (cyI, 460, .inl Hd)), (qm, .inr (4, [.ref qmd, .ref qmt, .int (nI n), .int (bI on), .int lf, .int (nI dn), .int pl, .ref qml, .int (nI k), .ref qmk, .int (nI (mz + 1)), .ref qmh, .int (nI nh), .int th, .ref qmw])), (qmk, .inl (cyI, 460, .inl (upd (upd M mz (nI 0)) mz (((upd M mz (nI 0)) mz) ||| ((nI 1) <<< ((nI 0) &&& 31))))))] := hD
            refine lv_aload_n hx hb dX5_code_152 rfl (lv_at hl 0 rfl) ?_
            refine lv_aload_n hx hb dX5_code_153 rfl (lv_at hl 0 rfl) ?_
            refine va_get (D := (dC, dI)) (ci := 4) (v := .ref qmh) (C := RX5) (T := TX5) (N := 15) hx hb hts iwX5 hown hK hP 1 rfl rfl 11 (by decide) fk33 (fun _ h9 => h9) rfl dX5_code_154 ?_
            refine lv_iload_n hx hb dX5_code_157 rfl (lv_at hl 1 rfl) ?_
            refine va_iald hx hb hK hP 0 0 rfl rfl (vp_in_nI (n := i) (by omega) (by decide)) dX5_code_158 ?_
            refine zz_top (congrArg Hd (nI_clamp (n := i) (by omega))) ?_
            have hPc := hP.sub (ws' := [(qm, .inr (4, [.ref qmd, .ref qmt, .int (nI n), .int (bI on), .int lf, .int (nI dn), .int pl, .ref qml, .int (nI k), .ref qmk, .int (nI (mz + 1)), .ref qmh, .int (nI nh), .int th, .ref qmw])), (qmk, .inl (cyI, 460, .inl (upd (upd M mz (nI 0)) mz (((upd M mz (nI 0)) mz) ||| ((nI 1) <<< ((nI 0) &&& 31))))))]) [1, 2] rfl
            have hKc := hK.sub (tys' := [(cyI, .int), (cyZ, .boolean)]) [0, 1] rfl
            have hDc := hD.sub (ws' := [(qm, .inr (4, [.ref qmd, .ref qmt, .int (nI n), .int (bI on), .int lf, .int (nI dn), .int pl, .ref qml, .int (nI k), .ref qmk, .int (nI (mz + 1)), .ref qmh, .int (nI nh), .int th, .ref qmw])), (qmk, .inl (cyI, 460, .inl (upd (upd M mz (nI 0)) mz (((upd M mz (nI 0)) mz) ||| ((nI 1) <<< ((nI 0) &&& 31))))))]) [1, 2] (by decide) rfl
            have hFc := va_free (wc := [(qm, .inr (4, [.ref qmd, .ref qmt, .int (nI n), .int (bI on), .int lf, .int (nI dn), .int pl, .ref qml, .int (nI k), .ref qmk, .int (nI (mz + 1)), .ref qmh, .int (nI nh), .int th, .ref qmw])), (qmk, .inl (cyI, 460, .inl (upd (upd M mz (nI 0)) mz (((upd M mz (nI 0)) mz) ||| ((nI 1) <<< ((nI 0) &&& 31))))))]) hD hS hA [1, 2] rfl
            refine va_callv (va_runV (As := [.int (Hd i)]) (rest := []) ⟨hx, hb, hml, hown, hts⟩ (c_X5_put l dC dI cyI cyZ qm qmk qmd qmt qml qmh qmw H.size n on lf dn pl k (mz + 1) nh th (upd (upd M mz (nI 0)) mz (((upd M mz (nI 0)) mz) ||| ((nI 1) <<< ((nI 0) &&& 31)))) (Hd i) (by omega)) (cwV 1 hts gX5_code_X5_put rfl rfl rfl (by decide +kernel) ⟨Nat.le_of_ble_eq_true rfl, Nat.le_of_ble_eq_true rfl⟩) ⟨zz_blW, va_recv hKc hPc (ci := 4) (q0 := 0) rfl rfl, fun U hU hW => ⟨rfl, by rw [hU], by rw [hU]; exact hPc, va_K.moved hW.alike hKc, hDc.weaken (fun _ _ _ _ => trivial)⟩⟩ rfl rfl hl.1 rfl (lv_room (Nat.le_of_ble_eq_true rfl)) dX5_code_159 ⟨Nat.zero_le _, Nat.zero_le _⟩) hS (fun q _ h => hFc q h) hFc (fun uU tS H1 locs ht9 hvm9 hw9 hB9 hz1 hk1 hS => ?_)
            obtain ⟨hP1, hK1, hD1⟩ := hB9
            rw [ht9] at hP1
            have hK1 := va_K.moved hvm9.symm hK1
            obtain ⟨hP, hD⟩ := va_join (wr := [(qmh, .inl (cyI, 460, .inl Hd))]) (w1 := [(qm, .inr (4, [.ref qmd, .ref qmt, .int (nI n), .int (bI on), .int lf, .int (nI dn), .int pl, .ref qml, .int (nI k), .ref qmk, .int (nI ((mz + 1) + 1)), .ref qmh, .int (nI nh), .int th, .ref qmw])), (qmk, .inl (cyI, 460, .inl (upd (upd (upd M mz (nI 0)) mz (((upd M mz (nI 0)) mz) ||| ((nI 1) <<< ((nI 0) &&& 31)))) (mz + 1) (Hd i))))]) hP hD [1, 2] [0] rfl rfl (by decide) (by decide) hk1 hFc hP1 hD1
            generalize H1 = H at hP hS ⊢
            have hP : va_P (dC, dI) vwCl [(qmh, .inl (cyI, 460, .inl Hd)), (qm, .inr (4, [.ref qmd, .ref qmt, .int (nI n), .int (bI on), .int lf, .int (nI dn), .int pl, .ref qml, .int (nI k), .ref qmk, .int (nI ((mz + 1) + 1)), .ref qmh, .int (nI nh), .int th, .ref qmw])), (qmk, .inl (cyI, 460, .inl (upd (upd (upd M mz (nI 0)) mz (((upd M mz (nI 0)) mz) ||| ((nI 1) <<< ((nI 0) &&& 31)))) (mz + 1) (Hd i))))] H := hP
            have hD : va_D A [(qmh, .inl (cyI, 460, .inl Hd)), (qm, .inr (4, [.ref qmd, .ref qmt, .int (nI n), .int (bI on), .int lf, .int (nI dn), .int pl, .ref qml, .int (nI k), .ref qmk, .int (nI ((mz + 1) + 1)), .ref qmh, .int (nI nh), .int th, .ref qmw])), (qmk, .inl (cyI, 460, .inl (upd (upd (upd M mz (nI 0)) mz (((upd M mz (nI 0)) mz) ||| ((nI 1) <<< ((nI 0) &&& 31)))) (mz + 1) (Hd i))))] := hD
            refine lv_iinc (v := nI (i + 1)) (lv' := [(1, .int (nI (i + 1))), (0, .ref qm), (2, .int (nI 0)), (3, .int (nI mz)), (4, .int (nI ((zB Hd nh i).2))), (5, .int (nI ((zB Hd nh i).1))), (6, .int (nI (d + 1)))]) hx hb dX5_code_162 hl (k := 1) rfl (nI_add i 1) (by decide) rfl (fun ls hl => ?_)
            refine lv_iinc (v := nI 1) (lv' := [(2, .int (nI 1)), (1, .int (nI (i + 1))), (0, .ref qm), (3, .int (nI mz)), (4, .int (nI ((zB Hd nh i).2))), (5, .int (nI ((zB Hd nh i).1))), (6, .int (nI (d + 1)))]) hx hb dX5_code_165 hl (k := 2) rfl (nI_add 0 1) (by decide) rfl (fun ls hl => ?_)
            refine lv_goto (tgt := 12) hx hb dX5_code_168 (by decide) ?_
            skip
            have hP := hP.sub (ws' := [(qm, .inr (4, [.ref qmd, .ref qmt, .int (nI n), .int (bI on), .int lf, .int (nI dn), .int pl, .ref qml, .int (nI k), .ref qmk, .int (nI ((mz + 1) + 1)), .ref qmh, .int (nI nh), .int th, .ref qmw])), (qmk, .inl (cyI, 460, .inl (upd (upd (upd M mz (nI 0)) mz (((upd M mz (nI 0)) mz) ||| ((nI 1) <<< ((nI 0) &&& 31)))) (mz + 1) (Hd i)))), (qmh, .inl (cyI, 460, .inl Hd))]) [1, 2, 0] rfl
            have hD := hD.sub (ws' := [(qm, .inr (4, [.ref qmd, .ref qmt, .int (nI n), .int (bI on), .int lf, .int (nI dn), .int pl, .ref qml, .int (nI k), .ref qmk, .int (nI ((mz + 1) + 1)), .ref qmh, .int (nI nh), .int th, .ref qmw])), (qmk, .inl (cyI, 460, .inl (upd (upd (upd M mz (nI 0)) mz (((upd M mz (nI 0)) mz) ||| ((nI 1) <<< ((nI 0) &&& 31)))) (mz + 1) (Hd i)))), (qmh, .inl (cyI, 460, .inl Hd))]) [1, 2, 0] (by decide) rfl
            exact ih12 (i + 1, 1, mz, c + 1, f9, upd (upd (upd o mz (nI 0)) mz ((upd o mz (nI 0)) mz ||| (nI 1 <<< (nI (c % 8) &&& 31)))) (mz + 1) (Hd i), upd (upd (upd M mz (nI 0)) mz (((upd M mz (nI 0)) mz) ||| ((nI 1) <<< ((nI 0) &&& 31)))) (mz + 1) (Hd i), (mz + 1) + 1) _ _ _ ⟨by omega, by omega, by omega, by omega, by omega, by omega, (eF_one0 hi9 hc8 (Nat.not_le.mpr c_113)).symm.trans hE, upd_new (upd_cong (upd_new hF rfl) (by rw [(upd_new hF rfl) mz (by omega), show c % 8 = 0 by omega])) rfl, hP, hD, hS, lv_sub hl [2, 1, 0, 3] rfl⟩ (by first | omega | (dsimp only; omega))
          ·
            have z5 := z4 (by omega)
            refine lv_aload_n hx hb dX5_code_116 rfl (lv_at hl 0 rfl) ?_
            refine lv_iload hx hb dX5_code_117 (lv_at hl 5 rfl) ?_
            refine lv_iconst (v := nI 1) hx hb dX5_code_119 (by decide) ?_
            refine lv_isub hx hb dX5_code_120 ?_
            refine zz_top (pk_sub (a := (zB Hd nh i).1) (b := 1) (by omega)) ?_
            have hPc := hP.sub (ws' := [(qm, .inr (4, [.ref qmd, .ref qmt, .int (nI n), .int (bI on), .int lf, .int (nI dn), .int pl, .ref qml, .int (nI k), .ref qmk, .int (nI (mz + 1)), .ref qmh, .int (nI nh), .int th, .ref qmw])), (qmk, .inl (cyI, 460, .inl (upd M mz (nI 0))))]) [1, 2] rfl
            have hKc := hK.sub (tys' := [(cyI, .int), (cyZ, .boolean)]) [0, 1] rfl
            have hDc := hD.sub (ws' := [(qm, .inr (4, [.ref qmd, .ref qmt, .int (nI n), .int (bI on), .int lf, .int (nI dn), .int pl, .ref qml, .int (nI k), .ref qmk, .int (nI (mz + 1)), .ref qmh, .int (nI nh), .int th, .ref qmw])), (qmk, .inl (cyI, 460, .inl (upd M mz (nI 0))))]) [1, 2] (by decide) rfl
            have hFc := va_free (wc := [(qm, .inr (4, [.ref qmd, .ref qmt, .int (nI n), .int (bI on), .int lf, .int (nI dn), .int pl, .ref qml, .int (nI k), .ref qmk, .int (nI (mz + 1)), .ref qmh, .int (nI nh), .int th, .ref qmw])), (qmk, .inl (cyI, 460, .inl (upd M mz (nI 0))))]) hD hS hA [1, 2] rfl
            refine va_callv (va_runV (As := [.int (nI (((zB Hd nh i).1) - 1))]) (rest := []) ⟨hx, hb, hml, hown, hts⟩ (c_X5_put l dC dI cyI cyZ qm qmk qmd qmt qml qmh qmw H.size n on lf dn pl k (mz + 1) nh th (upd M mz (nI 0)) (nI (((zB Hd nh i).1) - 1)) (by omega)) (cwV 1 hts gX5_code_X5_put rfl rfl rfl (by decide +kernel) ⟨Nat.le_of_ble_eq_true rfl, Nat.le_of_ble_eq_true rfl⟩) ⟨zz_blW, va_recv hKc hPc (ci := 4) (q0 := 0) rfl rfl, fun U hU hW => ⟨rfl, by rw [hU], by rw [hU]; exact hPc, va_K.moved hW.alike hKc, hDc.weaken (fun _ _ _ _ => trivial)⟩⟩ rfl rfl hl.1 rfl (lv_room (Nat.le_of_ble_eq_true rfl)) dX5_code_121 ⟨Nat.zero_le _, Nat.zero_le _⟩) hS (fun q _ h => hFc q h) hFc (fun uU tS H1 locs ht9 hvm9 hw9 hB9 hz1 hk1 hS => ?_)
            obtain ⟨hP1, hK1, hD1⟩ := hB9
            rw [ht9] at hP1
            have hK1 := va_K.moved hvm9.symm hK1
            obtain ⟨hP, hD⟩ := va_join (wr := [(qmh, .inl (cyI, 460, .inl Hd))]) (w1 := [(qm, .inr (4, [.ref qmd, .ref qmt, .int (nI n), .int (bI on), .int lf, .int (nI dn), .int pl, .ref qml, .int (nI k), .ref qmk, .int (nI ((mz + 1) + 1)), .ref qmh, .int (nI nh), .int th, .ref qmw])), (qmk, .inl (cyI, 460, .inl (upd (upd M mz (nI 0)) (mz + 1) (nI (((zB Hd nh i).1) - 1)))))]) hP hD [1, 2] [0] rfl rfl (by decide) (by decide) hk1 hFc hP1 hD1
            generalize H1 = H at hP hS ⊢
            have hP : va_P (dC, dI) vwCl [(qmh, .inl (cyI, 460, .inl Hd)), (qm, .inr (4, [.ref qmd, .ref qmt, .int (nI n), .int (bI on), .int lf, .int (nI dn), .int pl, .ref qml, .int (nI k), .ref qmk, .int (nI ((mz + 1) + 1)), .ref qmh, .int (nI nh), .int th, .ref qmw])), (qmk, .inl (cyI, 460, .inl (upd (upd M mz (nI 0)) (mz + 1) (nI (((zB Hd nh i).1) - 1)))))] H := hP
            have hD : va_D A [(qmh, .inl (cyI, 460, .inl Hd)), (qm, .inr (4, [.ref qmd, .ref qmt, .int (nI n), .int (bI on), .int lf, .int (nI dn), .int pl, .ref qml, .int (nI k), .ref qmk, .int (nI ((mz + 1) + 1)), .ref qmh, .int (nI nh), .int th, .ref qmw])), (qmk, .inl (cyI, 460, .inl (upd (upd M mz (nI 0)) (mz + 1) (nI (((zB Hd nh i).1) - 1)))))] := hD
            refine lv_aload_n hx hb dX5_code_124 rfl (lv_at hl 0 rfl) ?_
            refine lv_iload hx hb dX5_code_125 (lv_at hl 4 rfl) ?_
            refine lv_iconst (v := nI 3) hx hb dX5_code_127 (by decide) ?_
            refine lv_isub hx hb dX5_code_128 ?_
            refine zz_top (pk_sub (a := (zB Hd nh i).2) (b := 3) (by omega)) ?_
            have hPc := hP.sub (ws' := [(qm, .inr (4, [.ref qmd, .ref qmt, .int (nI n), .int (bI on), .int lf, .int (nI dn), .int pl, .ref qml, .int (nI k), .ref qmk, .int (nI ((mz + 1) + 1)), .ref qmh, .int (nI nh), .int th, .ref qmw])), (qmk, .inl (cyI, 460, .inl (upd (upd M mz (nI 0)) (mz + 1) (nI (((zB Hd nh i).1) - 1)))))]) [1, 2] rfl
            have hKc := hK.sub (tys' := [(cyI, .int), (cyZ, .boolean)]) [0, 1] rfl
            have hDc := hD.sub (ws' := [(qm, .inr (4, [.ref qmd, .ref qmt, .int (nI n), .int (bI on), .int lf, .int (nI dn), .int pl, .ref qml, .int (nI k), .ref qmk, .int (nI ((mz + 1) + 1)), .ref qmh, .int (nI nh), .int th, .ref qmw])), (qmk, .inl (cyI, 460, .inl (upd (upd M mz (nI 0)) (mz + 1) (nI (((zB Hd nh i).1) - 1)))))]) [1, 2] (by decide) rfl
            have hFc := va_free (wc := [(qm, .inr (4, [.ref qmd, .ref qmt, .int (nI n), .int (bI on), .int lf, .int (nI dn), .int pl, .ref qml, .int (nI k), .ref qmk, .int (nI ((mz + 1) + 1)), .ref qmh, .int (nI nh), .int th, .ref qmw])), (qmk, .inl (cyI, 460, .inl (upd (upd M mz (nI 0)) (mz + 1) (nI (((zB Hd nh i).1) - 1)))))]) hD hS hA [1, 2] rfl
            refine va_callv (va_runV (As := [.int (nI (((zB Hd nh i).2) - 3))]) (rest := []) ⟨hx, hb, hml, hown, hts⟩ (c_X5_put l dC dI cyI cyZ qm qmk qmd qmt qml qmh qmw H.size n on lf dn pl k ((mz + 1) + 1) nh th (upd (upd M mz (nI 0)) (mz + 1) (nI (((zB Hd nh i).1) - 1))) (nI (((zB Hd nh i).2) - 3)) (by omega)) (cwV 1 hts gX5_code_X5_put rfl rfl rfl (by decide +kernel) ⟨Nat.le_of_ble_eq_true rfl, Nat.le_of_ble_eq_true rfl⟩) ⟨zz_blW, va_recv hKc hPc (ci := 4) (q0 := 0) rfl rfl, fun U hU hW => ⟨rfl, by rw [hU], by rw [hU]; exact hPc, va_K.moved hW.alike hKc, hDc.weaken (fun _ _ _ _ => trivial)⟩⟩ rfl rfl hl.1 rfl (lv_room (Nat.le_of_ble_eq_true rfl)) dX5_code_129 ⟨Nat.zero_le _, Nat.zero_le _⟩) hS (fun q _ h => hFc q h) hFc (fun uU tS H1 locs ht9 hvm9 hw9 hB9 hz1 hk1 hS => ?_)
            obtain ⟨hP1, hK1, hD1⟩ := hB9
            rw [ht9] at hP1
            have hK1 := va_K.moved hvm9.symm hK1
            obtain ⟨hP, hD⟩ := va_join (wr := [(qmh, .inl (cyI, 460, .inl Hd))]) (w1 := [(qm, .inr (4, [.ref qmd, .ref qmt, .int (nI n), .int (bI on), .int lf, .int (nI dn), .int pl, .ref qml, .int (nI k), .ref qmk, .int (nI (((mz + 1) + 1) + 1)), .ref qmh, .int (nI nh), .int th, .ref qmw])), (qmk, .inl (cyI, 460, .inl (upd (upd (upd M mz (nI 0)) (mz + 1) (nI (((zB Hd nh i).1) - 1))) ((mz + 1) + 1) (nI (((zB Hd nh i).2) - 3)))))]) hP hD [1, 2] [0] rfl rfl (by decide) (by decide) hk1 hFc hP1 hD1
            generalize H1 = H at hP hS ⊢
            have hP : va_P (dC, dI) vwCl [(qmh, .inl (cyI, 460, .inl Hd)), (qm, .inr (4, [.ref qmd, .ref qmt, .int (nI n), .int (bI on), .int lf, .int (nI dn), .int pl, .ref qml, .int (nI k), .ref qmk, .int (nI (((mz + 1) + 1) + 1)), .ref qmh, .int (nI nh), .int th, .ref qmw])), (qmk, .inl (cyI, 460, .inl (upd (upd (upd M mz (nI 0)) (mz + 1) (nI (((zB Hd nh i).1) - 1))) ((mz + 1) + 1) (nI (((zB Hd nh i).2) - 3)))))] H := hP
            have hD : va_D A [(qmh, .inl (cyI, 460, .inl Hd)), (qm, .inr (4, [.ref qmd, .ref qmt, .int (nI n), .int (bI on), .int lf, .int (nI dn), .int pl, .ref qml, .int (nI k), .ref qmk, .int (nI (((mz + 1) + 1) + 1)), .ref qmh, .int (nI nh), .int th, .ref qmw])), (qmk, .inl (cyI, 460, .inl (upd (upd (upd M mz (nI 0)) (mz + 1) (nI (((zB Hd nh i).1) - 1))) ((mz + 1) + 1) (nI (((zB Hd nh i).2) - 3)))))] := hD
            refine lv_iload_n hx hb dX5_code_132 rfl (lv_at hl 1 rfl) ?_
            refine lv_iload hx hb dX5_code_133 (lv_at hl 4 rfl) ?_
            refine lv_iadd hx hb dX5_code_135 ?_
            refine zz_top (nI_add i ((zB Hd nh i).2)) ?_
            refine lv_istore_n (lv' := [(1, .int (nI (i + ((zB Hd nh i).2)))), (0, .ref qm), (2, .int (nI 0)), (3, .int (nI mz)), (4, .int (nI ((zB Hd nh i).2))), (5, .int (nI ((zB Hd nh i).1))), (6, .int (nI (d + 1)))]) hx hb dX5_code_136 rfl hl (by decide) rfl (fun ls hl => ?_)
            refine lv_goto (tgt := 165) hx hb dX5_code_137 (by decide) ?_
            refine lv_iinc (v := nI 1) (lv' := [(2, .int (nI 1)), (1, .int (nI (i + ((zB Hd nh i).2)))), (0, .ref qm), (3, .int (nI mz)), (4, .int (nI ((zB Hd nh i).2))), (5, .int (nI ((zB Hd nh i).1))), (6, .int (nI (d + 1)))]) hx hb dX5_code_165 hl (k := 2) rfl (nI_add 0 1) (by decide) rfl (fun ls hl => ?_)
            refine lv_goto (tgt := 12) hx hb dX5_code_168 (by decide) ?_
            skip
            have hP := hP.sub (ws' := [(qm, .inr (4, [.ref qmd, .ref qmt, .int (nI n), .int (bI on), .int lf, .int (nI dn), .int pl, .ref qml, .int (nI k), .ref qmk, .int (nI (((mz + 1) + 1) + 1)), .ref qmh, .int (nI nh), .int th, .ref qmw])), (qmk, .inl (cyI, 460, .inl (upd (upd (upd M mz (nI 0)) (mz + 1) (nI (((zB Hd nh i).1) - 1))) ((mz + 1) + 1) (nI (((zB Hd nh i).2) - 3))))), (qmh, .inl (cyI, 460, .inl Hd))]) [1, 2, 0] rfl
            have hD := hD.sub (ws' := [(qm, .inr (4, [.ref qmd, .ref qmt, .int (nI n), .int (bI on), .int lf, .int (nI dn), .int pl, .ref qml, .int (nI k), .ref qmk, .int (nI (((mz + 1) + 1) + 1)), .ref qmh, .int (nI nh), .int th, .ref qmw])), (qmk, .inl (cyI, 460, .inl (upd (upd (upd M mz (nI 0)) (mz + 1) (nI (((zB Hd nh i).1) - 1))) ((mz + 1) + 1) (nI (((zB Hd nh i).2) - 3))))), (qmh, .inl (cyI, 460, .inl Hd))]) [1, 2, 0] (by decide) rfl
            exact ih12 (i + ((zB Hd nh i).2), 1, mz, c + 1, f9, upd (upd (upd o mz (nI 0)) (mz + 1) (nI ((zB Hd nh i).1 - 1))) (mz + 2) (nI ((zB Hd nh i).2 - 3)), upd (upd (upd M mz (nI 0)) (mz + 1) (nI (((zB Hd nh i).1) - 1))) ((mz + 1) + 1) (nI (((zB Hd nh i).2) - 3)), ((mz + 1) + 1) + 1) _ _ _ ⟨by omega, by omega, by omega, by omega, by omega, by omega, (eF_row0 hi9 hc8 c_113).symm.trans hE, upd_new (upd_new (upd_new hF rfl) rfl) rfl, hP, hD, hS, lv_sub hl [2, 1, 0, 3] rfl⟩ (by first | omega | (dsimp only; omega))
        ·
          refine lv_aload_n hx hb dX5_code_61 rfl (lv_at hl 0 rfl) ?_
          refine lv_iload_n hx hb dX5_code_62 rfl (lv_at hl 1 rfl) ?_
          refine lv_iload_n hx hb dX5_code_63 rfl (lv_at hl 1 rfl) ?_
          refine lv_iload hx hb dX5_code_64 (lv_at hl 6 rfl) ?_
          refine lv_isub hx hb dX5_code_66 ?_
          refine zz_top (pk_sub (a := i) (b := d + 1) (by omega)) ?_
          have hPc := hP.sub (ws' := [(qm, .inr (4, [.ref qmd, .ref qmt, .int (nI n), .int (bI on), .int lf, .int (nI dn), .int pl, .ref qml, .int (nI k), .ref qmk, .int (nI (mz + 1)), .ref qmh, .int (nI nh), .int th, .ref qmw])), (qmh, .inl (cyI, 460, .inl Hd))]) [1, 0] rfl
          have hKc := hK.sub (tys' := [(cyI, .int), (cyZ, .boolean)]) [0, 1] rfl
          refine vp_callSi (va_Run.run (va_runV (As := [.int (nI i), .int (nI (i - (d + 1)))]) (rest := []) ⟨hx, hb, hml, hown, hts⟩ (c_X5_alike l dC dI cyI cyZ qm qmh qmd qmt qml qmk qmw n on lf dn pl k (mz + 1) nh th Hd i (d + 1) (by omega) (by omega) (by omega) (by omega)) (cwV 2 hts gX5_code_X5_alike rfl rfl rfl (by decide +kernel) ⟨Nat.le_of_ble_eq_true rfl, Nat.le_of_ble_eq_true rfl⟩) ⟨zz_blR, va_recv hKc hPc (ci := 4) (q0 := 0) rfl rfl, fun U hU hW => ⟨rfl, by rw [hU]; exact hPc, va_K.moved hW.alike hKc⟩⟩ rfl rfl hl.1 rfl (lv_room (Nat.le_of_ble_eq_true rfl)) dX5_code_67 ⟨Nat.zero_le _, Nat.zero_le _⟩)) (fun r_67 hr_67 => ?_)
          have hr_67 : nI (zRun Hd nh i (d + 1)) = r_67 := Eq.symm hr_67
          subst hr_67
          refine lv_istore (lv' := [(7, .int (nI (zRun Hd nh i (d + 1)))), (0, .ref qm), (1, .int (nI i)), (2, .int (nI 0)), (3, .int (nI mz)), (4, .int (nI ((zBst Hd nh i d).2))), (5, .int (nI ((zBst Hd nh i d).1))), (6, .int (nI (d + 1)))]) hx hb dX5_code_70 hl (by decide) rfl (fun ls hl => ?_)
          refine lv_iload hx hb dX5_code_72 (lv_at hl 0 rfl) ?_
          refine lv_iload hx hb dX5_code_74 (lv_at hl 5 rfl) ?_
          refine zn_icmp_le (tgt := 84) hx hb dX5_code_76 (by decide) (by omega) (by omega) (fun c_76 => ?_) (fun c_76 => ?_)
          ·
            refine lv_iload hx hb dX5_code_84 (lv_at hl 6 rfl) ?_
            refine lv_istore (lv' := [(5, .int (nI ((zBst Hd nh i d).1))), (7, .int (nI (zRun Hd nh i (d + 1)))), (0, .ref qm), (1, .int (nI i)), (2, .int (nI 0)), (3, .int (nI mz)), (4, .int (nI ((zBst Hd nh i d).2))), (6, .int (nI (d + 1)))]) hx hb dX5_code_86 hl (by decide) rfl (fun ls hl => ?_)
            refine lv_iload hx hb dX5_code_88 (lv_at hl 1 rfl) ?_
            refine lv_iload hx hb dX5_code_90 (lv_at hl 6 rfl) ?_
            refine zn_icmp_le (tgt := 100) hx hb dX5_code_92 (by decide) (by omega) (by omega) (fun c_92 => ?_) (fun c_92 => ?_)
            ·
              refine lv_iload hx hb dX5_code_100 (lv_at hl 6 rfl) ?_
              refine lv_istore (lv' := [(4, .int (nI ((zBst Hd nh i d).2))), (5, .int (nI ((zBst Hd nh i d).1))), (7, .int (nI (zRun Hd nh i (d + 1)))), (0, .ref qm), (1, .int (nI i)), (2, .int (nI 0)), (3, .int (nI mz)), (6, .int (nI (d + 1)))]) hx hb dX5_code_102 hl (by decide) rfl (fun ls hl => ?_)
              refine lv_iinc (v := nI (d + 2)) (lv' := [(6, .int (nI (d + 2))), (4, .int (nI ((zBst Hd nh i d).2))), (5, .int (nI ((zBst Hd nh i d).1))), (7, .int (nI (zRun Hd nh i (d + 1)))), (0, .ref qm), (1, .int (nI i)), (2, .int (nI 0)), (3, .int (nI mz))]) hx hb dX5_code_104 hl (k := 7) rfl (nI_add (d + 1) 1) (by decide) rfl (fun ls hl => ?_)
              refine lv_goto (tgt := 47) hx hb dX5_code_107 (by decide) ?_
              -- local 4: .int (nI ((zBst Hd nh i d).2)) ~ .int (nI ((zBst Hd nh i (d + 1)).2))
              -- local 5: .int (nI ((zBst Hd nh i d).1)) ~ .int (nI ((zBst Hd nh i (d + 1)).1))
              -- local 6: .int (nI (d + 2)) ~ .int (nI ((d + 1) + 1))
              exact ih47 (d + 1) _ _ _ ⟨by omega, hP, hD, hS, lv_sub hl [4, 5, 6, 7, 1, 2, 0] (by rw [show zBst Hd nh i (d + 1) = zBst Hd nh i d from if_neg (by omega)]; rfl)⟩ (by first | omega | (dsimp only; omega))
            ·
              exfalso
              omega
          ·
            refine lv_iload hx hb dX5_code_79 (lv_at hl 7 rfl) ?_
            refine lv_goto (tgt := 86) hx hb dX5_code_81 (by decide) ?_
            refine lv_istore (lv' := [(5, .int (nI (d + 1))), (7, .int (nI (zRun Hd nh i (d + 1)))), (0, .ref qm), (1, .int (nI i)), (2, .int (nI 0)), (3, .int (nI mz)), (4, .int (nI ((zBst Hd nh i d).2))), (6, .int (nI (d + 1)))]) hx hb dX5_code_86 hl (by decide) rfl (fun ls hl => ?_)
            refine lv_iload hx hb dX5_code_88 (lv_at hl 1 rfl) ?_
            refine lv_iload hx hb dX5_code_90 (lv_at hl 6 rfl) ?_
            refine zn_icmp_le (tgt := 100) hx hb dX5_code_92 (by decide) (by omega) (by omega) (fun c_92 => ?_) (fun c_92 => ?_)
            ·
              exfalso
              omega
            ·
              refine lv_iload hx hb dX5_code_95 (lv_at hl 1 rfl) ?_
              refine lv_goto (tgt := 102) hx hb dX5_code_97 (by decide) ?_
              refine lv_istore (lv' := [(4, .int (nI (zRun Hd nh i (d + 1)))), (5, .int (nI (d + 1))), (7, .int (nI (zRun Hd nh i (d + 1)))), (0, .ref qm), (1, .int (nI i)), (2, .int (nI 0)), (3, .int (nI mz)), (6, .int (nI (d + 1)))]) hx hb dX5_code_102 hl (by decide) rfl (fun ls hl => ?_)
              refine lv_iinc (v := nI (d + 2)) (lv' := [(6, .int (nI (d + 2))), (4, .int (nI (zRun Hd nh i (d + 1)))), (5, .int (nI (d + 1))), (7, .int (nI (zRun Hd nh i (d + 1)))), (0, .ref qm), (1, .int (nI i)), (2, .int (nI 0)), (3, .int (nI mz))]) hx hb dX5_code_104 hl (k := 7) rfl (nI_add (d + 1) 1) (by decide) rfl (fun ls hl => ?_)
              refine lv_goto (tgt := 47) hx hb dX5_code_107 (by decide) ?_
              -- local 4: .int (nI (zRun Hd nh i (d + 1))) ~ .int (nI ((zBst Hd nh i (d + 1)).2))
              -- local 5: .int (nI (d + 1)) ~ .int (nI ((zBst Hd nh i (d + 1)).1))
              -- local 6: .int (nI (d + 2)) ~ .int (nI ((d + 1) + 1))
              exact ih47 (d + 1) _ _ _ ⟨by omega, hP, hD, hS, lv_sub hl [4, 5, 6, 7, 1, 2, 0] (by rw [show zBst Hd nh i (d + 1) = (d + 1, zRun Hd nh i (d + 1)) from if_pos c_76]; rfl)⟩ (by first | omega | (dsimp only; omega))
set_option maxHeartbeats 4000000 in
set_option maxRecDepth 100000 in
theorem c_X5_decode (l : Launch) (dC : Nat → ClassId) (dI : Nat → Nat → Nat) (cyI cyZ : ClassId) (qm qmk qmh qmd qmt qml qmw : Nat) (sz : Nat) (n : Nat) (on : Bool) (lf : Int32) (dn : Nat) (pl : Int32) (k mz nh : Nat) (th : Int32) (M : Nat → Int32) (Hd : Nat → Int32) (hn : nh ≤ 450) (HO : ∀ j, j < nh → zO (Hd j)) : Met l yX5_decode wsX5_decode ({ frames := 1, cells := 0, slots := 0, locals := 21 }) (va_Pc [.ref qm] (fun U => U.heap.size = sz ∧ va_P (dC, dI) vwCl [(qm, .inr (4, [.ref qmd, .ref qmt, .int (nI n), .int (bI on), .int lf, .int (nI dn), .int pl, .ref qml, .int (nI k), .ref qmk, .int (nI mz), .ref qmh, .int (nI nh), .int th, .ref qmw])), (qmk, .inl (cyI, 460, .inl M)), (qmh, .inl (cyI, 460, .inl Hd))] U.heap ∧ va_K (dC, dI) vwCl [(cyI, .int), (cyZ, .boolean)] U ∧ va_D (fun _ => True) [(qm, .inr (4, [.ref qmd, .ref qmt, .int (nI n), .int (bI on), .int lf, .int (nI dn), .int pl, .ref qml, .int (nI k), .ref qmk, .int (nI mz), .ref qmh, .int (nI nh), .int th, .ref qmw])), (qmk, .inl (cyI, 460, .inl M)), (qmh, .inl (cyI, 460, .inl Hd))])) (va_Qi (S := Int32 × Nat × (Nat → Int32)) (fun (r : Int32) (uU : Int32 × Nat × (Nat → Int32)) => match uU with | (pl1, m1, M1) => r = bI (decide ((zD Hd nh).1 = 0)) ∧ (pl1 = zPlM (zD Hd nh).1 pl) ∧ (m1 = (zD Hd nh).2.1) ∧ (∀ j, j < m1 → M1 j = (zD Hd nh).2.2 j) ∧ (∀ j, j < m1 → zO (M1 j)) ∧ (m1 ≤ 400)) (fun (uU : Int32 × Nat × (Nat → Int32)) tS => match uU with | (pl1, m1, M1) => va_P (dC, dI) vwCl [(qm, .inr (4, [.ref qmd, .ref qmt, .int (nI n), .int (bI on), .int lf, .int (nI dn), .int pl1, .ref qml, .int (nI k), .ref qmk, .int (nI m1), .ref qmh, .int (nI nh), .int th, .ref qmw])), (qmk, .inl (cyI, 460, .inl M1)), (qmh, .inl (cyI, 460, .inl Hd))] tS.heap ∧ va_K (dC, dI) vwCl [(cyI, .int), (cyZ, .boolean)] tS ∧ va_D (va_A [(qm, .inr (4, [.ref qmd, .ref qmt, .int (nI n), .int (bI on), .int lf, .int (nI dn), .int pl, .ref qml, .int (nI k), .ref qmk, .int (nI mz), .ref qmh, .int (nI nh), .int th, .ref qmw])), (qmk, .inl (cyI, 460, .inl M)), (qmh, .inl (cyI, 460, .inl Hd))] sz) [(qm, .inr (4, [.ref qmd, .ref qmt, .int (nI n), .int (bI on), .int lf, .int (nI dn), .int pl1, .ref qml, .int (nI k), .ref qmk, .int (nI m1), .ref qmh, .int (nI nh), .int th, .ref qmw])), (qmk, .inl (cyI, 460, .inl M1)), (qmh, .inl (cyI, 460, .inl Hd))]) (va_A [(qm, .inr (4, [.ref qmd, .ref qmt, .int (nI n), .int (bI on), .int lf, .int (nI dn), .int pl, .ref qml, .int (nI k), .ref qmk, .int (nI mz), .ref qmh, .int (nI nh), .int th, .ref qmw])), (qmk, .inl (cyI, 460, .inl M)), (qmh, .inl (cyI, 460, .inl Hd))] sz)) 0 0 (va_A [(qm, .inr (4, [.ref qmd, .ref qmt, .int (nI n), .int (bI on), .int lf, .int (nI dn), .int pl, .ref qml, .int (nI k), .ref qmk, .int (nI mz), .ref qmh, .int (nI nh), .int th, .ref qmw])), (qmk, .inl (cyI, 460, .inl M)), (qmh, .inl (cyI, 460, .inl Hd))] sz) := by
  refine Met.ofW (cc := cX5_decode) (maxL := 8) (ret := (some .boolean)) (by decide) rfl ?_
  intro pz ez sS mM args below meth cC s₁ B hml hv
  obtain ⟨rfl, hsz, hP, hK, hD0⟩ := hv
  have hx := B.exec
  have hb := B.bytes
  have hr := B.returns
  have hts := atoms_spec (ws := wsX5_decode) B.pre
  have hown : sS.vm.findClass RX5 = some mM.cls := findClass_of_methodNamed B.named
  have hlocks := B.notSynchronized
  subst hsz
  have hD := hD0.self (sz := sS.heap.size)
  generalize hAe : va_A [(qm, .inr (4, [.ref qmd, .ref qmt, .int (nI n), .int (bI on), .int lf, .int (nI dn), .int pl, .ref qml, .int (nI k), .ref qmk, .int (nI mz), .ref qmh, .int (nI nh), .int th, .ref qmw])), (qmk, .inl (cyI, 460, .inl M)), (qmh, .inl (cyI, 460, .inl Hd))] sS.heap.size = A at hD ⊢
  have hA : ∀ q : Nat, sS.heap.size ≤ q → A q := fun q h => by rw [← hAe]; exact Or.inr h
  have hS : va_S A sS.heap sS.heap [] := va_S.rf
  have hP : va_P (dC, dI) vwCl [(qm, .inr (4, [.ref qmd, .ref qmt, .int (nI n), .int (bI on), .int lf, .int (nI dn), .int pl, .ref qml, .int (nI k), .ref qmk, .int (nI mz), .ref qmh, .int (nI nh), .int th, .ref qmw])), (qmk, .inl (cyI, 460, .inl M)), (qmh, .inl (cyI, 460, .inl Hd))] sS.heap := hP
  have iwX5 : ∀ w ∈ wsX50, w ∈ wsX5_decode := by decide +kernel
  have fk30 := hts (.fieldLink RX5 30 "CodedStoreModel" "made" "[I") (by decide +kernel)
  have fk33 := hts (.fieldLink RX5 33 "CodedStoreModel" "hand" "[I") (by decide +kernel)
  have fk48 := hts (.fieldLink RX5 48 "CodedStoreModel" "handSize" "I") (by decide +kernel)
  have fk51 := hts (.fieldLink RX5 51 "CodedStoreModel" "madeSize" "I") (by decide +kernel)
  have hl := lv_entry ([.ref qm]) (n := 8) (Nat.le_of_ble_eq_true rfl)
  rw [lg_entry_eq]
  generalize (lg_sl ([.ref qm]) ++ List.replicate (8 - (lg_sl ([.ref qm])).length) Slot.unset).toArray = ls at hl ⊢
  have hl : lv_has ls 8 [(0, .ref qm)] := hl
  refine lv_aload_n hx hb dX5_decode_0 rfl (lv_at hl 0 rfl) ?_
  refine lv_iconst (v := nI 0) hx hb dX5_decode_1 (by decide) ?_
  refine va_put (D := (dC, dI)) (ci := 4) (v := .int (nI 0)) (ty := .int) (C := RX5) (T := TX5) (N := 15) hx hb hts iwX5 tyX5 tyX5_ok nmX5 hown hK hP hD hS 0 rfl rfl 10 (by decide) fk51 (fun _ h9 => h9) rfl (by decide +kernel) rfl rfl (Nat.le_of_ble_eq_true rfl) dX5_decode_2 (fun H locs hP hD hS => ?_)
  have hP : va_P (dC, dI) vwCl [(qm, .inr (4, [.ref qmd, .ref qmt, .int (nI n), .int (bI on), .int lf, .int (nI dn), .int pl, .ref qml, .int (nI k), .ref qmk, .int (nI 0), .ref qmh, .int (nI nh), .int th, .ref qmw])), (qmk, .inl (cyI, 460, .inl M)), (qmh, .inl (cyI, 460, .inl Hd))] H := hP
  have hD : va_D A [(qm, .inr (4, [.ref qmd, .ref qmt, .int (nI n), .int (bI on), .int lf, .int (nI dn), .int pl, .ref qml, .int (nI k), .ref qmk, .int (nI 0), .ref qmh, .int (nI nh), .int th, .ref qmw])), (qmk, .inl (cyI, 460, .inl M)), (qmh, .inl (cyI, 460, .inl Hd))] := hD
  refine lv_iconst (v := nI 0) hx hb dX5_decode_5 (by decide) ?_
  refine lv_istore_n (lv' := [(1, .int (nI 0)), (0, .ref qm)]) hx hb dX5_decode_6 rfl hl (by decide) rfl (fun ls hl => ?_)
  refine zz_loopW (pc := 7) (μ := fun (x : Nat × Nat × Nat × (Nat → Int32) × (Nat → Int32) × Nat) => match x with | (u, g, f, o, M, mz) => nh - u) (Inv := fun (x : Nat × Nat × Nat × (Nat → Int32) × (Nat → Int32) × Nat) (H : Heap) (locs : List Loc) (ls : Array Slot) => match x with | (u, g, f, o, M, mz) => (u ≤ nh) ∧ (nh + 1 ≤ u + f) ∧ (mz ≤ 400) ∧ (0 < nh → g < nh) ∧ (dF Hd nh f u 8 g mz o = zD Hd nh) ∧ (∀ j, j < mz → M j = o j) ∧ (∀ j, j < mz → zO (M j)) ∧ va_P (dC, dI) vwCl [(qm, .inr (4, [.ref qmd, .ref qmt, .int (nI n), .int (bI on), .int lf, .int (nI dn), .int pl, .ref qml, .int (nI k), .ref qmk, .int (nI mz), .ref qmh, .int (nI nh), .int th, .ref qmw])), (qmk, .inl (cyI, 460, .inl M)), (qmh, .inl (cyI, 460, .inl Hd))] H ∧ va_D A [(qm, .inr (4, [.ref qmd, .ref qmt, .int (nI n), .int (bI on), .int lf, .int (nI dn), .int pl, .ref qml, .int (nI k), .ref qmk, .int (nI mz), .ref qmh, .int (nI nh), .int th, .ref qmw])), (qmk, .inl (cyI, 460, .inl M)), (qmh, .inl (cyI, 460, .inl Hd))] ∧ va_S A sS.heap H locs ∧ lv_has ls 8 [(0, .ref qm), (1, .int (nI u))]) (x0 := (0, 0, nh + 1, fun _ => nI 0, M, 0)) ⟨by omega, by omega, by omega, by omega, rfl, no_lt0, no_lt0, hP, hD, hS, lv_sub hl [1, 0] rfl⟩ ?_
  intro ⟨u, g, f, o, M, mz⟩ H locs ls hI ih7
  obtain ⟨hi, hf, hm, hgn0, hE, hF, hO, hP, hD, hS, hl⟩ := hI
  have hl : lv_has ls 8 [(0, .ref qm), (1, .int (nI u))] := hl
  have hP : va_P (dC, dI) vwCl [(qm, .inr (4, [.ref qmd, .ref qmt, .int (nI n), .int (bI on), .int lf, .int (nI dn), .int pl, .ref qml, .int (nI k), .ref qmk, .int (nI mz), .ref qmh, .int (nI nh), .int th, .ref qmw])), (qmk, .inl (cyI, 460, .inl M)), (qmh, .inl (cyI, 460, .inl Hd))] H := hP
  have hD : va_D A [(qm, .inr (4, [.ref qmd, .ref qmt, .int (nI n), .int (bI on), .int lf, .int (nI dn), .int pl, .ref qml, .int (nI k), .ref qmk, .int (nI mz), .ref qmh, .int (nI nh), .int th, .ref qmw])), (qmk, .inl (cyI, 460, .inl M)), (qmh, .inl (cyI, 460, .inl Hd))] := hD
  have hi : u ≤ nh := hi
  have hf : nh + 1 ≤ u + f := hf
  have hm : mz ≤ 400 := hm
  have hgn0 : 0 < nh → g < nh := hgn0
  have hE : dF Hd nh f u 8 g mz o = zD Hd nh := hE
  have hF : ∀ j, j < mz → M j = o j := hF
  have hO : ∀ j, j < mz → zO (M j) := hO
  refine lv_iload_n hx hb dX5_decode_7 rfl (lv_at hl 1 rfl) ?_
  refine lv_aload_n hx hb dX5_decode_8 rfl (lv_at hl 0 rfl) ?_
  refine va_get (D := (dC, dI)) (ci := 4) (v := .int (nI nh)) (C := RX5) (T := TX5) (N := 15) hx hb hts iwX5 hown hK hP 0 rfl rfl 12 (by decide) fk48 (fun _ h9 => h9) rfl dX5_decode_9 ?_
  refine zn_icmp_ge (tgt := 232) hx hb dX5_decode_12 (by decide) (by omega) (by omega) (fun c_12 => ?_) (fun c_12 => ?_)
  ·
    refine lv_iconst (v := nI 1) hx hb dX5_decode_232 (by decide) ?_
    have e233 : u = nh := by omega
    obtain ⟨f9, e9⟩ : ∃ f9, f = f9 + 1 := ⟨f - 1, by omega⟩
    subst e9
    have hE2 : zD Hd nh = (0, mz, o) := by
      rw [← hE]
      rcases Nat.eq_zero_or_pos nh with q | q
      · subst q; exact dF_end0
      · exact dF_endG (by omega) (fun h => h.elim (fun h => by omega) (fun h => h (zO_top (HO g (hgn0 q)))))
    have hP9 := hP.sub (ws' := [(qm, .inr (4, [.ref qmd, .ref qmt, .int (nI n), .int (bI on), .int lf, .int (nI dn), .int pl, .ref qml, .int (nI k), .ref qmk, .int (nI mz), .ref qmh, .int (nI nh), .int th, .ref qmw])), (qmk, .inl (cyI, 460, .inl M)), (qmh, .inl (cyI, 460, .inl Hd))]) [0, 1, 2] rfl
    have hD9 := hD.sub (ws' := [(qm, .inr (4, [.ref qmd, .ref qmt, .int (nI n), .int (bI on), .int lf, .int (nI dn), .int pl, .ref qml, .int (nI k), .ref qmk, .int (nI mz), .ref qmh, .int (nI nh), .int th, .ref qmw])), (qmk, .inl (cyI, 460, .inl M)), (qmh, .inl (cyI, 460, .inl Hd))]) [0, 1, 2] (by decide) rfl
    have hK9 := hK.sub (tys' := [(cyI, .int), (cyZ, .boolean)]) [0, 1] rfl
    have hret : (nI 1 : Int32) = bI (decide ((zD Hd nh).1 = 0)) := by rw [hE2]; rfl
    refine zz_top hret ?_
    exact W.zret hx hb hr (zz_narZ (by first | exact zz_zb _ | exact zz_z0 | exact zz_z1)) (fun tS ht hW => ⟨⟨_, (pl, mz, M), rfl, ⟨rfl, by rw [hE2]; rfl, by rw [hE2], by rw [hE2]; exact hF, hO, by omega⟩, by rw [ht]; exact hP9, va_K.moved hW.alike hK9, hD9⟩, hS.F ht⟩) hS.2.2 dX5_decode_233
  ·
    have hi9 : u < nh := by omega
    obtain ⟨f9, e9⟩ : ∃ f9, f = f9 + 1 := ⟨f - 1, by omega⟩
    subst e9
    refine lv_iload_n hx hb dX5_decode_15 rfl (lv_at hl 1 rfl) ?_
    refine lv_istore_n (lv' := [(2, .int (nI u)), (0, .ref qm), (1, .int (nI u))]) hx hb dX5_decode_16 rfl hl (by decide) rfl (fun ls hl => ?_)
    refine lv_iinc (v := nI (u + 1)) (lv' := [(1, .int (nI (u + 1))), (2, .int (nI u)), (0, .ref qm)]) hx hb dX5_decode_17 hl (k := 2) rfl (nI_add u 1) (by decide) rfl (fun ls hl => ?_)
    refine lv_iload_n hx hb dX5_decode_20 rfl (lv_at hl 0 rfl) ?_
    refine lv_aload_n hx hb dX5_decode_21 rfl (lv_at hl 2 rfl) ?_
    refine va_get (D := (dC, dI)) (ci := 4) (v := .int (nI nh)) (C := RX5) (T := TX5) (N := 15) hx hb hts iwX5 hown hK hP 0 rfl rfl 12 (by decide) fk48 (fun _ h9 => h9) rfl dX5_decode_22 ?_
    refine zn_icmp_ne (tgt := 34) hx hb dX5_decode_25 (by decide) (by omega) (by omega) (fun c_25 => ?_) (fun c_25 => ?_)
    ·
      refine lv_iconst (v := nI 0) hx hb dX5_decode_34 (by decide) ?_
      refine lv_istore_n (lv' := [(3, .int (nI 0)), (1, .int (nI (u + 1))), (2, .int (nI u)), (0, .ref qm)]) hx hb dX5_decode_35 rfl hl (by decide) rfl (fun ls hl => ?_)
      have hE3 := (dF_flag hi9).symm.trans hE
      refine zz_loopW (pc := 36) (μ := fun (x : Nat × Nat × Nat × (Nat → Int32) × (Nat → Int32) × Nat) => match x with | (i, b, f, o, M, mz) => (nh - i) + (9 - b)) (Inv := fun (x : Nat × Nat × Nat × (Nat → Int32) × (Nat → Int32) × Nat) (H : Heap) (locs : List Loc) (ls : Array Slot) => match x with | (i, b, f, o, M, mz) => (u < i) ∧ (i ≤ nh) ∧ (nh + 1 ≤ i + f) ∧ (mz ≤ 400) ∧ (b ≤ 8) ∧ (i = nh → 0 < b) ∧ (dF Hd nh f i b u mz o = zD Hd nh) ∧ (∀ j, j < mz → M j = o j) ∧ (∀ j, j < mz → zO (M j)) ∧ va_P (dC, dI) vwCl [(qm, .inr (4, [.ref qmd, .ref qmt, .int (nI n), .int (bI on), .int lf, .int (nI dn), .int pl, .ref qml, .int (nI k), .ref qmk, .int (nI mz), .ref qmh, .int (nI nh), .int th, .ref qmw])), (qmk, .inl (cyI, 460, .inl M)), (qmh, .inl (cyI, 460, .inl Hd))] H ∧ va_D A [(qm, .inr (4, [.ref qmd, .ref qmt, .int (nI n), .int (bI on), .int lf, .int (nI dn), .int pl, .ref qml, .int (nI k), .ref qmk, .int (nI mz), .ref qmh, .int (nI nh), .int th, .ref qmw])), (qmk, .inl (cyI, 460, .inl M)), (qmh, .inl (cyI, 460, .inl Hd))] ∧ va_S A sS.heap H locs ∧ lv_has ls 8 [(0, .ref qm), (1, .int (nI i)), (2, .int (nI u)), (3, .int (nI b))]) (x0 := (u + 1, 0, f9, o, M, mz)) ⟨by omega, by omega, by omega, by omega, by omega, by omega, hE3, hF, hO, hP, hD, hS, lv_sub hl [3, 1, 2, 0] rfl⟩ ?_
      intro ⟨i, b, f, o, M, mz⟩ H locs ls hI ih36
      obtain ⟨hig, hi, hf, hm, hb7, hg0, hE, hF, hO, hP, hD, hS, hl⟩ := hI
      have hl : lv_has ls 8 [(0, .ref qm), (1, .int (nI i)), (2, .int (nI u)), (3, .int (nI b))] := hl
      have hP : va_P (dC, dI) vwCl [(qm, .inr (4, [.ref qmd, .ref qmt, .int (nI n), .int (bI on), .int lf, .int (nI dn), .int pl, .ref qml, .int (nI k), .ref qmk, .int (nI mz), .ref qmh, .int (nI nh), .int th, .ref qmw])), (qmk, .inl (cyI, 460, .inl M)), (qmh, .inl (cyI, 460, .inl Hd))] H := hP
      have hD : va_D A [(qm, .inr (4, [.ref qmd, .ref qmt, .int (nI n), .int (bI on), .int lf, .int (nI dn), .int pl, .ref qml, .int (nI k), .ref qmk, .int (nI mz), .ref qmh, .int (nI nh), .int th, .ref qmw])), (qmk, .inl (cyI, 460, .inl M)), (qmh, .inl (cyI, 460, .inl Hd))] := hD
      have hig : u < i := hig
      have hi : i ≤ nh := hi
      have hf : nh + 1 ≤ i + f := hf
      have hm : mz ≤ 400 := hm
      have hb7 : b ≤ 8 := hb7
      have hg0 : i = nh → 0 < b := hg0
      have hE : dF Hd nh f i b u mz o = zD Hd nh := hE
      have hF : ∀ j, j < mz → M j = o j := hF
      have hO : ∀ j, j < mz → zO (M j) := hO
      refine lv_iload_n hx hb dX5_decode_36 rfl (lv_at hl 3 rfl) ?_
      refine lv_bipush (v := nI 8) hx hb dX5_decode_37 (by decide) ?_
      refine zn_icmp_ge (tgt := 229) hx hb dX5_decode_39 (by decide) (by omega) (by omega) (fun c_39 => ?_) (fun c_39 => ?_)
      ·
        refine lv_goto (tgt := 7) hx hb dX5_decode_229 (by decide) ?_
        have e8 : b = 8 := by omega
        subst e8
        exact ih7 (i, u, f, o, M, mz) _ _ _ ⟨by omega, by omega, by omega, by omega, hE, hF, hO, hP, hD, hS, lv_sub hl [0, 1] rfl⟩ (by first | omega | (dsimp only; omega))
      ·
        have hb8 : ¬ b = 8 := by omega
        have hgn : u < nh := by omega
        refine lv_aload_n hx hb dX5_decode_42 rfl (lv_at hl 0 rfl) ?_
        refine va_get (D := (dC, dI)) (ci := 4) (v := .ref qmh) (C := RX5) (T := TX5) (N := 15) hx hb hts iwX5 hown hK hP 0 rfl rfl 11 (by decide) fk33 (fun _ h9 => h9) rfl dX5_decode_43 ?_
        refine lv_iload_n hx hb dX5_decode_46 rfl (lv_at hl 2 rfl) ?_
        refine va_iald hx hb hK hP 2 0 rfl rfl (vp_in_nI (n := u) (by omega) (by decide)) dX5_decode_47 ?_
        refine zz_top (congrArg Hd (nI_clamp (n := u) (by omega))) ?_
        refine lv_iload_n hx hb dX5_decode_48 rfl (lv_at hl 3 rfl) ?_
        refine lv_ishr hx hb dX5_decode_49 ?_
        refine lv_iconst (v := nI 1) hx hb dX5_decode_50 (by decide) ?_
        refine lv_iand hx hb dX5_decode_51 ?_
        refine lv_iconst (v := nI 1) hx hb dX5_decode_52 (by decide) ?_
        refine lv_icmp_ne (tgt := 60) hx hb dX5_decode_53 (by decide) (fun c_53 => ?_) (fun c_53 => ?_)
        ·
          refine lv_iconst (v := nI 0) hx hb dX5_decode_60 (by decide) ?_
          refine lv_istore (lv' := [(4, .int (nI 0)), (0, .ref qm), (1, .int (nI i)), (2, .int (nI u)), (3, .int (nI b))]) hx hb dX5_decode_61 hl (by decide) rfl (fun ls hl => ?_)
          refine lv_iload_n hx hb dX5_decode_63 rfl (lv_at hl 2 rfl) ?_
          refine lv_aload_n hx hb dX5_decode_64 rfl (lv_at hl 1 rfl) ?_
          refine va_get (D := (dC, dI)) (ci := 4) (v := .int (nI nh)) (C := RX5) (T := TX5) (N := 15) hx hb hts iwX5 hown hK hP 0 rfl rfl 12 (by decide) fk48 (fun _ h9 => h9) rfl dX5_decode_65 ?_
          refine zn_icmp_ne (tgt := 82) hx hb dX5_decode_68 (by decide) (by omega) (by omega) (fun c_68 => ?_) (fun c_68 => ?_)
          ·
            have hi9 : i < nh := by omega
            obtain ⟨f9, e9⟩ : ∃ f9, f = f9 + 1 := ⟨f - 1, by omega⟩
            subst e9
            refine lv_iload hx hb dX5_decode_82 (lv_at hl 0 rfl) ?_
            refine lv_if_eq (tgt := 119) hx hb dX5_decode_84 (by decide) (fun c_84 => ?_) (fun c_84 => absurd (by decide) c_84)
            refine lv_iload_n hx hb dX5_decode_119 rfl (lv_at hl 2 rfl) ?_
            refine lv_iconst (v := nI 1) hx hb dX5_decode_120 (by decide) ?_
            refine lv_iadd hx hb dX5_decode_121 ?_
            refine zz_top (nI_add i 1) ?_
            refine lv_aload_n hx hb dX5_decode_122 rfl (lv_at hl 1 rfl) ?_
            refine va_get (D := (dC, dI)) (ci := 4) (v := .int (nI nh)) (C := RX5) (T := TX5) (N := 15) hx hb hts iwX5 hown hK hP 0 rfl rfl 12 (by decide) fk48 (fun _ h9 => h9) rfl dX5_decode_123 ?_
            refine zn_icmp_ne (tgt := 138) hx hb dX5_decode_126 (by decide) (by omega) (by omega) (fun c_126 => ?_) (fun c_126 => ?_)
            ·
              have q1 : ¬ nh ≤ i + 1 := by omega
              have v1 := (zO_vN (HO i (by omega))).2
              have v2 := (zO_vN (HO (i + 1) (by omega))).2
              refine lv_aload_n hx hb dX5_decode_138 rfl (lv_at hl 1 rfl) ?_
              refine va_get (D := (dC, dI)) (ci := 4) (v := .ref qmh) (C := RX5) (T := TX5) (N := 15) hx hb hts iwX5 hown hK hP 0 rfl rfl 11 (by decide) fk33 (fun _ h9 => h9) rfl dX5_decode_139 ?_
              refine lv_iload_n hx hb dX5_decode_142 rfl (lv_at hl 2 rfl) ?_
              refine va_iald hx hb hK hP 2 0 rfl rfl (vp_in_nI (n := i) (by omega) (by decide)) dX5_decode_143 ?_
              refine zz_top (congrArg Hd (nI_clamp (n := i) (by omega))) ?_
              refine zz_top ((zO_vN (HO i (by omega))).1) ?_
              refine lv_iconst (v := nI 1) hx hb dX5_decode_144 (by decide) ?_
              refine lv_iadd hx hb dX5_decode_145 ?_
              refine zz_top (nI_add (vN (Hd i)) 1) ?_
              refine lv_istore (lv' := [(5, .int (nI (vN (Hd i) + 1))), (4, .int (nI 0)), (0, .ref qm), (1, .int (nI i)), (2, .int (nI u)), (3, .int (nI b))]) hx hb dX5_decode_146 hl (by decide) rfl (fun ls hl => ?_)
              refine lv_aload_n hx hb dX5_decode_148 rfl (lv_at hl 2 rfl) ?_
              refine va_get (D := (dC, dI)) (ci := 4) (v := .ref qmh) (C := RX5) (T := TX5) (N := 15) hx hb hts iwX5 hown hK hP 0 rfl rfl 11 (by decide) fk33 (fun _ h9 => h9) rfl dX5_decode_149 ?_
              refine lv_iload_n hx hb dX5_decode_152 rfl (lv_at hl 3 rfl) ?_
              refine lv_iconst (v := nI 1) hx hb dX5_decode_153 (by decide) ?_
              refine lv_iadd hx hb dX5_decode_154 ?_
              refine zz_top (nI_add i 1) ?_
              refine va_iald hx hb hK hP 2 0 rfl rfl (vp_in_nI (n := i + 1) (by omega) (by decide)) dX5_decode_155 ?_
              refine zz_top (congrArg Hd (nI_clamp (n := i + 1) (by omega))) ?_
              refine zz_top ((zO_vN (HO (i + 1) (by omega))).1) ?_
              refine lv_iconst (v := nI 3) hx hb dX5_decode_156 (by decide) ?_
              refine lv_iadd hx hb dX5_decode_157 ?_
              refine zz_top (nI_add (vN (Hd (i + 1))) 3) ?_
              refine lv_istore (lv' := [(6, .int (nI (vN (Hd (i + 1)) + 3))), (5, .int (nI (vN (Hd i) + 1))), (4, .int (nI 0)), (0, .ref qm), (1, .int (nI i)), (2, .int (nI u)), (3, .int (nI b))]) hx hb dX5_decode_158 hl (by decide) rfl (fun ls hl => ?_)
              refine lv_iload hx hb dX5_decode_160 (lv_at hl 1 rfl) ?_
              refine lv_aload_n hx hb dX5_decode_162 rfl (lv_at hl 3 rfl) ?_
              refine va_get (D := (dC, dI)) (ci := 4) (v := .int (nI mz)) (C := RX5) (T := TX5) (N := 15) hx hb hts iwX5 hown hK hP 0 rfl rfl 10 (by decide) fk51 (fun _ h9 => h9) rfl dX5_decode_163 ?_
              refine zn_icmp_gt (tgt := 182) hx hb dX5_decode_166 (by decide) (by omega) (by omega) (fun c_166 => ?_) (fun c_166 => ?_)
              ·
                refine lv_aload_n hx hb dX5_decode_182 rfl (lv_at hl 3 rfl) ?_
                refine lv_iload_n hx hb dX5_decode_183 rfl (lv_at hl 4 rfl) ?_
                have hPc := hP.sub (ws' := [(qm, .inr (4, [.ref qmd, .ref qmt, .int (nI n), .int (bI on), .int lf, .int (nI dn), .int pl, .ref qml, .int (nI k), .ref qmk, .int (nI mz), .ref qmh, .int (nI nh), .int th, .ref qmw]))]) [0] rfl
                have hKc := hK.sub (tys' := [(cyI, .int), (cyZ, .boolean)]) [0, 1] rfl
                have hDc := hD.sub (ws' := [(qm, .inr (4, [.ref qmd, .ref qmt, .int (nI n), .int (bI on), .int lf, .int (nI dn), .int pl, .ref qml, .int (nI k), .ref qmk, .int (nI mz), .ref qmh, .int (nI nh), .int th, .ref qmw]))]) [0] (by decide) rfl
                have hFc := va_free (wc := [(qm, .inr (4, [.ref qmd, .ref qmt, .int (nI n), .int (bI on), .int lf, .int (nI dn), .int pl, .ref qml, .int (nI k), .ref qmk, .int (nI mz), .ref qmh, .int (nI nh), .int th, .ref qmw]))]) hD hS hA [0] rfl
                refine va_calli (va_runV (As := [.int (nI i)]) (rest := []) ⟨hx, hb, hml, hown, hts⟩ (c_X5_wrong l dC dI cyI cyZ qm qmd qmt qml qmk qmh qmw H.size n on lf dn pl k mz nh th (nI i)) (cwV 1 hts gX5_decode_X5_wrong rfl rfl rfl (by decide +kernel) ⟨Nat.le_of_ble_eq_true rfl, Nat.le_of_ble_eq_true rfl⟩) ⟨zz_blW, va_recv hKc hPc (ci := 4) (q0 := 0) rfl rfl, fun U hU hW => ⟨rfl, by rw [hU], by rw [hU]; exact hPc, va_K.moved hW.alike hKc, hDc.weaken (fun _ _ _ _ => trivial)⟩⟩ rfl rfl hl.1 rfl (lv_room (Nat.le_of_ble_eq_true rfl)) dX5_decode_184 ⟨Nat.zero_le _, Nat.zero_le _⟩) hS (fun q _ h => hFc q h) hFc (fun r_184 uU tS H1 locs ht9 hvm9 hw9 hB9 hz1 hk1 hS => ?_)
                obtain ⟨hP1, hK1, hD1⟩ := hB9
                have hw9 : (r_184 = bI false) := hw9
                have hr_184 := hw9
                have hr_184 := Eq.symm hr_184
                subst hr_184
                rw [ht9] at hP1
                have hK1 := va_K.moved hvm9.symm hK1
                obtain ⟨hP, hD⟩ := va_join (wr := [(qmk, .inl (cyI, 460, .inl M)), (qmh, .inl (cyI, 460, .inl Hd))]) (w1 := [(qm, .inr (4, [.ref qmd, .ref qmt, .int (nI n), .int (bI on), .int lf, .int (nI dn), .int (nI i), .ref qml, .int (nI k), .ref qmk, .int (nI mz), .ref qmh, .int (nI nh), .int th, .ref qmw]))]) hP hD [0] [1, 2] rfl rfl (by decide) (by decide) hk1 hFc hP1 hD1
                generalize H1 = H at hP hS ⊢
                have hP : va_P (dC, dI) vwCl [(qmk, .inl (cyI, 460, .inl M)), (qmh, .inl (cyI, 460, .inl Hd)), (qm, .inr (4, [.ref qmd, .ref qmt, .int (nI n), .int (bI on), .int lf, .int (nI dn), .int (nI i), .ref qml, .int (nI k), .ref qmk, .int (nI mz), .ref qmh, .int (nI nh), .int th, .ref qmw]))] H := hP
                have hD : va_D A [(qmk, .inl (cyI, 460, .inl M)), (qmh, .inl (cyI, 460, .inl Hd)), (qm, .inr (4, [.ref qmd, .ref qmt, .int (nI n), .int (bI on), .int lf, .int (nI dn), .int (nI i), .ref qml, .int (nI k), .ref qmk, .int (nI mz), .ref qmh, .int (nI nh), .int th, .ref qmw]))] := hD
                have hE2 : zD Hd nh = (i + 1, mz, o) := by
                  rw [← hE]
                  exact dF_rowB hi9 hb8 c_53 q1 (by omega)
                have hP9 := hP.sub (ws' := [(qm, .inr (4, [.ref qmd, .ref qmt, .int (nI n), .int (bI on), .int lf, .int (nI dn), .int (nI i), .ref qml, .int (nI k), .ref qmk, .int (nI mz), .ref qmh, .int (nI nh), .int th, .ref qmw])), (qmk, .inl (cyI, 460, .inl M)), (qmh, .inl (cyI, 460, .inl Hd))]) [2, 0, 1] rfl
                have hD9 := hD.sub (ws' := [(qm, .inr (4, [.ref qmd, .ref qmt, .int (nI n), .int (bI on), .int lf, .int (nI dn), .int (nI i), .ref qml, .int (nI k), .ref qmk, .int (nI mz), .ref qmh, .int (nI nh), .int th, .ref qmw])), (qmk, .inl (cyI, 460, .inl M)), (qmh, .inl (cyI, 460, .inl Hd))]) [2, 0, 1] (by decide) rfl
                have hK9 := hK.sub (tys' := [(cyI, .int), (cyZ, .boolean)]) [0, 1] rfl
                have hret : (bI false : Int32) = bI (decide ((zD Hd nh).1 = 0)) := by rw [hE2]; rfl
                refine zz_top hret ?_
                exact W.zret hx hb hr (zz_narZ (by first | exact zz_zb _ | exact zz_z0 | exact zz_z1)) (fun tS ht hW => ⟨⟨_, ((nI i), mz, M), rfl, ⟨rfl, by rw [hE2]; exact (zPlM_s _ _).symm, by rw [hE2], by rw [hE2]; exact hF, hO, by omega⟩, by rw [ht]; exact hP9, va_K.moved hW.alike hK9, hD9⟩, hS.F ht⟩) hS.2.2 dX5_decode_187
              ·
                refine lv_aload_n hx hb dX5_decode_169 rfl (lv_at hl 3 rfl) ?_
                refine va_get (D := (dC, dI)) (ci := 4) (v := .int (nI mz)) (C := RX5) (T := TX5) (N := 15) hx hb hts iwX5 hown hK hP 0 rfl rfl 10 (by decide) fk51 (fun _ h9 => h9) rfl dX5_decode_170 ?_
                refine lv_iload hx hb dX5_decode_173 (lv_at hl 0 rfl) ?_
                refine lv_iadd hx hb dX5_decode_175 ?_
                refine zz_top (nI_add mz (vN (Hd (i + 1)) + 3)) ?_
                refine lv_sipush (v := nI 400) hx hb dX5_decode_176 (by decide) ?_
                refine zn_icmp_le (tgt := 188) hx hb dX5_decode_179 (by decide) (by omega) (by omega) (fun c_179 => ?_) (fun c_179 => ?_)
                ·
                  have q2 : ¬ (mz < vN (Hd i) + 1 ∨ 400 < mz + (vN (Hd (i + 1)) + 3)) := by omega
                  refine lv_iconst (v := nI 0) hx hb dX5_decode_188 (by decide) ?_
                  refine lv_istore (lv' := [(7, .int (nI 0)), (6, .int (nI (vN (Hd (i + 1)) + 3))), (5, .int (nI (vN (Hd i) + 1))), (4, .int (nI 0)), (0, .ref qm), (1, .int (nI i)), (2, .int (nI u)), (3, .int (nI b))]) hx hb dX5_decode_189 hl (by decide) rfl (fun ls hl => ?_)
                  refine zz_loopW (pc := 191) (μ := fun (q : Nat) => vN (Hd (i + 1)) + 3 - q) (Inv := fun (q : Nat) (H : Heap) (locs : List Loc) (ls : Array Slot) => (q ≤ vN (Hd (i + 1)) + 3) ∧ va_P (dC, dI) vwCl [(qm, .inr (4, [.ref qmd, .ref qmt, .int (nI n), .int (bI on), .int lf, .int (nI dn), .int pl, .ref qml, .int (nI k), .ref qmk, .int (nI (mz + q)), .ref qmh, .int (nI nh), .int th, .ref qmw])), (qmk, .inl (cyI, 460, .inl (zrep M mz (vN (Hd i) + 1) q))), (qmh, .inl (cyI, 460, .inl Hd))] H ∧ va_D A [(qm, .inr (4, [.ref qmd, .ref qmt, .int (nI n), .int (bI on), .int lf, .int (nI dn), .int pl, .ref qml, .int (nI k), .ref qmk, .int (nI (mz + q)), .ref qmh, .int (nI nh), .int th, .ref qmw])), (qmk, .inl (cyI, 460, .inl (zrep M mz (vN (Hd i) + 1) q))), (qmh, .inl (cyI, 460, .inl Hd))] ∧ va_S A sS.heap H locs ∧ lv_has ls 8 [(0, .ref qm), (1, .int (nI i)), (2, .int (nI u)), (3, .int (nI b)), (4, .int (nI 0)), (5, .int (nI (vN (Hd i) + 1))), (6, .int (nI (vN (Hd (i + 1)) + 3))), (7, .int (nI q))]) (x0 := (0)) ⟨by omega, hP, hD, hS, lv_sub hl [4, 5, 6, 7, 3, 2, 1, 0] rfl⟩ ?_
                  intro q H locs ls hI ih191
                  obtain ⟨hq, hP, hD, hS, hl⟩ := hI
                  have hl : lv_has ls 8 [(0, .ref qm), (1, .int (nI i)), (2, .int (nI u)), (3, .int (nI b)), (4, .int (nI 0)), (5, .int (nI (vN (Hd i) + 1))), (6, .int (nI (vN (Hd (i + 1)) + 3))), (7, .int (nI q))] := hl
                  have hP : va_P (dC, dI) vwCl [(qm, .inr (4, [.ref qmd, .ref qmt, .int (nI n), .int (bI on), .int lf, .int (nI dn), .int pl, .ref qml, .int (nI k), .ref qmk, .int (nI (mz + q)), .ref qmh, .int (nI nh), .int th, .ref qmw])), (qmk, .inl (cyI, 460, .inl (zrep M mz (vN (Hd i) + 1) q))), (qmh, .inl (cyI, 460, .inl Hd))] H := hP
                  have hD : va_D A [(qm, .inr (4, [.ref qmd, .ref qmt, .int (nI n), .int (bI on), .int lf, .int (nI dn), .int pl, .ref qml, .int (nI k), .ref qmk, .int (nI (mz + q)), .ref qmh, .int (nI nh), .int th, .ref qmw])), (qmk, .inl (cyI, 460, .inl (zrep M mz (vN (Hd i) + 1) q))), (qmh, .inl (cyI, 460, .inl Hd))] := hD
                  have hq : q ≤ vN (Hd (i + 1)) + 3 := hq
                  refine lv_iload hx hb dX5_decode_191 (lv_at hl 7 rfl) ?_
                  refine lv_iload hx hb dX5_decode_193 (lv_at hl 6 rfl) ?_
                  refine zn_icmp_ge (tgt := 220) hx hb dX5_decode_195 (by decide) (by omega) (by omega) (fun c_195 => ?_) (fun c_195 => ?_)
                  ·
                    have eq9 : q = vN (Hd (i + 1)) + 3 := by omega
                    subst eq9
                    refine lv_iinc (v := nI (i + 2)) (lv' := [(1, .int (nI (i + 2))), (0, .ref qm), (2, .int (nI u)), (3, .int (nI b)), (4, .int (nI 0)), (5, .int (nI (vN (Hd i) + 1))), (6, .int (nI (vN (Hd (i + 1)) + 3))), (7, .int (nI (vN (Hd (i + 1)) + 3)))]) hx hb dX5_decode_220 hl (k := 1) rfl (nI_add i 2) (by decide) rfl (fun ls hl => ?_)
                    refine lv_iinc (v := nI (b + 1)) (lv' := [(3, .int (nI (b + 1))), (1, .int (nI (i + 2))), (0, .ref qm), (2, .int (nI u)), (4, .int (nI 0)), (5, .int (nI (vN (Hd i) + 1))), (6, .int (nI (vN (Hd (i + 1)) + 3))), (7, .int (nI (vN (Hd (i + 1)) + 3)))]) hx hb dX5_decode_223 hl (k := 3) rfl (nI_add b 1) (by decide) rfl (fun ls hl => ?_)
                    refine lv_goto (tgt := 36) hx hb dX5_decode_226 (by decide) ?_
                    exact ih36 (i + 2, b + 1, f9, zrep o mz (vN (Hd i) + 1) (vN (Hd (i + 1)) + 3), zrep M mz (vN (Hd i) + 1) (vN (Hd (i + 1)) + 3), mz + (vN (Hd (i + 1)) + 3)) _ _ _ ⟨by omega, by omega, by omega, by omega, by omega, by omega, (dF_row hi9 hb8 c_53 q1 q2).symm.trans hE, zrep_cong (by omega) (by omega) hF _, zrep_O M (by omega) (by omega) hO _, hP, hD, hS, lv_sub hl [2, 1, 3, 0] rfl⟩ (by first | omega | (dsimp only; omega))
                  ·
                    refine lv_aload_n hx hb dX5_decode_198 rfl (lv_at hl 0 rfl) ?_
                    refine lv_aload_n hx hb dX5_decode_199 rfl (lv_at hl 0 rfl) ?_
                    refine va_get (D := (dC, dI)) (ci := 4) (v := .ref qmk) (C := RX5) (T := TX5) (N := 15) hx hb hts iwX5 hown hK hP 0 rfl rfl 9 (by decide) fk30 (fun _ h9 => h9) rfl dX5_decode_200 ?_
                    refine lv_aload_n hx hb dX5_decode_203 rfl (lv_at hl 0 rfl) ?_
                    refine va_get (D := (dC, dI)) (ci := 4) (v := .int (nI (mz + q))) (C := RX5) (T := TX5) (N := 15) hx hb hts iwX5 hown hK hP 0 rfl rfl 10 (by decide) fk51 (fun _ h9 => h9) rfl dX5_decode_204 ?_
                    refine lv_iload hx hb dX5_decode_207 (lv_at hl 5 rfl) ?_
                    refine lv_isub hx hb dX5_decode_209 ?_
                    refine zz_top (pk_sub (a := mz + q) (b := vN (Hd i) + 1) (by omega)) ?_
                    refine va_iald hx hb hK hP 1 0 rfl rfl (vp_in_nI (n := (mz + q) - (vN (Hd i) + 1)) (by omega) (by decide)) dX5_decode_210 ?_
                    refine zz_top (congrArg (zrep M mz (vN (Hd i) + 1) q) (nI_clamp (n := (mz + q) - (vN (Hd i) + 1)) (by omega))) ?_
                    have hPc := hP.sub (ws' := [(qm, .inr (4, [.ref qmd, .ref qmt, .int (nI n), .int (bI on), .int lf, .int (nI dn), .int pl, .ref qml, .int (nI k), .ref qmk, .int (nI (mz + q)), .ref qmh, .int (nI nh), .int th, .ref qmw])), (qmk, .inl (cyI, 460, .inl (zrep M mz (vN (Hd i) + 1) q)))]) [0, 1] rfl
                    have hKc := hK.sub (tys' := [(cyI, .int), (cyZ, .boolean)]) [0, 1] rfl
                    have hDc := hD.sub (ws' := [(qm, .inr (4, [.ref qmd, .ref qmt, .int (nI n), .int (bI on), .int lf, .int (nI dn), .int pl, .ref qml, .int (nI k), .ref qmk, .int (nI (mz + q)), .ref qmh, .int (nI nh), .int th, .ref qmw])), (qmk, .inl (cyI, 460, .inl (zrep M mz (vN (Hd i) + 1) q)))]) [0, 1] (by decide) rfl
                    have hFc := va_free (wc := [(qm, .inr (4, [.ref qmd, .ref qmt, .int (nI n), .int (bI on), .int lf, .int (nI dn), .int pl, .ref qml, .int (nI k), .ref qmk, .int (nI (mz + q)), .ref qmh, .int (nI nh), .int th, .ref qmw])), (qmk, .inl (cyI, 460, .inl (zrep M mz (vN (Hd i) + 1) q)))]) hD hS hA [0, 1] rfl
                    refine va_callv (va_runV (As := [.int ((zrep M mz (vN (Hd i) + 1) q) ((mz + q) - (vN (Hd i) + 1)))]) (rest := []) ⟨hx, hb, hml, hown, hts⟩ (c_X5_put l dC dI cyI cyZ qm qmk qmd qmt qml qmh qmw H.size n on lf dn pl k (mz + q) nh th (zrep M mz (vN (Hd i) + 1) q) ((zrep M mz (vN (Hd i) + 1) q) ((mz + q) - (vN (Hd i) + 1))) (by omega)) (cwV 1 hts gX5_decode_X5_put rfl rfl rfl (by decide +kernel) ⟨Nat.le_of_ble_eq_true rfl, Nat.le_of_ble_eq_true rfl⟩) ⟨zz_blW, va_recv hKc hPc (ci := 4) (q0 := 0) rfl rfl, fun U hU hW => ⟨rfl, by rw [hU], by rw [hU]; exact hPc, va_K.moved hW.alike hKc, hDc.weaken (fun _ _ _ _ => trivial)⟩⟩ rfl rfl hl.1 rfl (lv_room (Nat.le_of_ble_eq_true rfl)) dX5_decode_211 ⟨Nat.zero_le _, Nat.zero_le _⟩) hS (fun q _ h => hFc q h) hFc (fun uU tS H1 locs ht9 hvm9 hw9 hB9 hz1 hk1 hS => ?_)
                    obtain ⟨hP1, hK1, hD1⟩ := hB9
                    rw [ht9] at hP1
                    have hK1 := va_K.moved hvm9.symm hK1
                    obtain ⟨hP, hD⟩ := va_join (wr := [(qmh, .inl (cyI, 460, .inl Hd))]) (w1 := [(qm, .inr (4, [.ref qmd, .ref qmt, .int (nI n), .int (bI on), .int lf, .int (nI dn), .int pl, .ref qml, .int (nI k), .ref qmk, .int (nI ((mz + q) + 1)), .ref qmh, .int (nI nh), .int th, .ref qmw])), (qmk, .inl (cyI, 460, .inl (upd (zrep M mz (vN (Hd i) + 1) q) (mz + q) ((zrep M mz (vN (Hd i) + 1) q) ((mz + q) - (vN (Hd i) + 1))))))]) hP hD [0, 1] [2] rfl rfl (by decide) (by decide) hk1 hFc hP1 hD1
                    generalize H1 = H at hP hS ⊢
                    have hP : va_P (dC, dI) vwCl [(qmh, .inl (cyI, 460, .inl Hd)), (qm, .inr (4, [.ref qmd, .ref qmt, .int (nI n), .int (bI on), .int lf, .int (nI dn), .int pl, .ref qml, .int (nI k), .ref qmk, .int (nI ((mz + q) + 1)), .ref qmh, .int (nI nh), .int th, .ref qmw])), (qmk, .inl (cyI, 460, .inl (upd (zrep M mz (vN (Hd i) + 1) q) (mz + q) ((zrep M mz (vN (Hd i) + 1) q) ((mz + q) - (vN (Hd i) + 1))))))] H := hP
                    have hD : va_D A [(qmh, .inl (cyI, 460, .inl Hd)), (qm, .inr (4, [.ref qmd, .ref qmt, .int (nI n), .int (bI on), .int lf, .int (nI dn), .int pl, .ref qml, .int (nI k), .ref qmk, .int (nI ((mz + q) + 1)), .ref qmh, .int (nI nh), .int th, .ref qmw])), (qmk, .inl (cyI, 460, .inl (upd (zrep M mz (vN (Hd i) + 1) q) (mz + q) ((zrep M mz (vN (Hd i) + 1) q) ((mz + q) - (vN (Hd i) + 1))))))] := hD
                    refine lv_iinc (v := nI (q + 1)) (lv' := [(7, .int (nI (q + 1))), (0, .ref qm), (1, .int (nI i)), (2, .int (nI u)), (3, .int (nI b)), (4, .int (nI 0)), (5, .int (nI (vN (Hd i) + 1))), (6, .int (nI (vN (Hd (i + 1)) + 3)))]) hx hb dX5_decode_214 hl (k := 7) rfl (nI_add q 1) (by decide) rfl (fun ls hl => ?_)
                    refine lv_goto (tgt := 191) hx hb dX5_decode_217 (by decide) ?_
                    have hP := hP.sub (ws' := [(qm, .inr (4, [.ref qmd, .ref qmt, .int (nI n), .int (bI on), .int lf, .int (nI dn), .int pl, .ref qml, .int (nI k), .ref qmk, .int (nI ((mz + q) + 1)), .ref qmh, .int (nI nh), .int th, .ref qmw])), (qmk, .inl (cyI, 460, .inl (upd (zrep M mz (vN (Hd i) + 1) q) (mz + q) ((zrep M mz (vN (Hd i) + 1) q) ((mz + q) - (vN (Hd i) + 1)))))), (qmh, .inl (cyI, 460, .inl Hd))]) [1, 2, 0] rfl
                    have hD := hD.sub (ws' := [(qm, .inr (4, [.ref qmd, .ref qmt, .int (nI n), .int (bI on), .int lf, .int (nI dn), .int pl, .ref qml, .int (nI k), .ref qmk, .int (nI ((mz + q) + 1)), .ref qmh, .int (nI nh), .int th, .ref qmw])), (qmk, .inl (cyI, 460, .inl (upd (zrep M mz (vN (Hd i) + 1) q) (mz + q) ((zrep M mz (vN (Hd i) + 1) q) ((mz + q) - (vN (Hd i) + 1)))))), (qmh, .inl (cyI, 460, .inl Hd))]) [1, 2, 0] (by decide) rfl
                    -- cell qm: .inr (4, [.ref qmd, .ref qmt, .int (nI n), .int (bI on), .int lf, .int (nI dn), .int pl, .ref qml, .int (nI k), .ref qmk, .int (nI ((mz + q) + 1)), .ref qmh, .int (nI nh), .int th, .ref qmw]) ~ .inr (4, [.ref qmd, .ref qmt, .int (nI n), .int (bI on), .int lf, .int (nI dn), .int pl, .ref qml, .int (nI k), .ref qmk, .int (nI (mz + (q + 1))), .ref qmh, .int (nI nh), .int th, .ref qmw])
                    -- cell qmk: .inl (cyI, 460, .inl (upd (zrep M mz (vN (Hd i) + 1) q) (mz + q) ((zrep M mz (vN (Hd i) + 1) q) ((mz + q) - (vN (Hd i) + 1))))) ~ .inl (cyI, 460, .inl (zrep M mz (vN (Hd i) + 1) (q + 1)))
                    exact ih191 (q + 1) _ _ _ ⟨by omega, hP, hD, hS, lv_sub hl [1, 2, 3, 4, 5, 6, 7, 0] rfl⟩ (by first | omega | (dsimp only; omega))
                ·
                  refine lv_aload_n hx hb dX5_decode_182 rfl (lv_at hl 3 rfl) ?_
                  refine lv_iload_n hx hb dX5_decode_183 rfl (lv_at hl 4 rfl) ?_
                  have hPc := hP.sub (ws' := [(qm, .inr (4, [.ref qmd, .ref qmt, .int (nI n), .int (bI on), .int lf, .int (nI dn), .int pl, .ref qml, .int (nI k), .ref qmk, .int (nI mz), .ref qmh, .int (nI nh), .int th, .ref qmw]))]) [0] rfl
                  have hKc := hK.sub (tys' := [(cyI, .int), (cyZ, .boolean)]) [0, 1] rfl
                  have hDc := hD.sub (ws' := [(qm, .inr (4, [.ref qmd, .ref qmt, .int (nI n), .int (bI on), .int lf, .int (nI dn), .int pl, .ref qml, .int (nI k), .ref qmk, .int (nI mz), .ref qmh, .int (nI nh), .int th, .ref qmw]))]) [0] (by decide) rfl
                  have hFc := va_free (wc := [(qm, .inr (4, [.ref qmd, .ref qmt, .int (nI n), .int (bI on), .int lf, .int (nI dn), .int pl, .ref qml, .int (nI k), .ref qmk, .int (nI mz), .ref qmh, .int (nI nh), .int th, .ref qmw]))]) hD hS hA [0] rfl
                  refine va_calli (va_runV (As := [.int (nI i)]) (rest := []) ⟨hx, hb, hml, hown, hts⟩ (c_X5_wrong l dC dI cyI cyZ qm qmd qmt qml qmk qmh qmw H.size n on lf dn pl k mz nh th (nI i)) (cwV 1 hts gX5_decode_X5_wrong rfl rfl rfl (by decide +kernel) ⟨Nat.le_of_ble_eq_true rfl, Nat.le_of_ble_eq_true rfl⟩) ⟨zz_blW, va_recv hKc hPc (ci := 4) (q0 := 0) rfl rfl, fun U hU hW => ⟨rfl, by rw [hU], by rw [hU]; exact hPc, va_K.moved hW.alike hKc, hDc.weaken (fun _ _ _ _ => trivial)⟩⟩ rfl rfl hl.1 rfl (lv_room (Nat.le_of_ble_eq_true rfl)) dX5_decode_184 ⟨Nat.zero_le _, Nat.zero_le _⟩) hS (fun q _ h => hFc q h) hFc (fun r_184 uU tS H1 locs ht9 hvm9 hw9 hB9 hz1 hk1 hS => ?_)
                  obtain ⟨hP1, hK1, hD1⟩ := hB9
                  have hw9 : (r_184 = bI false) := hw9
                  have hr_184 := hw9
                  have hr_184 := Eq.symm hr_184
                  subst hr_184
                  rw [ht9] at hP1
                  have hK1 := va_K.moved hvm9.symm hK1
                  obtain ⟨hP, hD⟩ := va_join (wr := [(qmk, .inl (cyI, 460, .inl M)), (qmh, .inl (cyI, 460, .inl Hd))]) (w1 := [(qm, .inr (4, [.ref qmd, .ref qmt, .int (nI n), .int (bI on), .int lf, .int (nI dn), .int (nI i), .ref qml, .int (nI k), .ref qmk, .int (nI mz), .ref qmh, .int (nI nh), .int th, .ref qmw]))]) hP hD [0] [1, 2] rfl rfl (by decide) (by decide) hk1 hFc hP1 hD1
                  generalize H1 = H at hP hS ⊢
                  have hP : va_P (dC, dI) vwCl [(qmk, .inl (cyI, 460, .inl M)), (qmh, .inl (cyI, 460, .inl Hd)), (qm, .inr (4, [.ref qmd, .ref qmt, .int (nI n), .int (bI on), .int lf, .int (nI dn), .int (nI i), .ref qml, .int (nI k), .ref qmk, .int (nI mz), .ref qmh, .int (nI nh), .int th, .ref qmw]))] H := hP
                  have hD : va_D A [(qmk, .inl (cyI, 460, .inl M)), (qmh, .inl (cyI, 460, .inl Hd)), (qm, .inr (4, [.ref qmd, .ref qmt, .int (nI n), .int (bI on), .int lf, .int (nI dn), .int (nI i), .ref qml, .int (nI k), .ref qmk, .int (nI mz), .ref qmh, .int (nI nh), .int th, .ref qmw]))] := hD
                  have hE2 : zD Hd nh = (i + 1, mz, o) := by
                    rw [← hE]
                    exact dF_rowB hi9 hb8 c_53 q1 (by omega)
                  have hP9 := hP.sub (ws' := [(qm, .inr (4, [.ref qmd, .ref qmt, .int (nI n), .int (bI on), .int lf, .int (nI dn), .int (nI i), .ref qml, .int (nI k), .ref qmk, .int (nI mz), .ref qmh, .int (nI nh), .int th, .ref qmw])), (qmk, .inl (cyI, 460, .inl M)), (qmh, .inl (cyI, 460, .inl Hd))]) [2, 0, 1] rfl
                  have hD9 := hD.sub (ws' := [(qm, .inr (4, [.ref qmd, .ref qmt, .int (nI n), .int (bI on), .int lf, .int (nI dn), .int (nI i), .ref qml, .int (nI k), .ref qmk, .int (nI mz), .ref qmh, .int (nI nh), .int th, .ref qmw])), (qmk, .inl (cyI, 460, .inl M)), (qmh, .inl (cyI, 460, .inl Hd))]) [2, 0, 1] (by decide) rfl
                  have hK9 := hK.sub (tys' := [(cyI, .int), (cyZ, .boolean)]) [0, 1] rfl
                  have hret : (bI false : Int32) = bI (decide ((zD Hd nh).1 = 0)) := by rw [hE2]; rfl
                  refine zz_top hret ?_
                  exact W.zret hx hb hr (zz_narZ (by first | exact zz_zb _ | exact zz_z0 | exact zz_z1)) (fun tS ht hW => ⟨⟨_, ((nI i), mz, M), rfl, ⟨rfl, by rw [hE2]; exact (zPlM_s _ _).symm, by rw [hE2], by rw [hE2]; exact hF, hO, by omega⟩, by rw [ht]; exact hP9, va_K.moved hW.alike hK9, hD9⟩, hS.F ht⟩) hS.2.2 dX5_decode_187
            ·
              have q1 : nh ≤ i + 1 := by omega
              refine lv_aload_n hx hb dX5_decode_129 rfl (lv_at hl 1 rfl) ?_
              refine lv_aload_n hx hb dX5_decode_130 rfl (lv_at hl 1 rfl) ?_
              refine va_get (D := (dC, dI)) (ci := 4) (v := .int (nI nh)) (C := RX5) (T := TX5) (N := 15) hx hb hts iwX5 hown hK hP 0 rfl rfl 12 (by decide) fk48 (fun _ h9 => h9) rfl dX5_decode_131 ?_
              have hPc := hP.sub (ws' := [(qm, .inr (4, [.ref qmd, .ref qmt, .int (nI n), .int (bI on), .int lf, .int (nI dn), .int pl, .ref qml, .int (nI k), .ref qmk, .int (nI mz), .ref qmh, .int (nI nh), .int th, .ref qmw]))]) [0] rfl
              have hKc := hK.sub (tys' := [(cyI, .int), (cyZ, .boolean)]) [0, 1] rfl
              have hDc := hD.sub (ws' := [(qm, .inr (4, [.ref qmd, .ref qmt, .int (nI n), .int (bI on), .int lf, .int (nI dn), .int pl, .ref qml, .int (nI k), .ref qmk, .int (nI mz), .ref qmh, .int (nI nh), .int th, .ref qmw]))]) [0] (by decide) rfl
              have hFc := va_free (wc := [(qm, .inr (4, [.ref qmd, .ref qmt, .int (nI n), .int (bI on), .int lf, .int (nI dn), .int pl, .ref qml, .int (nI k), .ref qmk, .int (nI mz), .ref qmh, .int (nI nh), .int th, .ref qmw]))]) hD hS hA [0] rfl
              refine va_calli (va_runV (As := [.int (nI nh)]) (rest := []) ⟨hx, hb, hml, hown, hts⟩ (c_X5_wrong l dC dI cyI cyZ qm qmd qmt qml qmk qmh qmw H.size n on lf dn pl k mz nh th (nI nh)) (cwV 1 hts gX5_decode_X5_wrong rfl rfl rfl (by decide +kernel) ⟨Nat.le_of_ble_eq_true rfl, Nat.le_of_ble_eq_true rfl⟩) ⟨zz_blW, va_recv hKc hPc (ci := 4) (q0 := 0) rfl rfl, fun U hU hW => ⟨rfl, by rw [hU], by rw [hU]; exact hPc, va_K.moved hW.alike hKc, hDc.weaken (fun _ _ _ _ => trivial)⟩⟩ rfl rfl hl.1 rfl (lv_room (Nat.le_of_ble_eq_true rfl)) dX5_decode_134 ⟨Nat.zero_le _, Nat.zero_le _⟩) hS (fun q _ h => hFc q h) hFc (fun r_134 uU tS H1 locs ht9 hvm9 hw9 hB9 hz1 hk1 hS => ?_)
              obtain ⟨hP1, hK1, hD1⟩ := hB9
              have hw9 : (r_134 = bI false) := hw9
              have hr_134 := hw9
              have hr_134 := Eq.symm hr_134
              subst hr_134
              rw [ht9] at hP1
              have hK1 := va_K.moved hvm9.symm hK1
              obtain ⟨hP, hD⟩ := va_join (wr := [(qmk, .inl (cyI, 460, .inl M)), (qmh, .inl (cyI, 460, .inl Hd))]) (w1 := [(qm, .inr (4, [.ref qmd, .ref qmt, .int (nI n), .int (bI on), .int lf, .int (nI dn), .int (nI nh), .ref qml, .int (nI k), .ref qmk, .int (nI mz), .ref qmh, .int (nI nh), .int th, .ref qmw]))]) hP hD [0] [1, 2] rfl rfl (by decide) (by decide) hk1 hFc hP1 hD1
              generalize H1 = H at hP hS ⊢
              have hP : va_P (dC, dI) vwCl [(qmk, .inl (cyI, 460, .inl M)), (qmh, .inl (cyI, 460, .inl Hd)), (qm, .inr (4, [.ref qmd, .ref qmt, .int (nI n), .int (bI on), .int lf, .int (nI dn), .int (nI nh), .ref qml, .int (nI k), .ref qmk, .int (nI mz), .ref qmh, .int (nI nh), .int th, .ref qmw]))] H := hP
              have hD : va_D A [(qmk, .inl (cyI, 460, .inl M)), (qmh, .inl (cyI, 460, .inl Hd)), (qm, .inr (4, [.ref qmd, .ref qmt, .int (nI n), .int (bI on), .int lf, .int (nI dn), .int (nI nh), .ref qml, .int (nI k), .ref qmk, .int (nI mz), .ref qmh, .int (nI nh), .int th, .ref qmw]))] := hD
              have hE2 : zD Hd nh = (nh + 1, mz, o) := by
                rw [← hE]
                exact dF_half hi9 hb8 c_53 q1
              have hP9 := hP.sub (ws' := [(qm, .inr (4, [.ref qmd, .ref qmt, .int (nI n), .int (bI on), .int lf, .int (nI dn), .int (nI nh), .ref qml, .int (nI k), .ref qmk, .int (nI mz), .ref qmh, .int (nI nh), .int th, .ref qmw])), (qmk, .inl (cyI, 460, .inl M)), (qmh, .inl (cyI, 460, .inl Hd))]) [2, 0, 1] rfl
              have hD9 := hD.sub (ws' := [(qm, .inr (4, [.ref qmd, .ref qmt, .int (nI n), .int (bI on), .int lf, .int (nI dn), .int (nI nh), .ref qml, .int (nI k), .ref qmk, .int (nI mz), .ref qmh, .int (nI nh), .int th, .ref qmw])), (qmk, .inl (cyI, 460, .inl M)), (qmh, .inl (cyI, 460, .inl Hd))]) [2, 0, 1] (by decide) rfl
              have hK9 := hK.sub (tys' := [(cyI, .int), (cyZ, .boolean)]) [0, 1] rfl
              have hret : (bI false : Int32) = bI (decide ((zD Hd nh).1 = 0)) := by rw [hE2]; rfl
              refine zz_top hret ?_
              exact W.zret hx hb hr (zz_narZ (by first | exact zz_zb _ | exact zz_z0 | exact zz_z1)) (fun tS ht hW => ⟨⟨_, ((nI nh), mz, M), rfl, ⟨rfl, by rw [hE2]; exact (zPlM_s _ _).symm, by rw [hE2], by rw [hE2]; exact hF, hO, by omega⟩, by rw [ht]; exact hP9, va_K.moved hW.alike hK9, hD9⟩, hS.F ht⟩) hS.2.2 dX5_decode_137
          ·
            refine lv_iload hx hb dX5_decode_71 (lv_at hl 0 rfl) ?_
            refine lv_if_eq (tgt := 223) hx hb dX5_decode_73 (by decide) (fun c_73 => ?_) (fun c_73 => absurd (by decide) c_73)
            refine lv_iinc (v := nI (b + 1)) (lv' := [(3, .int (nI (b + 1))), (4, .int (nI 0)), (0, .ref qm), (1, .int (nI i)), (2, .int (nI u))]) hx hb dX5_decode_223 hl (k := 4) rfl (nI_add b 1) (by decide) rfl (fun ls hl => ?_)
            refine lv_goto (tgt := 36) hx hb dX5_decode_226 (by decide) ?_
            have e68 : i = nh := by omega
            subst e68
            obtain ⟨f9, e9⟩ : ∃ f9, f = f9 + 1 := ⟨f - 1, by omega⟩
            subst e9
            exact ih36 (i, b + 1, f9 + 1, o, M, mz) _ _ _ ⟨by omega, by omega, by omega, by omega, by omega, by omega, (dF_skip (HO u (by omega)) (by omega) (by omega) c_53).symm.trans hE, hF, hO, hP, hD, hS, lv_sub hl [2, 3, 4, 0] rfl⟩ (by first | omega | (dsimp only; omega))
        ·
          refine lv_iconst (v := nI 1) hx hb dX5_decode_56 (by decide) ?_
          refine lv_goto (tgt := 61) hx hb dX5_decode_57 (by decide) ?_
          refine lv_istore (lv' := [(4, .int (nI 1)), (0, .ref qm), (1, .int (nI i)), (2, .int (nI u)), (3, .int (nI b))]) hx hb dX5_decode_61 hl (by decide) rfl (fun ls hl => ?_)
          refine lv_iload_n hx hb dX5_decode_63 rfl (lv_at hl 2 rfl) ?_
          refine lv_aload_n hx hb dX5_decode_64 rfl (lv_at hl 1 rfl) ?_
          refine va_get (D := (dC, dI)) (ci := 4) (v := .int (nI nh)) (C := RX5) (T := TX5) (N := 15) hx hb hts iwX5 hown hK hP 0 rfl rfl 12 (by decide) fk48 (fun _ h9 => h9) rfl dX5_decode_65 ?_
          refine zn_icmp_ne (tgt := 82) hx hb dX5_decode_68 (by decide) (by omega) (by omega) (fun c_68 => ?_) (fun c_68 => ?_)
          ·
            have hi9 : i < nh := by omega
            obtain ⟨f9, e9⟩ : ∃ f9, f = f9 + 1 := ⟨f - 1, by omega⟩
            subst e9
            refine lv_iload hx hb dX5_decode_82 (lv_at hl 0 rfl) ?_
            refine lv_if_eq (tgt := 119) hx hb dX5_decode_84 (by decide) (fun c_84 => absurd c_84 (by decide)) (fun c_84 => ?_)
            refine lv_aload_n hx hb dX5_decode_87 rfl (lv_at hl 1 rfl) ?_
            refine va_get (D := (dC, dI)) (ci := 4) (v := .int (nI mz)) (C := RX5) (T := TX5) (N := 15) hx hb hts iwX5 hown hK hP 0 rfl rfl 10 (by decide) fk51 (fun _ h9 => h9) rfl dX5_decode_88 ?_
            refine lv_sipush (v := nI 400) hx hb dX5_decode_91 (by decide) ?_
            refine zn_icmp_ne (tgt := 103) hx hb dX5_decode_94 (by decide) (by omega) (by omega) (fun c_94 => ?_) (fun c_94 => ?_)
            ·
              refine lv_aload_n hx hb dX5_decode_103 rfl (lv_at hl 1 rfl) ?_
              refine lv_aload_n hx hb dX5_decode_104 rfl (lv_at hl 1 rfl) ?_
              refine va_get (D := (dC, dI)) (ci := 4) (v := .ref qmh) (C := RX5) (T := TX5) (N := 15) hx hb hts iwX5 hown hK hP 0 rfl rfl 11 (by decide) fk33 (fun _ h9 => h9) rfl dX5_decode_105 ?_
              refine lv_iload_n hx hb dX5_decode_108 rfl (lv_at hl 2 rfl) ?_
              refine va_iald hx hb hK hP 2 0 rfl rfl (vp_in_nI (n := i) (by omega) (by decide)) dX5_decode_109 ?_
              refine zz_top (congrArg Hd (nI_clamp (n := i) (by omega))) ?_
              have hPc := hP.sub (ws' := [(qm, .inr (4, [.ref qmd, .ref qmt, .int (nI n), .int (bI on), .int lf, .int (nI dn), .int pl, .ref qml, .int (nI k), .ref qmk, .int (nI mz), .ref qmh, .int (nI nh), .int th, .ref qmw])), (qmk, .inl (cyI, 460, .inl M))]) [0, 1] rfl
              have hKc := hK.sub (tys' := [(cyI, .int), (cyZ, .boolean)]) [0, 1] rfl
              have hDc := hD.sub (ws' := [(qm, .inr (4, [.ref qmd, .ref qmt, .int (nI n), .int (bI on), .int lf, .int (nI dn), .int pl, .ref qml, .int (nI k), .ref qmk, .int (nI mz), .ref qmh, .int (nI nh), .int th, .ref qmw])), (qmk, .inl (cyI, 460, .inl M))]) [0, 1] (by decide) rfl
              have hFc := va_free (wc := [(qm, .inr (4, [.ref qmd, .ref qmt, .int (nI n), .int (bI on), .int lf, .int (nI dn), .int pl, .ref qml, .int (nI k), .ref qmk, .int (nI mz), .ref qmh, .int (nI nh), .int th, .ref qmw])), (qmk, .inl (cyI, 460, .inl M))]) hD hS hA [0, 1] rfl
              refine va_callv (va_runV (As := [.int (Hd i)]) (rest := []) ⟨hx, hb, hml, hown, hts⟩ (c_X5_put l dC dI cyI cyZ qm qmk qmd qmt qml qmh qmw H.size n on lf dn pl k mz nh th M (Hd i) (by omega)) (cwV 1 hts gX5_decode_X5_put rfl rfl rfl (by decide +kernel) ⟨Nat.le_of_ble_eq_true rfl, Nat.le_of_ble_eq_true rfl⟩) ⟨zz_blW, va_recv hKc hPc (ci := 4) (q0 := 0) rfl rfl, fun U hU hW => ⟨rfl, by rw [hU], by rw [hU]; exact hPc, va_K.moved hW.alike hKc, hDc.weaken (fun _ _ _ _ => trivial)⟩⟩ rfl rfl hl.1 rfl (lv_room (Nat.le_of_ble_eq_true rfl)) dX5_decode_110 ⟨Nat.zero_le _, Nat.zero_le _⟩) hS (fun q _ h => hFc q h) hFc (fun uU tS H1 locs ht9 hvm9 hw9 hB9 hz1 hk1 hS => ?_)
              obtain ⟨hP1, hK1, hD1⟩ := hB9
              rw [ht9] at hP1
              have hK1 := va_K.moved hvm9.symm hK1
              obtain ⟨hP, hD⟩ := va_join (wr := [(qmh, .inl (cyI, 460, .inl Hd))]) (w1 := [(qm, .inr (4, [.ref qmd, .ref qmt, .int (nI n), .int (bI on), .int lf, .int (nI dn), .int pl, .ref qml, .int (nI k), .ref qmk, .int (nI (mz + 1)), .ref qmh, .int (nI nh), .int th, .ref qmw])), (qmk, .inl (cyI, 460, .inl (upd M mz (Hd i))))]) hP hD [0, 1] [2] rfl rfl (by decide) (by decide) hk1 hFc hP1 hD1
              generalize H1 = H at hP hS ⊢
              have hP : va_P (dC, dI) vwCl [(qmh, .inl (cyI, 460, .inl Hd)), (qm, .inr (4, [.ref qmd, .ref qmt, .int (nI n), .int (bI on), .int lf, .int (nI dn), .int pl, .ref qml, .int (nI k), .ref qmk, .int (nI (mz + 1)), .ref qmh, .int (nI nh), .int th, .ref qmw])), (qmk, .inl (cyI, 460, .inl (upd M mz (Hd i))))] H := hP
              have hD : va_D A [(qmh, .inl (cyI, 460, .inl Hd)), (qm, .inr (4, [.ref qmd, .ref qmt, .int (nI n), .int (bI on), .int lf, .int (nI dn), .int pl, .ref qml, .int (nI k), .ref qmk, .int (nI (mz + 1)), .ref qmh, .int (nI nh), .int th, .ref qmw])), (qmk, .inl (cyI, 460, .inl (upd M mz (Hd i))))] := hD
              refine lv_iinc (v := nI (i + 1)) (lv' := [(1, .int (nI (i + 1))), (4, .int (nI 1)), (0, .ref qm), (2, .int (nI u)), (3, .int (nI b))]) hx hb dX5_decode_113 hl (k := 2) rfl (nI_add i 1) (by decide) rfl (fun ls hl => ?_)
              refine lv_goto (tgt := 223) hx hb dX5_decode_116 (by decide) ?_
              refine lv_iinc (v := nI (b + 1)) (lv' := [(3, .int (nI (b + 1))), (1, .int (nI (i + 1))), (4, .int (nI 1)), (0, .ref qm), (2, .int (nI u))]) hx hb dX5_decode_223 hl (k := 4) rfl (nI_add b 1) (by decide) rfl (fun ls hl => ?_)
              refine lv_goto (tgt := 36) hx hb dX5_decode_226 (by decide) ?_
              have hP := hP.sub (ws' := [(qm, .inr (4, [.ref qmd, .ref qmt, .int (nI n), .int (bI on), .int lf, .int (nI dn), .int pl, .ref qml, .int (nI k), .ref qmk, .int (nI (mz + 1)), .ref qmh, .int (nI nh), .int th, .ref qmw])), (qmk, .inl (cyI, 460, .inl (upd M mz (Hd i)))), (qmh, .inl (cyI, 460, .inl Hd))]) [1, 2, 0] rfl
              have hD := hD.sub (ws' := [(qm, .inr (4, [.ref qmd, .ref qmt, .int (nI n), .int (bI on), .int lf, .int (nI dn), .int pl, .ref qml, .int (nI k), .ref qmk, .int (nI (mz + 1)), .ref qmh, .int (nI nh), .int th, .ref qmw])), (qmk, .inl (cyI, 460, .inl (upd M mz (Hd i)))), (qmh, .inl (cyI, 460, .inl Hd))]) [1, 2, 0] (by decide) rfl
              exact ih36 (i + 1, b + 1, f9, upd o mz (Hd i), upd M mz (Hd i), mz + 1) _ _ _ ⟨by omega, by omega, by omega, by omega, by omega, by omega, (dF_one hi9 hb8 c_53 (by omega)).symm.trans hE, upd_new hF rfl, arr_O hO (HO i hi9), hP, hD, hS, lv_sub hl [3, 1, 4, 0] rfl⟩ (by first | omega | (dsimp only; omega))
            ·
              refine lv_aload_n hx hb dX5_decode_97 rfl (lv_at hl 1 rfl) ?_
              refine lv_iload_n hx hb dX5_decode_98 rfl (lv_at hl 2 rfl) ?_
              have hPc := hP.sub (ws' := [(qm, .inr (4, [.ref qmd, .ref qmt, .int (nI n), .int (bI on), .int lf, .int (nI dn), .int pl, .ref qml, .int (nI k), .ref qmk, .int (nI mz), .ref qmh, .int (nI nh), .int th, .ref qmw]))]) [0] rfl
              have hKc := hK.sub (tys' := [(cyI, .int), (cyZ, .boolean)]) [0, 1] rfl
              have hDc := hD.sub (ws' := [(qm, .inr (4, [.ref qmd, .ref qmt, .int (nI n), .int (bI on), .int lf, .int (nI dn), .int pl, .ref qml, .int (nI k), .ref qmk, .int (nI mz), .ref qmh, .int (nI nh), .int th, .ref qmw]))]) [0] (by decide) rfl
              have hFc := va_free (wc := [(qm, .inr (4, [.ref qmd, .ref qmt, .int (nI n), .int (bI on), .int lf, .int (nI dn), .int pl, .ref qml, .int (nI k), .ref qmk, .int (nI mz), .ref qmh, .int (nI nh), .int th, .ref qmw]))]) hD hS hA [0] rfl
              refine va_calli (va_runV (As := [.int (nI i)]) (rest := []) ⟨hx, hb, hml, hown, hts⟩ (c_X5_wrong l dC dI cyI cyZ qm qmd qmt qml qmk qmh qmw H.size n on lf dn pl k mz nh th (nI i)) (cwV 1 hts gX5_decode_X5_wrong rfl rfl rfl (by decide +kernel) ⟨Nat.le_of_ble_eq_true rfl, Nat.le_of_ble_eq_true rfl⟩) ⟨zz_blW, va_recv hKc hPc (ci := 4) (q0 := 0) rfl rfl, fun U hU hW => ⟨rfl, by rw [hU], by rw [hU]; exact hPc, va_K.moved hW.alike hKc, hDc.weaken (fun _ _ _ _ => trivial)⟩⟩ rfl rfl hl.1 rfl (lv_room (Nat.le_of_ble_eq_true rfl)) dX5_decode_99 ⟨Nat.zero_le _, Nat.zero_le _⟩) hS (fun q _ h => hFc q h) hFc (fun r_99 uU tS H1 locs ht9 hvm9 hw9 hB9 hz1 hk1 hS => ?_)
              obtain ⟨hP1, hK1, hD1⟩ := hB9
              have hw9 : (r_99 = bI false) := hw9
              have hr_99 := hw9
              have hr_99 := Eq.symm hr_99
              subst hr_99
              rw [ht9] at hP1
              have hK1 := va_K.moved hvm9.symm hK1
              obtain ⟨hP, hD⟩ := va_join (wr := [(qmk, .inl (cyI, 460, .inl M)), (qmh, .inl (cyI, 460, .inl Hd))]) (w1 := [(qm, .inr (4, [.ref qmd, .ref qmt, .int (nI n), .int (bI on), .int lf, .int (nI dn), .int (nI i), .ref qml, .int (nI k), .ref qmk, .int (nI mz), .ref qmh, .int (nI nh), .int th, .ref qmw]))]) hP hD [0] [1, 2] rfl rfl (by decide) (by decide) hk1 hFc hP1 hD1
              generalize H1 = H at hP hS ⊢
              have hP : va_P (dC, dI) vwCl [(qmk, .inl (cyI, 460, .inl M)), (qmh, .inl (cyI, 460, .inl Hd)), (qm, .inr (4, [.ref qmd, .ref qmt, .int (nI n), .int (bI on), .int lf, .int (nI dn), .int (nI i), .ref qml, .int (nI k), .ref qmk, .int (nI mz), .ref qmh, .int (nI nh), .int th, .ref qmw]))] H := hP
              have hD : va_D A [(qmk, .inl (cyI, 460, .inl M)), (qmh, .inl (cyI, 460, .inl Hd)), (qm, .inr (4, [.ref qmd, .ref qmt, .int (nI n), .int (bI on), .int lf, .int (nI dn), .int (nI i), .ref qml, .int (nI k), .ref qmk, .int (nI mz), .ref qmh, .int (nI nh), .int th, .ref qmw]))] := hD
              have hE2 : zD Hd nh = (i + 1, mz, o) := by
                rw [← hE]
                exact dF_oneB hi9 hb8 c_53 (by omega)
              have hP9 := hP.sub (ws' := [(qm, .inr (4, [.ref qmd, .ref qmt, .int (nI n), .int (bI on), .int lf, .int (nI dn), .int (nI i), .ref qml, .int (nI k), .ref qmk, .int (nI mz), .ref qmh, .int (nI nh), .int th, .ref qmw])), (qmk, .inl (cyI, 460, .inl M)), (qmh, .inl (cyI, 460, .inl Hd))]) [2, 0, 1] rfl
              have hD9 := hD.sub (ws' := [(qm, .inr (4, [.ref qmd, .ref qmt, .int (nI n), .int (bI on), .int lf, .int (nI dn), .int (nI i), .ref qml, .int (nI k), .ref qmk, .int (nI mz), .ref qmh, .int (nI nh), .int th, .ref qmw])), (qmk, .inl (cyI, 460, .inl M)), (qmh, .inl (cyI, 460, .inl Hd))]) [2, 0, 1] (by decide) rfl
              have hK9 := hK.sub (tys' := [(cyI, .int), (cyZ, .boolean)]) [0, 1] rfl
              have hret : (bI false : Int32) = bI (decide ((zD Hd nh).1 = 0)) := by rw [hE2]; rfl
              refine zz_top hret ?_
              exact W.zret hx hb hr (zz_narZ (by first | exact zz_zb _ | exact zz_z0 | exact zz_z1)) (fun tS ht hW => ⟨⟨_, ((nI i), mz, M), rfl, ⟨rfl, by rw [hE2]; exact (zPlM_s _ _).symm, by rw [hE2], by rw [hE2]; exact hF, hO, by omega⟩, by rw [ht]; exact hP9, va_K.moved hW.alike hK9, hD9⟩, hS.F ht⟩) hS.2.2 dX5_decode_102
          ·
            refine lv_iload hx hb dX5_decode_71 (lv_at hl 0 rfl) ?_
            refine lv_if_eq (tgt := 223) hx hb dX5_decode_73 (by decide) (fun c_73 => absurd c_73 (by decide)) (fun c_73 => ?_)
            refine lv_aload_n hx hb dX5_decode_76 rfl (lv_at hl 1 rfl) ?_
            refine lv_iload_n hx hb dX5_decode_77 rfl (lv_at hl 3 rfl) ?_
            have hPc := hP.sub (ws' := [(qm, .inr (4, [.ref qmd, .ref qmt, .int (nI n), .int (bI on), .int lf, .int (nI dn), .int pl, .ref qml, .int (nI k), .ref qmk, .int (nI mz), .ref qmh, .int (nI nh), .int th, .ref qmw]))]) [0] rfl
            have hKc := hK.sub (tys' := [(cyI, .int), (cyZ, .boolean)]) [0, 1] rfl
            have hDc := hD.sub (ws' := [(qm, .inr (4, [.ref qmd, .ref qmt, .int (nI n), .int (bI on), .int lf, .int (nI dn), .int pl, .ref qml, .int (nI k), .ref qmk, .int (nI mz), .ref qmh, .int (nI nh), .int th, .ref qmw]))]) [0] (by decide) rfl
            have hFc := va_free (wc := [(qm, .inr (4, [.ref qmd, .ref qmt, .int (nI n), .int (bI on), .int lf, .int (nI dn), .int pl, .ref qml, .int (nI k), .ref qmk, .int (nI mz), .ref qmh, .int (nI nh), .int th, .ref qmw]))]) hD hS hA [0] rfl
            refine va_calli (va_runV (As := [.int (nI u)]) (rest := []) ⟨hx, hb, hml, hown, hts⟩ (c_X5_wrong l dC dI cyI cyZ qm qmd qmt qml qmk qmh qmw H.size n on lf dn pl k mz nh th (nI u)) (cwV 1 hts gX5_decode_X5_wrong rfl rfl rfl (by decide +kernel) ⟨Nat.le_of_ble_eq_true rfl, Nat.le_of_ble_eq_true rfl⟩) ⟨zz_blW, va_recv hKc hPc (ci := 4) (q0 := 0) rfl rfl, fun U hU hW => ⟨rfl, by rw [hU], by rw [hU]; exact hPc, va_K.moved hW.alike hKc, hDc.weaken (fun _ _ _ _ => trivial)⟩⟩ rfl rfl hl.1 rfl (lv_room (Nat.le_of_ble_eq_true rfl)) dX5_decode_78 ⟨Nat.zero_le _, Nat.zero_le _⟩) hS (fun q _ h => hFc q h) hFc (fun r_78 uU tS H1 locs ht9 hvm9 hw9 hB9 hz1 hk1 hS => ?_)
            obtain ⟨hP1, hK1, hD1⟩ := hB9
            have hw9 : (r_78 = bI false) := hw9
            have hr_78 := hw9
            have hr_78 := Eq.symm hr_78
            subst hr_78
            rw [ht9] at hP1
            have hK1 := va_K.moved hvm9.symm hK1
            obtain ⟨hP, hD⟩ := va_join (wr := [(qmk, .inl (cyI, 460, .inl M)), (qmh, .inl (cyI, 460, .inl Hd))]) (w1 := [(qm, .inr (4, [.ref qmd, .ref qmt, .int (nI n), .int (bI on), .int lf, .int (nI dn), .int (nI u), .ref qml, .int (nI k), .ref qmk, .int (nI mz), .ref qmh, .int (nI nh), .int th, .ref qmw]))]) hP hD [0] [1, 2] rfl rfl (by decide) (by decide) hk1 hFc hP1 hD1
            generalize H1 = H at hP hS ⊢
            have hP : va_P (dC, dI) vwCl [(qmk, .inl (cyI, 460, .inl M)), (qmh, .inl (cyI, 460, .inl Hd)), (qm, .inr (4, [.ref qmd, .ref qmt, .int (nI n), .int (bI on), .int lf, .int (nI dn), .int (nI u), .ref qml, .int (nI k), .ref qmk, .int (nI mz), .ref qmh, .int (nI nh), .int th, .ref qmw]))] H := hP
            have hD : va_D A [(qmk, .inl (cyI, 460, .inl M)), (qmh, .inl (cyI, 460, .inl Hd)), (qm, .inr (4, [.ref qmd, .ref qmt, .int (nI n), .int (bI on), .int lf, .int (nI dn), .int (nI u), .ref qml, .int (nI k), .ref qmk, .int (nI mz), .ref qmh, .int (nI nh), .int th, .ref qmw]))] := hD
            have hE2 : zD Hd nh = (u + 1, mz, o) := by
              rw [← hE]
              obtain ⟨f8, e8⟩ : ∃ f8, f = f8 + 1 := ⟨f - 1, by omega⟩
              subst e8; exact dF_endB (by omega) (by omega) (Or.inr (zO_set (HO u hgn) (by omega) c_53))
            have hP9 := hP.sub (ws' := [(qm, .inr (4, [.ref qmd, .ref qmt, .int (nI n), .int (bI on), .int lf, .int (nI dn), .int (nI u), .ref qml, .int (nI k), .ref qmk, .int (nI mz), .ref qmh, .int (nI nh), .int th, .ref qmw])), (qmk, .inl (cyI, 460, .inl M)), (qmh, .inl (cyI, 460, .inl Hd))]) [2, 0, 1] rfl
            have hD9 := hD.sub (ws' := [(qm, .inr (4, [.ref qmd, .ref qmt, .int (nI n), .int (bI on), .int lf, .int (nI dn), .int (nI u), .ref qml, .int (nI k), .ref qmk, .int (nI mz), .ref qmh, .int (nI nh), .int th, .ref qmw])), (qmk, .inl (cyI, 460, .inl M)), (qmh, .inl (cyI, 460, .inl Hd))]) [2, 0, 1] (by decide) rfl
            have hK9 := hK.sub (tys' := [(cyI, .int), (cyZ, .boolean)]) [0, 1] rfl
            have hret : (bI false : Int32) = bI (decide ((zD Hd nh).1 = 0)) := by rw [hE2]; rfl
            refine zz_top hret ?_
            exact W.zret hx hb hr (zz_narZ (by first | exact zz_zb _ | exact zz_z0 | exact zz_z1)) (fun tS ht hW => ⟨⟨_, ((nI u), mz, M), rfl, ⟨rfl, by rw [hE2]; exact (zPlM_s _ _).symm, by rw [hE2], by rw [hE2]; exact hF, hO, by omega⟩, by rw [ht]; exact hP9, va_K.moved hW.alike hK9, hD9⟩, hS.F ht⟩) hS.2.2 dX5_decode_81
    ·
      have e25 : nh = u + 1 := by omega
      refine lv_aload_n hx hb dX5_decode_28 rfl (lv_at hl 2 rfl) ?_
      refine lv_iload_n hx hb dX5_decode_29 rfl (lv_at hl 1 rfl) ?_
      have hPc := hP.sub (ws' := [(qm, .inr (4, [.ref qmd, .ref qmt, .int (nI n), .int (bI on), .int lf, .int (nI dn), .int pl, .ref qml, .int (nI k), .ref qmk, .int (nI mz), .ref qmh, .int (nI nh), .int th, .ref qmw]))]) [0] rfl
      have hKc := hK.sub (tys' := [(cyI, .int), (cyZ, .boolean)]) [0, 1] rfl
      have hDc := hD.sub (ws' := [(qm, .inr (4, [.ref qmd, .ref qmt, .int (nI n), .int (bI on), .int lf, .int (nI dn), .int pl, .ref qml, .int (nI k), .ref qmk, .int (nI mz), .ref qmh, .int (nI nh), .int th, .ref qmw]))]) [0] (by decide) rfl
      have hFc := va_free (wc := [(qm, .inr (4, [.ref qmd, .ref qmt, .int (nI n), .int (bI on), .int lf, .int (nI dn), .int pl, .ref qml, .int (nI k), .ref qmk, .int (nI mz), .ref qmh, .int (nI nh), .int th, .ref qmw]))]) hD hS hA [0] rfl
      refine va_calli (va_runV (As := [.int (nI u)]) (rest := []) ⟨hx, hb, hml, hown, hts⟩ (c_X5_wrong l dC dI cyI cyZ qm qmd qmt qml qmk qmh qmw H.size n on lf dn pl k mz nh th (nI u)) (cwV 1 hts gX5_decode_X5_wrong rfl rfl rfl (by decide +kernel) ⟨Nat.le_of_ble_eq_true rfl, Nat.le_of_ble_eq_true rfl⟩) ⟨zz_blW, va_recv hKc hPc (ci := 4) (q0 := 0) rfl rfl, fun U hU hW => ⟨rfl, by rw [hU], by rw [hU]; exact hPc, va_K.moved hW.alike hKc, hDc.weaken (fun _ _ _ _ => trivial)⟩⟩ rfl rfl hl.1 rfl (lv_room (Nat.le_of_ble_eq_true rfl)) dX5_decode_30 ⟨Nat.zero_le _, Nat.zero_le _⟩) hS (fun q _ h => hFc q h) hFc (fun r_30 uU tS H1 locs ht9 hvm9 hw9 hB9 hz1 hk1 hS => ?_)
      obtain ⟨hP1, hK1, hD1⟩ := hB9
      have hw9 : (r_30 = bI false) := hw9
      have hr_30 := hw9
      have hr_30 := Eq.symm hr_30
      subst hr_30
      rw [ht9] at hP1
      have hK1 := va_K.moved hvm9.symm hK1
      obtain ⟨hP, hD⟩ := va_join (wr := [(qmk, .inl (cyI, 460, .inl M)), (qmh, .inl (cyI, 460, .inl Hd))]) (w1 := [(qm, .inr (4, [.ref qmd, .ref qmt, .int (nI n), .int (bI on), .int lf, .int (nI dn), .int (nI u), .ref qml, .int (nI k), .ref qmk, .int (nI mz), .ref qmh, .int (nI nh), .int th, .ref qmw]))]) hP hD [0] [1, 2] rfl rfl (by decide) (by decide) hk1 hFc hP1 hD1
      generalize H1 = H at hP hS ⊢
      have hP : va_P (dC, dI) vwCl [(qmk, .inl (cyI, 460, .inl M)), (qmh, .inl (cyI, 460, .inl Hd)), (qm, .inr (4, [.ref qmd, .ref qmt, .int (nI n), .int (bI on), .int lf, .int (nI dn), .int (nI u), .ref qml, .int (nI k), .ref qmk, .int (nI mz), .ref qmh, .int (nI nh), .int th, .ref qmw]))] H := hP
      have hD : va_D A [(qmk, .inl (cyI, 460, .inl M)), (qmh, .inl (cyI, 460, .inl Hd)), (qm, .inr (4, [.ref qmd, .ref qmt, .int (nI n), .int (bI on), .int lf, .int (nI dn), .int (nI u), .ref qml, .int (nI k), .ref qmk, .int (nI mz), .ref qmh, .int (nI nh), .int th, .ref qmw]))] := hD
      have hE2 : zD Hd nh = (u + 1, mz, o) := by
        rw [← hE]
        rw [dF_flag hi9]; obtain ⟨f8, e8⟩ : ∃ f8, f9 = f8 + 1 := ⟨f9 - 1, by omega⟩
        subst e8; exact dF_endB (by omega) (by omega) (Or.inl rfl)
      have hP9 := hP.sub (ws' := [(qm, .inr (4, [.ref qmd, .ref qmt, .int (nI n), .int (bI on), .int lf, .int (nI dn), .int (nI u), .ref qml, .int (nI k), .ref qmk, .int (nI mz), .ref qmh, .int (nI nh), .int th, .ref qmw])), (qmk, .inl (cyI, 460, .inl M)), (qmh, .inl (cyI, 460, .inl Hd))]) [2, 0, 1] rfl
      have hD9 := hD.sub (ws' := [(qm, .inr (4, [.ref qmd, .ref qmt, .int (nI n), .int (bI on), .int lf, .int (nI dn), .int (nI u), .ref qml, .int (nI k), .ref qmk, .int (nI mz), .ref qmh, .int (nI nh), .int th, .ref qmw])), (qmk, .inl (cyI, 460, .inl M)), (qmh, .inl (cyI, 460, .inl Hd))]) [2, 0, 1] (by decide) rfl
      have hK9 := hK.sub (tys' := [(cyI, .int), (cyZ, .boolean)]) [0, 1] rfl
      have hret : (bI false : Int32) = bI (decide ((zD Hd nh).1 = 0)) := by rw [hE2]; rfl
      refine zz_top hret ?_
      exact W.zret hx hb hr (zz_narZ (by first | exact zz_zb _ | exact zz_z0 | exact zz_z1)) (fun tS ht hW => ⟨⟨_, ((nI u), mz, M), rfl, ⟨rfl, by rw [hE2]; exact (zPlM_s _ _).symm, by rw [hE2], by rw [hE2]; exact hF, hO, by omega⟩, by rw [ht]; exact hP9, va_K.moved hW.alike hK9, hD9⟩, hS.F ht⟩) hS.2.2 dX5_decode_33
