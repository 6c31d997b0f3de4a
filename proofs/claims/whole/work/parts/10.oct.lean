set_option maxHeartbeats 4000000 in
set_option maxRecDepth 100000 in
theorem c_X3_size (l : Launch) (dC : Nat → ClassId) (dI : Nat → Nat → Nat) (cyI cyZ : ClassId) (qo qa : Nat) (f : Nat → Int32) (n : Nat)  : Met l yX3_size wsX3_size ({ frames := 0, cells := 0, slots := 0, locals := 0 }) (va_Pc [.ref qo] (fun U => va_P (dC, dI) vwCl [(qo, .inr (2, [.ref qa, .int (nI n)])), (qa, .inl (cyI, 450, .inl f))] U.heap ∧ va_K (dC, dI) vwCl [(cyI, .int), (cyZ, .boolean)] U)) (vp_Si (fun r => r = nI n)) 0 0 (fun _ => False) := by
  refine Met.ofW (cc := cX3_size) (maxL := 1) (ret := (some .int)) (by decide) rfl ?_
  intro pz ez sS mM args below meth cC s₁ B hml hv
  obtain ⟨rfl, hP, hK⟩ := hv
  have hx := B.exec
  have hb := B.bytes
  have hr := B.returns
  have hts := atoms_spec (ws := wsX3_size) B.pre
  have hown : sS.vm.findClass RX3 = some mM.cls := findClass_of_methodNamed B.named
  have hlocks := B.notSynchronized
  have iwX3 : ∀ w ∈ wsX30, w ∈ wsX3_size := by decide +kernel
  have fk15 := hts (.fieldLink RX3 15 "CodedStore$Octets" "size" "I") (by decide +kernel)
  have hl := lv_entry ([.ref qo]) (n := 1) (Nat.le_of_ble_eq_true rfl)
  rw [lg_entry_eq]
  generalize (lg_sl ([.ref qo]) ++ List.replicate (1 - (lg_sl ([.ref qo])).length) Slot.unset).toArray = ls at hl ⊢
  have hl : lv_has ls 1 [(0, .ref qo)] := hl
  refine lv_aload_n hx hb dX3_size_0 rfl (lv_at hl 0 rfl) ?_
  refine va_get (D := (dC, dI)) (ci := 2) (v := .int (nI n)) (C := RX3) (T := TX3) (N := 2) hx hb hts iwX3 hown hK hP 0 rfl rfl 1 (by decide) fk15 (fun _ h9 => h9) rfl dX3_size_1 ?_
  have hret : nI n = nI n := rfl
  refine zz_top hret ?_
  exact W.iret hx hb hr (fun tS ht hW => ⟨_, rfl, rfl, ht⟩) (fun _ h => nomatch h) dX3_size_4
set_option maxHeartbeats 4000000 in
set_option maxRecDepth 100000 in
theorem c_X3_empty (l : Launch) (dC : Nat → ClassId) (dI : Nat → Nat → Nat) (cyI cyZ : ClassId) (qo qa : Nat) (sz : Nat) (f : Nat → Int32) (n : Nat)  : Met l yX3_empty wsX3_empty ({ frames := 0, cells := 0, slots := 0, locals := 0 }) (va_Pc [.ref qo] (fun U => U.heap.size = sz ∧ va_P (dC, dI) vwCl [(qo, .inr (2, [.ref qa, .int (nI n)])), (qa, .inl (cyI, 450, .inl f))] U.heap ∧ va_K (dC, dI) vwCl [(cyI, .int), (cyZ, .boolean)] U ∧ va_D (fun _ => True) [(qo, .inr (2, [.ref qa, .int (nI n)])), (qa, .inl (cyI, 450, .inl f))])) (va_Qv (S := Unit) (fun (_ : Unit) => True) (fun (_ : Unit) tS => va_P (dC, dI) vwCl [(qo, .inr (2, [.ref qa, .int (nI 0)])), (qa, .inl (cyI, 450, .inl f))] tS.heap ∧ va_K (dC, dI) vwCl [(cyI, .int), (cyZ, .boolean)] tS ∧ va_D (va_A [(qo, .inr (2, [.ref qa, .int (nI n)])), (qa, .inl (cyI, 450, .inl f))] sz) [(qo, .inr (2, [.ref qa, .int (nI 0)])), (qa, .inl (cyI, 450, .inl f))]) (va_A [(qo, .inr (2, [.ref qa, .int (nI n)])), (qa, .inl (cyI, 450, .inl f))] sz)) 0 0 (va_A [(qo, .inr (2, [.ref qa, .int (nI n)])), (qa, .inl (cyI, 450, .inl f))] sz) := by
  refine Met.ofW (cc := cX3_empty) (maxL := 1) (ret := none) (by decide) rfl ?_
  intro pz ez sS mM args below meth cC s₁ B hml hv
  obtain ⟨rfl, hsz, hP, hK, hD0⟩ := hv
  have hx := B.exec
  have hb := B.bytes
  have hr := B.returns
  have hts := atoms_spec (ws := wsX3_empty) B.pre
  have hown : sS.vm.findClass RX3 = some mM.cls := findClass_of_methodNamed B.named
  have hlocks := B.notSynchronized
  subst hsz
  have hD := hD0.self (sz := sS.heap.size)
  generalize hAe : va_A [(qo, .inr (2, [.ref qa, .int (nI n)])), (qa, .inl (cyI, 450, .inl f))] sS.heap.size = A at hD ⊢
  have hA : ∀ q : Nat, sS.heap.size ≤ q → A q := fun q h => by rw [← hAe]; exact Or.inr h
  have hS : va_S A sS.heap sS.heap [] := va_S.rf
  have hP : va_P (dC, dI) vwCl [(qo, .inr (2, [.ref qa, .int (nI n)])), (qa, .inl (cyI, 450, .inl f))] sS.heap := hP
  have iwX3 : ∀ w ∈ wsX30, w ∈ wsX3_empty := by decide +kernel
  have fk15 := hts (.fieldLink RX3 15 "CodedStore$Octets" "size" "I") (by decide +kernel)
  have hl := lv_entry ([.ref qo]) (n := 1) (Nat.le_of_ble_eq_true rfl)
  rw [lg_entry_eq]
  generalize (lg_sl ([.ref qo]) ++ List.replicate (1 - (lg_sl ([.ref qo])).length) Slot.unset).toArray = ls at hl ⊢
  have hl : lv_has ls 1 [(0, .ref qo)] := hl
  refine lv_aload_n hx hb dX3_empty_0 rfl (lv_at hl 0 rfl) ?_
  refine lv_iconst (v := nI 0) hx hb dX3_empty_1 (by decide) ?_
  refine va_put (D := (dC, dI)) (ci := 2) (v := .int (nI 0)) (ty := .int) (C := RX3) (T := TX3) (N := 2) hx hb hts iwX3 tyX3 tyX3_ok nmX3 hown hK hP hD hS 0 rfl rfl 1 (by decide) fk15 (fun _ h9 => h9) rfl (by decide +kernel) rfl rfl (Nat.le_of_ble_eq_true rfl) dX3_empty_2 (fun H locs hP hD hS => ?_)
  have hP : va_P (dC, dI) vwCl [(qo, .inr (2, [.ref qa, .int (nI 0)])), (qa, .inl (cyI, 450, .inl f))] H := hP
  have hD : va_D A [(qo, .inr (2, [.ref qa, .int (nI 0)])), (qa, .inl (cyI, 450, .inl f))] := hD
  have hP9 := hP.sub (ws' := [(qo, .inr (2, [.ref qa, .int (nI 0)])), (qa, .inl (cyI, 450, .inl f))]) [0, 1] rfl
  have hD9 := hD.sub (ws' := [(qo, .inr (2, [.ref qa, .int (nI 0)])), (qa, .inl (cyI, 450, .inl f))]) [0, 1] (by decide) rfl
  have hK9 := hK.sub (tys' := [(cyI, .int), (cyZ, .boolean)]) [0, 1] rfl
  exact W.vret hx hb hr (fun tS ht hW => ⟨⟨(), rfl, trivial, by rw [ht]; exact hP9, va_K.moved hW.alike hK9, hD9⟩, hS.F ht⟩) hS.2.2 dX3_empty_5
set_option maxHeartbeats 4000000 in
set_option maxRecDepth 100000 in
theorem c_X3_append (l : Launch) (dC : Nat → ClassId) (dI : Nat → Nat → Nat) (cyI cyZ : ClassId) (qo qa : Nat) (sz : Nat) (f : Nat → Int32) (n : Nat) (v : Int32) (hn : n < 450) : Met l yX3_append wsX3_append ({ frames := 0, cells := 0, slots := 0, locals := 0 }) (va_Pc [.ref qo, .int v] (fun U => U.heap.size = sz ∧ va_P (dC, dI) vwCl [(qo, .inr (2, [.ref qa, .int (nI n)])), (qa, .inl (cyI, 450, .inl f))] U.heap ∧ va_K (dC, dI) vwCl [(cyI, .int), (cyZ, .boolean)] U ∧ va_D (fun _ => True) [(qo, .inr (2, [.ref qa, .int (nI n)])), (qa, .inl (cyI, 450, .inl f))])) (va_Qv (S := Unit) (fun (_ : Unit) => True) (fun (_ : Unit) tS => va_P (dC, dI) vwCl [(qo, .inr (2, [.ref qa, .int (nI (n + 1))])), (qa, .inl (cyI, 450, .inl (upd f n (v &&& nI 255))))] tS.heap ∧ va_K (dC, dI) vwCl [(cyI, .int), (cyZ, .boolean)] tS ∧ va_D (va_A [(qo, .inr (2, [.ref qa, .int (nI n)])), (qa, .inl (cyI, 450, .inl f))] sz) [(qo, .inr (2, [.ref qa, .int (nI (n + 1))])), (qa, .inl (cyI, 450, .inl (upd f n (v &&& nI 255))))]) (va_A [(qo, .inr (2, [.ref qa, .int (nI n)])), (qa, .inl (cyI, 450, .inl f))] sz)) 0 0 (va_A [(qo, .inr (2, [.ref qa, .int (nI n)])), (qa, .inl (cyI, 450, .inl f))] sz) := by
  refine Met.ofW (cc := cX3_append) (maxL := 2) (ret := none) (by decide) rfl ?_
  intro pz ez sS mM args below meth cC s₁ B hml hv
  obtain ⟨rfl, hsz, hP, hK, hD0⟩ := hv
  have hx := B.exec
  have hb := B.bytes
  have hr := B.returns
  have hts := atoms_spec (ws := wsX3_append) B.pre
  have hown : sS.vm.findClass RX3 = some mM.cls := findClass_of_methodNamed B.named
  have hlocks := B.notSynchronized
  subst hsz
  have hD := hD0.self (sz := sS.heap.size)
  generalize hAe : va_A [(qo, .inr (2, [.ref qa, .int (nI n)])), (qa, .inl (cyI, 450, .inl f))] sS.heap.size = A at hD ⊢
  have hA : ∀ q : Nat, sS.heap.size ≤ q → A q := fun q h => by rw [← hAe]; exact Or.inr h
  have hS : va_S A sS.heap sS.heap [] := va_S.rf
  have hP : va_P (dC, dI) vwCl [(qo, .inr (2, [.ref qa, .int (nI n)])), (qa, .inl (cyI, 450, .inl f))] sS.heap := hP
  have iwX3 : ∀ w ∈ wsX30, w ∈ wsX3_append := by decide +kernel
  have fk9 := hts (.fieldLink RX3 9 "CodedStore$Octets" "octets" "[I") (by decide +kernel)
  have fk15 := hts (.fieldLink RX3 15 "CodedStore$Octets" "size" "I") (by decide +kernel)
  have hl := lv_entry ([.ref qo, .int v]) (n := 2) (Nat.le_of_ble_eq_true rfl)
  rw [lg_entry_eq]
  generalize (lg_sl ([.ref qo, .int v]) ++ List.replicate (2 - (lg_sl ([.ref qo, .int v])).length) Slot.unset).toArray = ls at hl ⊢
  have hl : lv_has ls 2 [(0, .ref qo), (1, .int v)] := hl
  refine lv_aload_n hx hb dX3_append_0 rfl (lv_at hl 0 rfl) ?_
  refine va_get (D := (dC, dI)) (ci := 2) (v := .int (nI n)) (C := RX3) (T := TX3) (N := 2) hx hb hts iwX3 hown hK hP 0 rfl rfl 1 (by decide) fk15 (fun _ h9 => h9) rfl dX3_append_1 ?_
  refine zn_if_lt (tgt := 43) hx hb dX3_append_4 (by decide) (by omega) ?_
  refine lv_aload_n hx hb dX3_append_7 rfl (lv_at hl 0 rfl) ?_
  refine va_get (D := (dC, dI)) (ci := 2) (v := .int (nI n)) (C := RX3) (T := TX3) (N := 2) hx hb hts iwX3 hown hK hP 0 rfl rfl 1 (by decide) fk15 (fun _ h9 => h9) rfl dX3_append_8 ?_
  refine lv_aload_n hx hb dX3_append_11 rfl (lv_at hl 0 rfl) ?_
  refine va_get (D := (dC, dI)) (ci := 2) (v := .ref qa) (C := RX3) (T := TX3) (N := 2) hx hb hts iwX3 hown hK hP 0 rfl rfl 0 (by decide) fk9 (fun _ h9 => h9) rfl dX3_append_12 ?_
  refine va_alen (v := nI 450) hx hb hK hP 1 0 rfl rfl rfl dX3_append_15 ?_
  refine zn_icmp_ge (tgt := 43) hx hb dX3_append_16 (by decide) (by omega) (by omega) (fun c_16 => ?_) (fun c_16 => ?_)
  ·
    exfalso
    omega
  ·
    refine lv_aload_n hx hb dX3_append_19 rfl (lv_at hl 0 rfl) ?_
    refine va_get (D := (dC, dI)) (ci := 2) (v := .ref qa) (C := RX3) (T := TX3) (N := 2) hx hb hts iwX3 hown hK hP 0 rfl rfl 0 (by decide) fk9 (fun _ h9 => h9) rfl dX3_append_20 ?_
    refine lv_aload_n hx hb dX3_append_23 rfl (lv_at hl 0 rfl) ?_
    refine va_get (D := (dC, dI)) (ci := 2) (v := .int (nI n)) (C := RX3) (T := TX3) (N := 2) hx hb hts iwX3 hown hK hP 0 rfl rfl 1 (by decide) fk15 (fun _ h9 => h9) rfl dX3_append_24 ?_
    refine lv_iload_n hx hb dX3_append_27 rfl (lv_at hl 1 rfl) ?_
    refine lv_sipush (v := nI 255) hx hb dX3_append_28 (by decide) ?_
    refine lv_iand hx hb dX3_append_31 ?_
    refine va_iast hx hb hK hP hD hS 1 0 rfl rfl (vp_in_nI (n := n) (by omega) (by decide)) dX3_append_32 (fun H locs hP hD hS => ?_)
    rw [nI_clamp (n := n) (by omega)] at hP hD
    have hP : va_P (dC, dI) vwCl [(qo, .inr (2, [.ref qa, .int (nI n)])), (qa, .inl (cyI, 450, .inl (upd f n (v &&& (nI 255)))))] H := hP
    have hD : va_D A [(qo, .inr (2, [.ref qa, .int (nI n)])), (qa, .inl (cyI, 450, .inl (upd f n (v &&& (nI 255)))))] := hD
    refine lv_aload_n hx hb dX3_append_33 rfl (lv_at hl 0 rfl) ?_
    refine lv_dup hx hb dX3_append_34 rfl ?_
    refine va_get (D := (dC, dI)) (ci := 2) (v := .int (nI n)) (C := RX3) (T := TX3) (N := 2) hx hb hts iwX3 hown hK hP 0 rfl rfl 1 (by decide) fk15 (fun _ h9 => h9) rfl dX3_append_35 ?_
    refine lv_iconst (v := nI 1) hx hb dX3_append_38 (by decide) ?_
    refine lv_iadd hx hb dX3_append_39 ?_
    refine zz_top (nI_add n 1) ?_
    refine va_put (D := (dC, dI)) (ci := 2) (v := .int (nI (n + 1))) (ty := .int) (C := RX3) (T := TX3) (N := 2) hx hb hts iwX3 tyX3 tyX3_ok nmX3 hown hK hP hD hS 0 rfl rfl 1 (by decide) fk15 (fun _ h9 => h9) rfl (by decide +kernel) rfl rfl (Nat.le_of_ble_eq_true rfl) dX3_append_40 (fun H locs hP hD hS => ?_)
    have hP : va_P (dC, dI) vwCl [(qo, .inr (2, [.ref qa, .int (nI (n + 1))])), (qa, .inl (cyI, 450, .inl (upd f n (v &&& (nI 255)))))] H := hP
    have hD : va_D A [(qo, .inr (2, [.ref qa, .int (nI (n + 1))])), (qa, .inl (cyI, 450, .inl (upd f n (v &&& (nI 255)))))] := hD
    -- qa : .inl (cyI, 450, .inl (upd f n (v &&& (nI 255))))  ~  .inl (cyI, 450, .inl (upd f n (v &&& nI 255)))
    have hP9 := hP.sub (ws' := [(qo, .inr (2, [.ref qa, .int (nI (n + 1))])), (qa, .inl (cyI, 450, .inl (upd f n (v &&& nI 255))))]) [0, 1] rfl
    have hD9 := hD.sub (ws' := [(qo, .inr (2, [.ref qa, .int (nI (n + 1))])), (qa, .inl (cyI, 450, .inl (upd f n (v &&& nI 255))))]) [0, 1] (by decide) rfl
    have hK9 := hK.sub (tys' := [(cyI, .int), (cyZ, .boolean)]) [0, 1] rfl
    exact W.vret hx hb hr (fun tS ht hW => ⟨⟨(), rfl, trivial, by rw [ht]; exact hP9, va_K.moved hW.alike hK9, hD9⟩, hS.F ht⟩) hS.2.2 dX3_append_43
set_option maxHeartbeats 4000000 in
set_option maxRecDepth 100000 in
theorem c_X3_at (l : Launch) (dC : Nat → ClassId) (dI : Nat → Nat → Nat) (cyI cyZ : ClassId) (qo qa : Nat) (f : Nat → Int32) (n i : Nat) (hn : n ≤ 450) (hi : i < 2147483648) : Met l yX3_at wsX3_at ({ frames := 0, cells := 0, slots := 0, locals := 0 }) (va_Pc [.ref qo, .int (nI i)] (fun U => va_P (dC, dI) vwCl [(qo, .inr (2, [.ref qa, .int (nI n)])), (qa, .inl (cyI, 450, .inl f))] U.heap ∧ va_K (dC, dI) vwCl [(cyI, .int), (cyZ, .boolean)] U)) (vp_Si (fun r => r = zat f n i)) 0 0 (fun _ => False) := by
  refine Met.ofW (cc := cX3_at) (maxL := 2) (ret := (some .int)) (by decide) rfl ?_
  intro pz ez sS mM args below meth cC s₁ B hml hv
  obtain ⟨rfl, hP, hK⟩ := hv
  have hx := B.exec
  have hb := B.bytes
  have hr := B.returns
  have hts := atoms_spec (ws := wsX3_at) B.pre
  have hown : sS.vm.findClass RX3 = some mM.cls := findClass_of_methodNamed B.named
  have hlocks := B.notSynchronized
  have iwX3 : ∀ w ∈ wsX30, w ∈ wsX3_at := by decide +kernel
  have fk9 := hts (.fieldLink RX3 9 "CodedStore$Octets" "octets" "[I") (by decide +kernel)
  have fk15 := hts (.fieldLink RX3 15 "CodedStore$Octets" "size" "I") (by decide +kernel)
  have hl := lv_entry ([.ref qo, .int (nI i)]) (n := 2) (Nat.le_of_ble_eq_true rfl)
  rw [lg_entry_eq]
  generalize (lg_sl ([.ref qo, .int (nI i)]) ++ List.replicate (2 - (lg_sl ([.ref qo, .int (nI i)])).length) Slot.unset).toArray = ls at hl ⊢
  have hl : lv_has ls 2 [(0, .ref qo), (1, .int (nI i))] := hl
  refine lv_iload_n hx hb dX3_at_0 rfl (lv_at hl 1 rfl) ?_
  refine zn_if_lt (tgt := 21) hx hb dX3_at_1 (by decide) (by omega) ?_
  refine lv_iload_n hx hb dX3_at_4 rfl (lv_at hl 1 rfl) ?_
  refine lv_aload_n hx hb dX3_at_5 rfl (lv_at hl 0 rfl) ?_
  refine va_get (D := (dC, dI)) (ci := 2) (v := .int (nI n)) (C := RX3) (T := TX3) (N := 2) hx hb hts iwX3 hown hK hP 0 rfl rfl 1 (by decide) fk15 (fun _ h9 => h9) rfl dX3_at_6 ?_
  refine zn_icmp_ge (tgt := 21) hx hb dX3_at_9 (by decide) (by omega) (by omega) (fun c_9 => ?_) (fun c_9 => ?_)
  ·
    refine lv_iconst (v := nI 0) hx hb dX3_at_21 (by decide) ?_
    have hret : nI 0 = zat f n i := (zat_out (by omega)).symm
    refine zz_top hret ?_
    exact W.iret hx hb hr (fun tS ht hW => ⟨_, rfl, rfl, ht⟩) (fun _ h => nomatch h) dX3_at_22
  ·
    refine lv_iload_n hx hb dX3_at_12 rfl (lv_at hl 1 rfl) ?_
    refine lv_aload_n hx hb dX3_at_13 rfl (lv_at hl 0 rfl) ?_
    refine va_get (D := (dC, dI)) (ci := 2) (v := .ref qa) (C := RX3) (T := TX3) (N := 2) hx hb hts iwX3 hown hK hP 0 rfl rfl 0 (by decide) fk9 (fun _ h9 => h9) rfl dX3_at_14 ?_
    refine va_alen (v := nI 450) hx hb hK hP 1 0 rfl rfl rfl dX3_at_17 ?_
    refine zn_icmp_lt (tgt := 23) hx hb dX3_at_18 (by decide) (by omega) (by omega) (fun c_18 => ?_) (fun c_18 => ?_)
    ·
      refine lv_aload_n hx hb dX3_at_23 rfl (lv_at hl 0 rfl) ?_
      refine va_get (D := (dC, dI)) (ci := 2) (v := .ref qa) (C := RX3) (T := TX3) (N := 2) hx hb hts iwX3 hown hK hP 0 rfl rfl 0 (by decide) fk9 (fun _ h9 => h9) rfl dX3_at_24 ?_
      refine lv_iload_n hx hb dX3_at_27 rfl (lv_at hl 1 rfl) ?_
      refine va_iald hx hb hK hP 1 0 rfl rfl (vp_in_nI (n := i) (by omega) (by decide)) dX3_at_28 ?_
      refine zz_top (congrArg f (nI_clamp (n := i) (by omega))) ?_
      have hret : f i = zat f n i := (zat_in (by omega)).symm
      refine zz_top hret ?_
      exact W.iret hx hb hr (fun tS ht hW => ⟨_, rfl, rfl, ht⟩) (fun _ h => nomatch h) dX3_at_29
    ·
      refine lv_iconst (v := nI 0) hx hb dX3_at_21 (by decide) ?_
      have hret : nI 0 = zat f n i := (zat_out (by omega)).symm
      refine zz_top hret ?_
      exact W.iret hx hb hr (fun tS ht hW => ⟨_, rfl, rfl, ht⟩) (fun _ h => nomatch h) dX3_at_22
set_option maxHeartbeats 4000000 in
set_option maxRecDepth 100000 in
theorem c_X3_at_in (l : Launch) (dC : Nat → ClassId) (dI : Nat → Nat → Nat) (cyI cyZ : ClassId) (qo qa : Nat) (f : Nat → Int32) (n i : Nat) (hn : n ≤ 450) (hi : i < n) : Met l yX3_at wsX3_at ({ frames := 0, cells := 0, slots := 0, locals := 0 }) (va_Pc [.ref qo, .int (nI i)] (fun U => va_P (dC, dI) vwCl [(qo, .inr (2, [.ref qa, .int (nI n)])), (qa, .inl (cyI, 450, .inl f))] U.heap ∧ va_K (dC, dI) vwCl [(cyI, .int), (cyZ, .boolean)] U)) (vp_Si (fun r => r = f i)) 0 0 (fun _ => False) := by
  refine Met.ofW (cc := cX3_at) (maxL := 2) (ret := (some .int)) (by decide) rfl ?_
  intro pz ez sS mM args below meth cC s₁ B hml hv
  obtain ⟨rfl, hP, hK⟩ := hv
  have hx := B.exec
  have hb := B.bytes
  have hr := B.returns
  have hts := atoms_spec (ws := wsX3_at) B.pre
  have hown : sS.vm.findClass RX3 = some mM.cls := findClass_of_methodNamed B.named
  have hlocks := B.notSynchronized
  have iwX3 : ∀ w ∈ wsX30, w ∈ wsX3_at := by decide +kernel
  have fk9 := hts (.fieldLink RX3 9 "CodedStore$Octets" "octets" "[I") (by decide +kernel)
  have fk15 := hts (.fieldLink RX3 15 "CodedStore$Octets" "size" "I") (by decide +kernel)
  have hl := lv_entry ([.ref qo, .int (nI i)]) (n := 2) (Nat.le_of_ble_eq_true rfl)
  rw [lg_entry_eq]
  generalize (lg_sl ([.ref qo, .int (nI i)]) ++ List.replicate (2 - (lg_sl ([.ref qo, .int (nI i)])).length) Slot.unset).toArray = ls at hl ⊢
  have hl : lv_has ls 2 [(0, .ref qo), (1, .int (nI i))] := hl
  refine lv_iload_n hx hb dX3_at_0 rfl (lv_at hl 1 rfl) ?_
  refine zn_if_lt (tgt := 21) hx hb dX3_at_1 (by decide) (by omega) ?_
  refine lv_iload_n hx hb dX3_at_4 rfl (lv_at hl 1 rfl) ?_
  refine lv_aload_n hx hb dX3_at_5 rfl (lv_at hl 0 rfl) ?_
  refine va_get (D := (dC, dI)) (ci := 2) (v := .int (nI n)) (C := RX3) (T := TX3) (N := 2) hx hb hts iwX3 hown hK hP 0 rfl rfl 1 (by decide) fk15 (fun _ h9 => h9) rfl dX3_at_6 ?_
  refine zn_icmp_ge (tgt := 21) hx hb dX3_at_9 (by decide) (by omega) (by omega) (fun c_9 => ?_) (fun c_9 => ?_)
  ·
    exfalso
    omega
  ·
    refine lv_iload_n hx hb dX3_at_12 rfl (lv_at hl 1 rfl) ?_
    refine lv_aload_n hx hb dX3_at_13 rfl (lv_at hl 0 rfl) ?_
    refine va_get (D := (dC, dI)) (ci := 2) (v := .ref qa) (C := RX3) (T := TX3) (N := 2) hx hb hts iwX3 hown hK hP 0 rfl rfl 0 (by decide) fk9 (fun _ h9 => h9) rfl dX3_at_14 ?_
    refine va_alen (v := nI 450) hx hb hK hP 1 0 rfl rfl rfl dX3_at_17 ?_
    refine zn_icmp_lt (tgt := 23) hx hb dX3_at_18 (by decide) (by omega) (by omega) (fun c_18 => ?_) (fun c_18 => ?_)
    ·
      refine lv_aload_n hx hb dX3_at_23 rfl (lv_at hl 0 rfl) ?_
      refine va_get (D := (dC, dI)) (ci := 2) (v := .ref qa) (C := RX3) (T := TX3) (N := 2) hx hb hts iwX3 hown hK hP 0 rfl rfl 0 (by decide) fk9 (fun _ h9 => h9) rfl dX3_at_24 ?_
      refine lv_iload_n hx hb dX3_at_27 rfl (lv_at hl 1 rfl) ?_
      refine va_iald hx hb hK hP 1 0 rfl rfl (vp_in_nI (n := i) (by omega) (by decide)) dX3_at_28 ?_
      refine zz_top (congrArg f (nI_clamp (n := i) (by omega))) ?_
      have hret : f i = f i := rfl
      refine zz_top hret ?_
      exact W.iret hx hb hr (fun tS ht hW => ⟨_, rfl, rfl, ht⟩) (fun _ h => nomatch h) dX3_at_29
    ·
      exfalso
      omega
set_option maxHeartbeats 4000000 in
set_option maxRecDepth 100000 in
theorem c_X3_setBit (l : Launch) (dC : Nat → ClassId) (dI : Nat → Nat → Nat) (cyI cyZ : ClassId) (qo qa : Nat) (sz : Nat) (f : Nat → Int32) (n i b : Nat) (hn : n ≤ 450) (hi : i < n) (hb9 : b < 8) : Met l yX3_setBit wsX3_setBit ({ frames := 0, cells := 0, slots := 0, locals := 0 }) (va_Pc [.ref qo, .int (nI i), .int (nI b)] (fun U => U.heap.size = sz ∧ va_P (dC, dI) vwCl [(qo, .inr (2, [.ref qa, .int (nI n)])), (qa, .inl (cyI, 450, .inl f))] U.heap ∧ va_K (dC, dI) vwCl [(cyI, .int), (cyZ, .boolean)] U ∧ va_D (fun _ => True) [(qo, .inr (2, [.ref qa, .int (nI n)])), (qa, .inl (cyI, 450, .inl f))])) (va_Qv (S := Unit) (fun (_ : Unit) => True) (fun (_ : Unit) tS => va_P (dC, dI) vwCl [(qo, .inr (2, [.ref qa, .int (nI n)])), (qa, .inl (cyI, 450, .inl (upd f i (f i ||| (nI 1 <<< (nI b &&& 31))))))] tS.heap ∧ va_K (dC, dI) vwCl [(cyI, .int), (cyZ, .boolean)] tS ∧ va_D (va_A [(qo, .inr (2, [.ref qa, .int (nI n)])), (qa, .inl (cyI, 450, .inl f))] sz) [(qo, .inr (2, [.ref qa, .int (nI n)])), (qa, .inl (cyI, 450, .inl (upd f i (f i ||| (nI 1 <<< (nI b &&& 31))))))]) (va_A [(qo, .inr (2, [.ref qa, .int (nI n)])), (qa, .inl (cyI, 450, .inl f))] sz)) 0 0 (va_A [(qo, .inr (2, [.ref qa, .int (nI n)])), (qa, .inl (cyI, 450, .inl f))] sz) := by
  refine Met.ofW (cc := cX3_setBit) (maxL := 3) (ret := none) (by decide) rfl ?_
  intro pz ez sS mM args below meth cC s₁ B hml hv
  obtain ⟨rfl, hsz, hP, hK, hD0⟩ := hv
  have hx := B.exec
  have hb := B.bytes
  have hr := B.returns
  have hts := atoms_spec (ws := wsX3_setBit) B.pre
  have hown : sS.vm.findClass RX3 = some mM.cls := findClass_of_methodNamed B.named
  have hlocks := B.notSynchronized
  subst hsz
  have hD := hD0.self (sz := sS.heap.size)
  generalize hAe : va_A [(qo, .inr (2, [.ref qa, .int (nI n)])), (qa, .inl (cyI, 450, .inl f))] sS.heap.size = A at hD ⊢
  have hA : ∀ q : Nat, sS.heap.size ≤ q → A q := fun q h => by rw [← hAe]; exact Or.inr h
  have hS : va_S A sS.heap sS.heap [] := va_S.rf
  have hP : va_P (dC, dI) vwCl [(qo, .inr (2, [.ref qa, .int (nI n)])), (qa, .inl (cyI, 450, .inl f))] sS.heap := hP
  have iwX3 : ∀ w ∈ wsX30, w ∈ wsX3_setBit := by decide +kernel
  have fk9 := hts (.fieldLink RX3 9 "CodedStore$Octets" "octets" "[I") (by decide +kernel)
  have fk15 := hts (.fieldLink RX3 15 "CodedStore$Octets" "size" "I") (by decide +kernel)
  have hl := lv_entry ([.ref qo, .int (nI i), .int (nI b)]) (n := 3) (Nat.le_of_ble_eq_true rfl)
  rw [lg_entry_eq]
  generalize (lg_sl ([.ref qo, .int (nI i), .int (nI b)]) ++ List.replicate (3 - (lg_sl ([.ref qo, .int (nI i), .int (nI b)])).length) Slot.unset).toArray = ls at hl ⊢
  have hl : lv_has ls 3 [(0, .ref qo), (1, .int (nI i)), (2, .int (nI b))] := hl
  refine lv_iload_n hx hb dX3_setBit_0 rfl (lv_at hl 1 rfl) ?_
  refine zn_if_lt (tgt := 33) hx hb dX3_setBit_1 (by decide) (by omega) ?_
  refine lv_iload_n hx hb dX3_setBit_4 rfl (lv_at hl 1 rfl) ?_
  refine lv_aload_n hx hb dX3_setBit_5 rfl (lv_at hl 0 rfl) ?_
  refine va_get (D := (dC, dI)) (ci := 2) (v := .int (nI n)) (C := RX3) (T := TX3) (N := 2) hx hb hts iwX3 hown hK hP 0 rfl rfl 1 (by decide) fk15 (fun _ h9 => h9) rfl dX3_setBit_6 ?_
  refine zn_icmp_ge (tgt := 33) hx hb dX3_setBit_9 (by decide) (by omega) (by omega) (fun c_9 => ?_) (fun c_9 => ?_)
  ·
    exfalso
    omega
  ·
    refine lv_iload_n hx hb dX3_setBit_12 rfl (lv_at hl 1 rfl) ?_
    refine lv_aload_n hx hb dX3_setBit_13 rfl (lv_at hl 0 rfl) ?_
    refine va_get (D := (dC, dI)) (ci := 2) (v := .ref qa) (C := RX3) (T := TX3) (N := 2) hx hb hts iwX3 hown hK hP 0 rfl rfl 0 (by decide) fk9 (fun _ h9 => h9) rfl dX3_setBit_14 ?_
    refine va_alen (v := nI 450) hx hb hK hP 1 0 rfl rfl rfl dX3_setBit_17 ?_
    refine zn_icmp_ge (tgt := 33) hx hb dX3_setBit_18 (by decide) (by omega) (by omega) (fun c_18 => ?_) (fun c_18 => ?_)
    ·
      exfalso
      omega
    ·
      refine lv_aload_n hx hb dX3_setBit_21 rfl (lv_at hl 0 rfl) ?_
      refine va_get (D := (dC, dI)) (ci := 2) (v := .ref qa) (C := RX3) (T := TX3) (N := 2) hx hb hts iwX3 hown hK hP 0 rfl rfl 0 (by decide) fk9 (fun _ h9 => h9) rfl dX3_setBit_22 ?_
      refine lv_iload_n hx hb dX3_setBit_25 rfl (lv_at hl 1 rfl) ?_
      refine lv_dup2_11 hx hb dX3_setBit_26 rfl rfl ?_
      refine va_iald hx hb hK hP 1 0 rfl rfl (vp_in_nI (n := i) (by omega) (by decide)) dX3_setBit_27 ?_
      refine zz_top (congrArg f (nI_clamp (n := i) (by omega))) ?_
      refine lv_iconst (v := nI 1) hx hb dX3_setBit_28 (by decide) ?_
      refine lv_iload_n hx hb dX3_setBit_29 rfl (lv_at hl 2 rfl) ?_
      refine lv_ishl hx hb dX3_setBit_30 ?_
      refine lv_ior hx hb dX3_setBit_31 ?_
      refine va_iast hx hb hK hP hD hS 1 0 rfl rfl (vp_in_nI (n := i) (by omega) (by decide)) dX3_setBit_32 (fun H locs hP hD hS => ?_)
      rw [nI_clamp (n := i) (by omega)] at hP hD
      have hP : va_P (dC, dI) vwCl [(qo, .inr (2, [.ref qa, .int (nI n)])), (qa, .inl (cyI, 450, .inl (upd f i ((f i) ||| ((nI 1) <<< ((nI b) &&& 31))))))] H := hP
      have hD : va_D A [(qo, .inr (2, [.ref qa, .int (nI n)])), (qa, .inl (cyI, 450, .inl (upd f i ((f i) ||| ((nI 1) <<< ((nI b) &&& 31))))))] := hD
      -- qa : .inl (cyI, 450, .inl (upd f i ((f i) ||| ((nI 1) <<< ((nI b) &&& 31)))))  ~  .inl (cyI, 450, .inl (upd f i (f i ||| (nI 1 <<< (nI b &&& 31)))))
      have hP9 := hP.sub (ws' := [(qo, .inr (2, [.ref qa, .int (nI n)])), (qa, .inl (cyI, 450, .inl (upd f i (f i ||| (nI 1 <<< (nI b &&& 31))))))]) [0, 1] rfl
      have hD9 := hD.sub (ws' := [(qo, .inr (2, [.ref qa, .int (nI n)])), (qa, .inl (cyI, 450, .inl (upd f i (f i ||| (nI 1 <<< (nI b &&& 31))))))]) [0, 1] (by decide) rfl
      have hK9 := hK.sub (tys' := [(cyI, .int), (cyZ, .boolean)]) [0, 1] rfl
      exact W.vret hx hb hr (fun tS ht hW => ⟨⟨(), rfl, trivial, by rw [ht]; exact hP9, va_K.moved hW.alike hK9, hD9⟩, hS.F ht⟩) hS.2.2 dX3_setBit_33
set_option maxHeartbeats 4000000 in
set_option maxRecDepth 100000 in
theorem c_X3_fourFrom (l : Launch) (dC : Nat → ClassId) (dI : Nat → Nat → Nat) (cyI cyZ : ClassId) (qo qa : Nat) (f : Nat → Int32) (n i : Nat) (hn : n ≤ 450) (hi : i < 2147483600) : Met l yX3_fourFrom wsX3_fourFrom ({ frames := 1, cells := 0, slots := 0, locals := 21 }) (va_Pc [.ref qo, .int (nI i)] (fun U => va_P (dC, dI) vwCl [(qo, .inr (2, [.ref qa, .int (nI n)])), (qa, .inl (cyI, 450, .inl f))] U.heap ∧ va_K (dC, dI) vwCl [(cyI, .int), (cyZ, .boolean)] U)) (vp_Si (fun r => r = zfour f n i)) 0 0 (fun _ => False) := by
  refine Met.ofW (cc := cX3_fourFrom) (maxL := 2) (ret := (some .int)) (by decide) rfl ?_
  intro pz ez sS mM args below meth cC s₁ B hml hv
  obtain ⟨rfl, hP, hK⟩ := hv
  have hx := B.exec
  have hb := B.bytes
  have hr := B.returns
  have hts := atoms_spec (ws := wsX3_fourFrom) B.pre
  have hown : sS.vm.findClass RX3 = some mM.cls := findClass_of_methodNamed B.named
  have hlocks := B.notSynchronized
  have hl := lv_entry ([.ref qo, .int (nI i)]) (n := 2) (Nat.le_of_ble_eq_true rfl)
  rw [lg_entry_eq]
  generalize (lg_sl ([.ref qo, .int (nI i)]) ++ List.replicate (2 - (lg_sl ([.ref qo, .int (nI i)])).length) Slot.unset).toArray = ls at hl ⊢
  have hl : lv_has ls 2 [(0, .ref qo), (1, .int (nI i))] := hl
  refine lv_aload_n hx hb dX3_fourFrom_0 rfl (lv_at hl 0 rfl) ?_
  refine lv_iload_n hx hb dX3_fourFrom_1 rfl (lv_at hl 1 rfl) ?_
  have hPc := hP.sub (ws' := [(qo, .inr (2, [.ref qa, .int (nI n)])), (qa, .inl (cyI, 450, .inl f))]) [0, 1] rfl
  have hKc := hK.sub (tys' := [(cyI, .int), (cyZ, .boolean)]) [0, 1] rfl
  refine vp_callSi (va_Run.run (va_runV (As := [.int (nI i)]) (rest := []) ⟨hx, hb, hml, hown, hts⟩ (c_X3_at l dC dI cyI cyZ qo qa f n i (by omega) (by omega)) (cwV 1 hts gX3_fourFrom_X3_at rfl rfl rfl (by decide +kernel) ⟨Nat.le_of_ble_eq_true rfl, Nat.le_of_ble_eq_true rfl⟩) ⟨zz_blR, va_recv hKc hPc (ci := 2) (q0 := 0) rfl rfl, fun U hU hW => ⟨rfl, by rw [hU]; exact hPc, va_K.moved hW.alike hKc⟩⟩ rfl rfl hl.1 rfl (lv_room (Nat.le_of_ble_eq_true rfl)) dX3_fourFrom_2 ⟨Nat.zero_le _, Nat.zero_le _⟩)) (fun r_2 hr_2 => ?_)
  have hr_2 : zat f n i = r_2 := Eq.symm hr_2
  subst hr_2
  refine lv_aload_n hx hb dX3_fourFrom_5 rfl (lv_at hl 0 rfl) ?_
  refine lv_iload_n hx hb dX3_fourFrom_6 rfl (lv_at hl 1 rfl) ?_
  refine lv_iconst (v := nI 1) hx hb dX3_fourFrom_7 (by decide) ?_
  refine lv_iadd hx hb dX3_fourFrom_8 ?_
  refine zz_top (nI_add i 1) ?_
  have hPc := hP.sub (ws' := [(qo, .inr (2, [.ref qa, .int (nI n)])), (qa, .inl (cyI, 450, .inl f))]) [0, 1] rfl
  have hKc := hK.sub (tys' := [(cyI, .int), (cyZ, .boolean)]) [0, 1] rfl
  refine vp_callSi (va_Run.run (va_runV (As := [.int (nI (i + 1))]) (rest := [.int (zat f n i)]) ⟨hx, hb, hml, hown, hts⟩ (c_X3_at l dC dI cyI cyZ qo qa f n (i + 1) (by omega) (by omega)) (cwV 1 hts gX3_fourFrom_X3_at rfl rfl rfl (by decide +kernel) ⟨Nat.le_of_ble_eq_true rfl, Nat.le_of_ble_eq_true rfl⟩) ⟨zz_blR, va_recv hKc hPc (ci := 2) (q0 := 0) rfl rfl, fun U hU hW => ⟨rfl, by rw [hU]; exact hPc, va_K.moved hW.alike hKc⟩⟩ rfl rfl hl.1 rfl (lv_room (Nat.le_of_ble_eq_true rfl)) dX3_fourFrom_9 ⟨Nat.zero_le _, Nat.zero_le _⟩)) (fun r_9 hr_9 => ?_)
  have hr_9 : zat f n (i + 1) = r_9 := Eq.symm hr_9
  subst hr_9
  refine lv_bipush (v := nI 8) hx hb dX3_fourFrom_12 (by decide) ?_
  refine lv_ishl hx hb dX3_fourFrom_14 ?_
  refine lv_ior hx hb dX3_fourFrom_15 ?_
  refine lv_aload_n hx hb dX3_fourFrom_16 rfl (lv_at hl 0 rfl) ?_
  refine lv_iload_n hx hb dX3_fourFrom_17 rfl (lv_at hl 1 rfl) ?_
  refine lv_iconst (v := nI 2) hx hb dX3_fourFrom_18 (by decide) ?_
  refine lv_iadd hx hb dX3_fourFrom_19 ?_
  refine zz_top (nI_add i 2) ?_
  have hPc := hP.sub (ws' := [(qo, .inr (2, [.ref qa, .int (nI n)])), (qa, .inl (cyI, 450, .inl f))]) [0, 1] rfl
  have hKc := hK.sub (tys' := [(cyI, .int), (cyZ, .boolean)]) [0, 1] rfl
  refine vp_callSi (va_Run.run (va_runV (As := [.int (nI (i + 2))]) (rest := [.int ((zat f n i) ||| ((zat f n (i + 1)) <<< ((nI 8) &&& 31)))]) ⟨hx, hb, hml, hown, hts⟩ (c_X3_at l dC dI cyI cyZ qo qa f n (i + 2) (by omega) (by omega)) (cwV 1 hts gX3_fourFrom_X3_at rfl rfl rfl (by decide +kernel) ⟨Nat.le_of_ble_eq_true rfl, Nat.le_of_ble_eq_true rfl⟩) ⟨zz_blR, va_recv hKc hPc (ci := 2) (q0 := 0) rfl rfl, fun U hU hW => ⟨rfl, by rw [hU]; exact hPc, va_K.moved hW.alike hKc⟩⟩ rfl rfl hl.1 rfl (lv_room (Nat.le_of_ble_eq_true rfl)) dX3_fourFrom_20 ⟨Nat.zero_le _, Nat.zero_le _⟩)) (fun r_20 hr_20 => ?_)
  have hr_20 : zat f n (i + 2) = r_20 := Eq.symm hr_20
  subst hr_20
  refine lv_bipush (v := nI 16) hx hb dX3_fourFrom_23 (by decide) ?_
  refine lv_ishl hx hb dX3_fourFrom_25 ?_
  refine lv_ior hx hb dX3_fourFrom_26 ?_
  refine lv_aload_n hx hb dX3_fourFrom_27 rfl (lv_at hl 0 rfl) ?_
  refine lv_iload_n hx hb dX3_fourFrom_28 rfl (lv_at hl 1 rfl) ?_
  refine lv_iconst (v := nI 3) hx hb dX3_fourFrom_29 (by decide) ?_
  refine lv_iadd hx hb dX3_fourFrom_30 ?_
  refine zz_top (nI_add i 3) ?_
  have hPc := hP.sub (ws' := [(qo, .inr (2, [.ref qa, .int (nI n)])), (qa, .inl (cyI, 450, .inl f))]) [0, 1] rfl
  have hKc := hK.sub (tys' := [(cyI, .int), (cyZ, .boolean)]) [0, 1] rfl
  refine vp_callSi (va_Run.run (va_runV (As := [.int (nI (i + 3))]) (rest := [.int (((zat f n i) ||| ((zat f n (i + 1)) <<< ((nI 8) &&& 31))) ||| ((zat f n (i + 2)) <<< ((nI 16) &&& 31)))]) ⟨hx, hb, hml, hown, hts⟩ (c_X3_at l dC dI cyI cyZ qo qa f n (i + 3) (by omega) (by omega)) (cwV 1 hts gX3_fourFrom_X3_at rfl rfl rfl (by decide +kernel) ⟨Nat.le_of_ble_eq_true rfl, Nat.le_of_ble_eq_true rfl⟩) ⟨zz_blR, va_recv hKc hPc (ci := 2) (q0 := 0) rfl rfl, fun U hU hW => ⟨rfl, by rw [hU]; exact hPc, va_K.moved hW.alike hKc⟩⟩ rfl rfl hl.1 rfl (lv_room (Nat.le_of_ble_eq_true rfl)) dX3_fourFrom_31 ⟨Nat.zero_le _, Nat.zero_le _⟩)) (fun r_31 hr_31 => ?_)
  have hr_31 : zat f n (i + 3) = r_31 := Eq.symm hr_31
  subst hr_31
  refine lv_bipush (v := nI 24) hx hb dX3_fourFrom_34 (by decide) ?_
  refine lv_ishl hx hb dX3_fourFrom_36 ?_
  refine lv_ior hx hb dX3_fourFrom_37 ?_
  have hret : (((zat f n i) ||| ((zat f n (i + 1)) <<< ((nI 8) &&& 31))) ||| ((zat f n (i + 2)) <<< ((nI 16) &&& 31))) ||| ((zat f n (i + 3)) <<< ((nI 24) &&& 31)) = zfour f n i := rfl
  refine zz_top hret ?_
  exact W.iret hx hb hr (fun tS ht hW => ⟨_, rfl, rfl, ht⟩) (fun _ h => nomatch h) dX3_fourFrom_38
set_option maxHeartbeats 4000000 in
set_option maxRecDepth 100000 in
theorem c_X3_becomeLike (l : Launch) (dC : Nat → ClassId) (dI : Nat → Nat → Nat) (cyI cyZ : ClassId) (qo qa qb qba : Nat) (sz : Nat) (f : Nat → Int32) (n : Nat) (g : Nat → Int32) (k : Nat) (hk : k ≤ 450) (hg : ∀ j, j < k → zO (g j)) : Met l yX3_becomeLike wsX3_becomeLike ({ frames := 1, cells := 0, slots := 0, locals := 21 }) (va_Pc [.ref qo, .ref qb] (fun U => U.heap.size = sz ∧ va_P (dC, dI) vwCl [(qo, .inr (2, [.ref qa, .int (nI n)])), (qa, .inl (cyI, 450, .inl f)), (qb, .inr (2, [.ref qba, .int (nI k)])), (qba, .inl (cyI, 450, .inl g))] U.heap ∧ va_K (dC, dI) vwCl [(cyI, .int), (cyZ, .boolean)] U ∧ va_D (fun _ => True) [(qo, .inr (2, [.ref qa, .int (nI n)])), (qa, .inl (cyI, 450, .inl f)), (qb, .inr (2, [.ref qba, .int (nI k)])), (qba, .inl (cyI, 450, .inl g))])) (va_Qv (S := (Nat → Int32)) (fun (f1 : (Nat → Int32)) => (∀ j, j < k → f1 j = g j)) (fun (f1 : (Nat → Int32)) tS => va_P (dC, dI) vwCl [(qo, .inr (2, [.ref qa, .int (nI k)])), (qa, .inl (cyI, 450, .inl f1)), (qb, .inr (2, [.ref qba, .int (nI k)])), (qba, .inl (cyI, 450, .inl g))] tS.heap ∧ va_K (dC, dI) vwCl [(cyI, .int), (cyZ, .boolean)] tS ∧ va_D (va_A [(qo, .inr (2, [.ref qa, .int (nI n)])), (qa, .inl (cyI, 450, .inl f)), (qb, .inr (2, [.ref qba, .int (nI k)])), (qba, .inl (cyI, 450, .inl g))] sz) [(qo, .inr (2, [.ref qa, .int (nI k)])), (qa, .inl (cyI, 450, .inl f1)), (qb, .inr (2, [.ref qba, .int (nI k)])), (qba, .inl (cyI, 450, .inl g))]) (va_A [(qo, .inr (2, [.ref qa, .int (nI n)])), (qa, .inl (cyI, 450, .inl f)), (qb, .inr (2, [.ref qba, .int (nI k)])), (qba, .inl (cyI, 450, .inl g))] sz)) 0 0 (va_A [(qo, .inr (2, [.ref qa, .int (nI n)])), (qa, .inl (cyI, 450, .inl f)), (qb, .inr (2, [.ref qba, .int (nI k)])), (qba, .inl (cyI, 450, .inl g))] sz) := by
  refine Met.ofW (cc := cX3_becomeLike) (maxL := 3) (ret := none) (by decide) rfl ?_
  intro pz ez sS mM args below meth cC s₁ B hml hv
  obtain ⟨rfl, hsz, hP, hK, hD0⟩ := hv
  have hx := B.exec
  have hb := B.bytes
  have hr := B.returns
  have hts := atoms_spec (ws := wsX3_becomeLike) B.pre
  have hown : sS.vm.findClass RX3 = some mM.cls := findClass_of_methodNamed B.named
  have hlocks := B.notSynchronized
  subst hsz
  have hD := hD0.self (sz := sS.heap.size)
  generalize hAe : va_A [(qo, .inr (2, [.ref qa, .int (nI n)])), (qa, .inl (cyI, 450, .inl f)), (qb, .inr (2, [.ref qba, .int (nI k)])), (qba, .inl (cyI, 450, .inl g))] sS.heap.size = A at hD ⊢
  have hA : ∀ q : Nat, sS.heap.size ≤ q → A q := fun q h => by rw [← hAe]; exact Or.inr h
  have hS : va_S A sS.heap sS.heap [] := va_S.rf
  have hP : va_P (dC, dI) vwCl [(qo, .inr (2, [.ref qa, .int (nI n)])), (qa, .inl (cyI, 450, .inl f)), (qb, .inr (2, [.ref qba, .int (nI k)])), (qba, .inl (cyI, 450, .inl g))] sS.heap := hP
  have iwX3 : ∀ w ∈ wsX30, w ∈ wsX3_becomeLike := by decide +kernel
  have fk15 := hts (.fieldLink RX3 15 "CodedStore$Octets" "size" "I") (by decide +kernel)
  have hl := lv_entry ([.ref qo, .ref qb]) (n := 3) (Nat.le_of_ble_eq_true rfl)
  rw [lg_entry_eq]
  generalize (lg_sl ([.ref qo, .ref qb]) ++ List.replicate (3 - (lg_sl ([.ref qo, .ref qb])).length) Slot.unset).toArray = ls at hl ⊢
  have hl : lv_has ls 3 [(0, .ref qo), (1, .ref qb)] := hl
  refine lv_aload_n hx hb dX3_becomeLike_0 rfl (lv_at hl 0 rfl) ?_
  have hPc := hP.sub (ws' := [(qo, .inr (2, [.ref qa, .int (nI n)])), (qa, .inl (cyI, 450, .inl f))]) [0, 1] rfl
  have hKc := hK.sub (tys' := [(cyI, .int), (cyZ, .boolean)]) [0, 1] rfl
  have hDc := hD.sub (ws' := [(qo, .inr (2, [.ref qa, .int (nI n)])), (qa, .inl (cyI, 450, .inl f))]) [0, 1] (by decide) rfl
  have hFc := va_free (wc := [(qo, .inr (2, [.ref qa, .int (nI n)])), (qa, .inl (cyI, 450, .inl f))]) hD hS hA [0, 1] rfl
  refine va_callv (va_runV (As := []) (rest := []) ⟨hx, hb, hml, hown, hts⟩ (c_X3_empty l dC dI cyI cyZ qo qa sS.heap.size f n) (cwV 0 hts gX3_becomeLike_X3_empty rfl rfl rfl (by decide +kernel) ⟨Nat.le_of_ble_eq_true rfl, Nat.le_of_ble_eq_true rfl⟩) ⟨zz_blW, va_recv hKc hPc (ci := 2) (q0 := 0) rfl rfl, fun U hU hW => ⟨rfl, by rw [hU], by rw [hU]; exact hPc, va_K.moved hW.alike hKc, hDc.weaken (fun _ _ _ _ => trivial)⟩⟩ rfl rfl hl.1 rfl (lv_room (Nat.le_of_ble_eq_true rfl)) dX3_becomeLike_1 ⟨Nat.zero_le _, Nat.zero_le _⟩) hS (fun q _ h => hFc q h) hFc (fun uU tS H1 locs ht9 hvm9 hw9 hB9 hz1 hk1 hS => ?_)
  obtain ⟨hP1, hK1, hD1⟩ := hB9
  rw [ht9] at hP1
  have hK1 := va_K.moved hvm9.symm hK1
  obtain ⟨hP, hD⟩ := va_join (wr := [(qb, .inr (2, [.ref qba, .int (nI k)])), (qba, .inl (cyI, 450, .inl g))]) (w1 := [(qo, .inr (2, [.ref qa, .int (nI 0)])), (qa, .inl (cyI, 450, .inl f))]) hP hD [0, 1] [2, 3] rfl rfl (by decide) (by decide) hk1 hFc hP1 hD1
  generalize H1 = H at hP hS ⊢
  have hP : va_P (dC, dI) vwCl [(qb, .inr (2, [.ref qba, .int (nI k)])), (qba, .inl (cyI, 450, .inl g)), (qo, .inr (2, [.ref qa, .int (nI 0)])), (qa, .inl (cyI, 450, .inl f))] H := hP
  have hD : va_D A [(qb, .inr (2, [.ref qba, .int (nI k)])), (qba, .inl (cyI, 450, .inl g)), (qo, .inr (2, [.ref qa, .int (nI 0)])), (qa, .inl (cyI, 450, .inl f))] := hD
  refine lv_iconst (v := nI 0) hx hb dX3_becomeLike_4 (by decide) ?_
  refine lv_istore_n (lv' := [(2, .int (nI 0)), (0, .ref qo), (1, .ref qb)]) hx hb dX3_becomeLike_5 rfl hl (by decide) rfl (fun ls hl => ?_)
  refine zz_loopW (pc := 6) (μ := fun (x : Nat × (Nat → Int32)) => match x with | (i, f1) => k - i) (Inv := fun (x : Nat × (Nat → Int32)) (H : Heap) (locs : List Loc) (ls : Array Slot) => match x with | (i, f1) => (i ≤ k) ∧ (∀ j, j < i → f1 j = g j) ∧ va_P (dC, dI) vwCl [(qb, .inr (2, [.ref qba, .int (nI k)])), (qba, .inl (cyI, 450, .inl g)), (qo, .inr (2, [.ref qa, .int (nI i)])), (qa, .inl (cyI, 450, .inl f1))] H ∧ va_D A [(qb, .inr (2, [.ref qba, .int (nI k)])), (qba, .inl (cyI, 450, .inl g)), (qo, .inr (2, [.ref qa, .int (nI i)])), (qa, .inl (cyI, 450, .inl f1))] ∧ va_S A sS.heap H locs ∧ lv_has ls 3 [(0, .ref qo), (1, .ref qb), (2, .int (nI i))]) (x0 := (0, f)) ⟨by omega, fun j hj => absurd hj (Nat.not_lt_zero _), hP, hD, hS, lv_sub hl [1, 2, 0] rfl⟩ ?_
  intro ⟨i, f1⟩ H locs ls hI ih6
  obtain ⟨hi, hf, hP, hD, hS, hl⟩ := hI
  have hl : lv_has ls 3 [(0, .ref qo), (1, .ref qb), (2, .int (nI i))] := hl
  have hP : va_P (dC, dI) vwCl [(qb, .inr (2, [.ref qba, .int (nI k)])), (qba, .inl (cyI, 450, .inl g)), (qo, .inr (2, [.ref qa, .int (nI i)])), (qa, .inl (cyI, 450, .inl f1))] H := hP
  have hD : va_D A [(qb, .inr (2, [.ref qba, .int (nI k)])), (qba, .inl (cyI, 450, .inl g)), (qo, .inr (2, [.ref qa, .int (nI i)])), (qa, .inl (cyI, 450, .inl f1))] := hD
  have hi : i ≤ k := hi
  have hf : ∀ j, j < i → f1 j = g j := hf
  refine lv_iload_n hx hb dX3_becomeLike_6 rfl (lv_at hl 2 rfl) ?_
  refine lv_aload_n hx hb dX3_becomeLike_7 rfl (lv_at hl 1 rfl) ?_
  refine va_get (D := (dC, dI)) (ci := 2) (v := .int (nI k)) (C := RX3) (T := TX3) (N := 2) hx hb hts iwX3 hown hK hP 0 rfl rfl 1 (by decide) fk15 (fun _ h9 => h9) rfl dX3_becomeLike_8 ?_
  refine zn_icmp_ge (tgt := 29) hx hb dX3_becomeLike_11 (by decide) (by omega) (by omega) (fun c_11 => ?_) (fun c_11 => ?_)
  ·
    have hik : k = i := by omega
    subst hik
    -- qo : .inr (2, [.ref qa, .int (nI i)])  ~  .inr (2, [.ref qa, .int (nI k)])
    have hP9 := hP.sub (ws' := [(qo, .inr (2, [.ref qa, .int (nI k)])), (qa, .inl (cyI, 450, .inl f1)), (qb, .inr (2, [.ref qba, .int (nI k)])), (qba, .inl (cyI, 450, .inl g))]) [2, 3, 0, 1] rfl
    have hD9 := hD.sub (ws' := [(qo, .inr (2, [.ref qa, .int (nI k)])), (qa, .inl (cyI, 450, .inl f1)), (qb, .inr (2, [.ref qba, .int (nI k)])), (qba, .inl (cyI, 450, .inl g))]) [2, 3, 0, 1] (by decide) rfl
    have hK9 := hK.sub (tys' := [(cyI, .int), (cyZ, .boolean)]) [0, 1] rfl
    exact W.vret hx hb hr (fun tS ht hW => ⟨⟨f1, rfl, fun j hj => hf j (by omega), by rw [ht]; exact hP9, va_K.moved hW.alike hK9, hD9⟩, hS.F ht⟩) hS.2.2 dX3_becomeLike_29
  ·
    refine lv_aload_n hx hb dX3_becomeLike_14 rfl (lv_at hl 0 rfl) ?_
    refine lv_aload_n hx hb dX3_becomeLike_15 rfl (lv_at hl 1 rfl) ?_
    refine lv_iload_n hx hb dX3_becomeLike_16 rfl (lv_at hl 2 rfl) ?_
    have hPc := hP.sub (ws' := [(qb, .inr (2, [.ref qba, .int (nI k)])), (qba, .inl (cyI, 450, .inl g))]) [0, 1] rfl
    have hKc := hK.sub (tys' := [(cyI, .int), (cyZ, .boolean)]) [0, 1] rfl
    refine vp_callSi (va_Run.run (va_runV (As := [.int (nI i)]) (rest := [.ref qo]) ⟨hx, hb, hml, hown, hts⟩ (c_X3_at_in l dC dI cyI cyZ qb qba g k i (by omega) (by omega)) (cwV 1 hts gX3_becomeLike_X3_at rfl rfl rfl (by decide +kernel) ⟨Nat.le_of_ble_eq_true rfl, Nat.le_of_ble_eq_true rfl⟩) ⟨zz_blR, va_recv hKc hPc (ci := 2) (q0 := 0) rfl rfl, fun U hU hW => ⟨rfl, by rw [hU]; exact hPc, va_K.moved hW.alike hKc⟩⟩ rfl rfl hl.1 rfl (lv_room (Nat.le_of_ble_eq_true rfl)) dX3_becomeLike_17 ⟨Nat.zero_le _, Nat.zero_le _⟩)) (fun r_17 hr_17 => ?_)
    have hr_17 : g i = r_17 := Eq.symm hr_17
    subst hr_17
    have hPc := hP.sub (ws' := [(qo, .inr (2, [.ref qa, .int (nI i)])), (qa, .inl (cyI, 450, .inl f1))]) [2, 3] rfl
    have hKc := hK.sub (tys' := [(cyI, .int), (cyZ, .boolean)]) [0, 1] rfl
    have hDc := hD.sub (ws' := [(qo, .inr (2, [.ref qa, .int (nI i)])), (qa, .inl (cyI, 450, .inl f1))]) [2, 3] (by decide) rfl
    have hFc := va_free (wc := [(qo, .inr (2, [.ref qa, .int (nI i)])), (qa, .inl (cyI, 450, .inl f1))]) hD hS hA [2, 3] rfl
    refine va_callv (va_runV (As := [.int (g i)]) (rest := []) ⟨hx, hb, hml, hown, hts⟩ (c_X3_append l dC dI cyI cyZ qo qa H.size f1 i (g i) (by omega)) (cwV 1 hts gX3_becomeLike_X3_append rfl rfl rfl (by decide +kernel) ⟨Nat.le_of_ble_eq_true rfl, Nat.le_of_ble_eq_true rfl⟩) ⟨zz_blW, va_recv hKc hPc (ci := 2) (q0 := 0) rfl rfl, fun U hU hW => ⟨rfl, by rw [hU], by rw [hU]; exact hPc, va_K.moved hW.alike hKc, hDc.weaken (fun _ _ _ _ => trivial)⟩⟩ rfl rfl hl.1 rfl (lv_room (Nat.le_of_ble_eq_true rfl)) dX3_becomeLike_20 ⟨Nat.zero_le _, Nat.zero_le _⟩) hS (fun q _ h => hFc q h) hFc (fun uU tS H1 locs ht9 hvm9 hw9 hB9 hz1 hk1 hS => ?_)
    obtain ⟨hP1, hK1, hD1⟩ := hB9
    rw [ht9] at hP1
    have hK1 := va_K.moved hvm9.symm hK1
    obtain ⟨hP, hD⟩ := va_join (wr := [(qb, .inr (2, [.ref qba, .int (nI k)])), (qba, .inl (cyI, 450, .inl g))]) (w1 := [(qo, .inr (2, [.ref qa, .int (nI (i + 1))])), (qa, .inl (cyI, 450, .inl (upd f1 i ((g i) &&& nI 255))))]) hP hD [2, 3] [0, 1] rfl rfl (by decide) (by decide) hk1 hFc hP1 hD1
    generalize H1 = H at hP hS ⊢
    have hP : va_P (dC, dI) vwCl [(qb, .inr (2, [.ref qba, .int (nI k)])), (qba, .inl (cyI, 450, .inl g)), (qo, .inr (2, [.ref qa, .int (nI (i + 1))])), (qa, .inl (cyI, 450, .inl (upd f1 i ((g i) &&& nI 255))))] H := hP
    have hD : va_D A [(qb, .inr (2, [.ref qba, .int (nI k)])), (qba, .inl (cyI, 450, .inl g)), (qo, .inr (2, [.ref qa, .int (nI (i + 1))])), (qa, .inl (cyI, 450, .inl (upd f1 i ((g i) &&& nI 255))))] := hD
    refine lv_iinc (v := nI (i + 1)) (lv' := [(2, .int (nI (i + 1))), (0, .ref qo), (1, .ref qb)]) hx hb dX3_becomeLike_23 hl (k := 2) rfl (nI_add i 1) (by decide) rfl (fun ls hl => ?_)
    refine lv_goto (tgt := 6) hx hb dX3_becomeLike_26 (by decide) ?_
    -- cell qa: .inl (cyI, 450, .inl (upd f1 i ((g i) &&& nI 255))) ~ .inl (cyI, 450, .inl (upd f1 i (g i &&& nI 255)))
    exact ih6 (i + 1, upd f1 i (g i &&& nI 255)) _ _ _ ⟨by omega, fun j hj => by
      by_cases e : j = i
      · rw [e, upd_at, zO_and (hg i (by omega))]
      · rw [upd_ne e]; exact hf j (by omega), hP, hD, hS, lv_sub hl [1, 2, 0] rfl⟩ (by first | omega | (dsimp only; omega))
set_option maxHeartbeats 4000000 in
set_option maxRecDepth 100000 in
theorem c_X3_repeat (l : Launch) (dC : Nat → ClassId) (dI : Nat → Nat → Nat) (cyI cyZ : ClassId) (qo qa : Nat) (sz : Nat) (f : Nat → Int32) (n d q : Nat) (hd0 : 0 < d) (hdn : d ≤ n) (hqn : n + q ≤ 450) (hf : ∀ j, j < n → zO (f j)) : Met l yX3_repeat wsX3_repeat ({ frames := 1, cells := 0, slots := 0, locals := 21 }) (va_Pc [.ref qo, .int (nI d), .int (nI q)] (fun U => U.heap.size = sz ∧ va_P (dC, dI) vwCl [(qo, .inr (2, [.ref qa, .int (nI n)])), (qa, .inl (cyI, 450, .inl f))] U.heap ∧ va_K (dC, dI) vwCl [(cyI, .int), (cyZ, .boolean)] U ∧ va_D (fun _ => True) [(qo, .inr (2, [.ref qa, .int (nI n)])), (qa, .inl (cyI, 450, .inl f))])) (va_Qv (S := Unit) (fun (_ : Unit) => True) (fun (_ : Unit) tS => va_P (dC, dI) vwCl [(qo, .inr (2, [.ref qa, .int (nI (n + q))])), (qa, .inl (cyI, 450, .inl (zrep f n d q)))] tS.heap ∧ va_K (dC, dI) vwCl [(cyI, .int), (cyZ, .boolean)] tS ∧ va_D (va_A [(qo, .inr (2, [.ref qa, .int (nI n)])), (qa, .inl (cyI, 450, .inl f))] sz) [(qo, .inr (2, [.ref qa, .int (nI (n + q))])), (qa, .inl (cyI, 450, .inl (zrep f n d q)))]) (va_A [(qo, .inr (2, [.ref qa, .int (nI n)])), (qa, .inl (cyI, 450, .inl f))] sz)) 0 0 (va_A [(qo, .inr (2, [.ref qa, .int (nI n)])), (qa, .inl (cyI, 450, .inl f))] sz) := by
  refine Met.ofW (cc := cX3_repeat) (maxL := 4) (ret := none) (by decide) rfl ?_
  intro pz ez sS mM args below meth cC s₁ B hml hv
  obtain ⟨rfl, hsz, hP, hK, hD0⟩ := hv
  have hx := B.exec
  have hb := B.bytes
  have hr := B.returns
  have hts := atoms_spec (ws := wsX3_repeat) B.pre
  have hown : sS.vm.findClass RX3 = some mM.cls := findClass_of_methodNamed B.named
  have hlocks := B.notSynchronized
  subst hsz
  have hD := hD0.self (sz := sS.heap.size)
  generalize hAe : va_A [(qo, .inr (2, [.ref qa, .int (nI n)])), (qa, .inl (cyI, 450, .inl f))] sS.heap.size = A at hD ⊢
  have hA : ∀ q : Nat, sS.heap.size ≤ q → A q := fun q h => by rw [← hAe]; exact Or.inr h
  have hS : va_S A sS.heap sS.heap [] := va_S.rf
  have hP : va_P (dC, dI) vwCl [(qo, .inr (2, [.ref qa, .int (nI n)])), (qa, .inl (cyI, 450, .inl f))] sS.heap := hP
  have iwX3 : ∀ w ∈ wsX30, w ∈ wsX3_repeat := by decide +kernel
  have fk15 := hts (.fieldLink RX3 15 "CodedStore$Octets" "size" "I") (by decide +kernel)
  have hl := lv_entry ([.ref qo, .int (nI d), .int (nI q)]) (n := 4) (Nat.le_of_ble_eq_true rfl)
  rw [lg_entry_eq]
  generalize (lg_sl ([.ref qo, .int (nI d), .int (nI q)]) ++ List.replicate (4 - (lg_sl ([.ref qo, .int (nI d), .int (nI q)])).length) Slot.unset).toArray = ls at hl ⊢
  have hl : lv_has ls 4 [(0, .ref qo), (1, .int (nI d)), (2, .int (nI q))] := hl
  refine lv_iconst (v := nI 0) hx hb dX3_repeat_0 (by decide) ?_
  refine lv_istore_n (lv' := [(3, .int (nI 0)), (0, .ref qo), (1, .int (nI d)), (2, .int (nI q))]) hx hb dX3_repeat_1 rfl hl (by decide) rfl (fun ls hl => ?_)
  refine zz_loopW (pc := 2) (μ := fun (i : Nat) => q - i) (Inv := fun (i : Nat) (H : Heap) (locs : List Loc) (ls : Array Slot) => (i ≤ q) ∧ va_P (dC, dI) vwCl [(qo, .inr (2, [.ref qa, .int (nI (n + i))])), (qa, .inl (cyI, 450, .inl (zrep f n d i)))] H ∧ va_D A [(qo, .inr (2, [.ref qa, .int (nI (n + i))])), (qa, .inl (cyI, 450, .inl (zrep f n d i)))] ∧ va_S A sS.heap H locs ∧ lv_has ls 4 [(0, .ref qo), (1, .int (nI d)), (2, .int (nI q)), (3, .int (nI i))]) (x0 := (0)) ⟨by omega, hP, hD, hS, lv_sub hl [1, 2, 3, 0] rfl⟩ ?_
  intro i H locs ls hI ih2
  obtain ⟨hi, hP, hD, hS, hl⟩ := hI
  have hl : lv_has ls 4 [(0, .ref qo), (1, .int (nI d)), (2, .int (nI q)), (3, .int (nI i))] := hl
  have hP : va_P (dC, dI) vwCl [(qo, .inr (2, [.ref qa, .int (nI (n + i))])), (qa, .inl (cyI, 450, .inl (zrep f n d i)))] H := hP
  have hD : va_D A [(qo, .inr (2, [.ref qa, .int (nI (n + i))])), (qa, .inl (cyI, 450, .inl (zrep f n d i)))] := hD
  have hi : i ≤ q := hi
  refine lv_iload_n hx hb dX3_repeat_2 rfl (lv_at hl 3 rfl) ?_
  refine lv_iload_n hx hb dX3_repeat_3 rfl (lv_at hl 2 rfl) ?_
  refine zn_icmp_ge (tgt := 27) hx hb dX3_repeat_4 (by decide) (by omega) (by omega) (fun c_4 => ?_) (fun c_4 => ?_)
  ·
    have hiq : q = i := by omega
    subst hiq
    -- qo : .inr (2, [.ref qa, .int (nI (n + i))])  ~  .inr (2, [.ref qa, .int (nI (n + q))])
    -- qa : .inl (cyI, 450, .inl (zrep f n d i))  ~  .inl (cyI, 450, .inl (zrep f n d q))
    have hP9 := hP.sub (ws' := [(qo, .inr (2, [.ref qa, .int (nI (n + q))])), (qa, .inl (cyI, 450, .inl (zrep f n d q)))]) [0, 1] rfl
    have hD9 := hD.sub (ws' := [(qo, .inr (2, [.ref qa, .int (nI (n + q))])), (qa, .inl (cyI, 450, .inl (zrep f n d q)))]) [0, 1] (by decide) rfl
    have hK9 := hK.sub (tys' := [(cyI, .int), (cyZ, .boolean)]) [0, 1] rfl
    exact W.vret hx hb hr (fun tS ht hW => ⟨⟨(), rfl, trivial, by rw [ht]; exact hP9, va_K.moved hW.alike hK9, hD9⟩, hS.F ht⟩) hS.2.2 dX3_repeat_27
  ·
    refine lv_aload_n hx hb dX3_repeat_7 rfl (lv_at hl 0 rfl) ?_
    refine lv_aload_n hx hb dX3_repeat_8 rfl (lv_at hl 0 rfl) ?_
    refine lv_aload_n hx hb dX3_repeat_9 rfl (lv_at hl 0 rfl) ?_
    refine va_get (D := (dC, dI)) (ci := 2) (v := .int (nI (n + i))) (C := RX3) (T := TX3) (N := 2) hx hb hts iwX3 hown hK hP 0 rfl rfl 1 (by decide) fk15 (fun _ h9 => h9) rfl dX3_repeat_10 ?_
    refine lv_iload_n hx hb dX3_repeat_13 rfl (lv_at hl 1 rfl) ?_
    refine lv_isub hx hb dX3_repeat_14 ?_
    refine zz_top (pk_sub (a := n + i) (b := d) (by omega)) ?_
    have hPc := hP.sub (ws' := [(qo, .inr (2, [.ref qa, .int (nI (n + i))])), (qa, .inl (cyI, 450, .inl (zrep f n d i)))]) [0, 1] rfl
    have hKc := hK.sub (tys' := [(cyI, .int), (cyZ, .boolean)]) [0, 1] rfl
    refine vp_callSi (va_Run.run (va_runV (As := [.int (nI ((n + i) - d))]) (rest := [.ref qo]) ⟨hx, hb, hml, hown, hts⟩ (c_X3_at_in l dC dI cyI cyZ qo qa (zrep f n d i) (n + i) ((n + i) - d) (by omega) (by omega)) (cwV 1 hts gX3_repeat_X3_at rfl rfl rfl (by decide +kernel) ⟨Nat.le_of_ble_eq_true rfl, Nat.le_of_ble_eq_true rfl⟩) ⟨zz_blR, va_recv hKc hPc (ci := 2) (q0 := 0) rfl rfl, fun U hU hW => ⟨rfl, by rw [hU]; exact hPc, va_K.moved hW.alike hKc⟩⟩ rfl rfl hl.1 rfl (lv_room (Nat.le_of_ble_eq_true rfl)) dX3_repeat_15 ⟨Nat.zero_le _, Nat.zero_le _⟩)) (fun r_15 hr_15 => ?_)
    have hr_15 : (zrep f n d i) ((n + i) - d) = r_15 := Eq.symm hr_15
    subst hr_15
    have hPc := hP.sub (ws' := [(qo, .inr (2, [.ref qa, .int (nI (n + i))])), (qa, .inl (cyI, 450, .inl (zrep f n d i)))]) [0, 1] rfl
    have hKc := hK.sub (tys' := [(cyI, .int), (cyZ, .boolean)]) [0, 1] rfl
    have hDc := hD.sub (ws' := [(qo, .inr (2, [.ref qa, .int (nI (n + i))])), (qa, .inl (cyI, 450, .inl (zrep f n d i)))]) [0, 1] (by decide) rfl
    have hFc := va_free (wc := [(qo, .inr (2, [.ref qa, .int (nI (n + i))])), (qa, .inl (cyI, 450, .inl (zrep f n d i)))]) hD hS hA [0, 1] rfl
    refine va_callv (va_runV (As := [.int ((zrep f n d i) ((n + i) - d))]) (rest := []) ⟨hx, hb, hml, hown, hts⟩ (c_X3_append l dC dI cyI cyZ qo qa H.size (zrep f n d i) (n + i) ((zrep f n d i) ((n + i) - d)) (by omega)) (cwV 1 hts gX3_repeat_X3_append rfl rfl rfl (by decide +kernel) ⟨Nat.le_of_ble_eq_true rfl, Nat.le_of_ble_eq_true rfl⟩) ⟨zz_blW, va_recv hKc hPc (ci := 2) (q0 := 0) rfl rfl, fun U hU hW => ⟨rfl, by rw [hU], by rw [hU]; exact hPc, va_K.moved hW.alike hKc, hDc.weaken (fun _ _ _ _ => trivial)⟩⟩ rfl rfl hl.1 rfl (lv_room (Nat.le_of_ble_eq_true rfl)) dX3_repeat_18 ⟨Nat.zero_le _, Nat.zero_le _⟩) hS (fun q _ h => hFc q h) hFc (fun uU tS H1 locs ht9 hvm9 hw9 hB9 hz1 hk1 hS => ?_)
    obtain ⟨hP1, hK1, hD1⟩ := hB9
    rw [ht9] at hP1
    have hK1 := va_K.moved hvm9.symm hK1
    obtain ⟨hP, hD⟩ := va_join (wr := []) (w1 := [(qo, .inr (2, [.ref qa, .int (nI ((n + i) + 1))])), (qa, .inl (cyI, 450, .inl (upd (zrep f n d i) (n + i) (((zrep f n d i) ((n + i) - d)) &&& nI 255))))]) hP hD [0, 1] [] rfl rfl (by decide) (by decide) hk1 hFc hP1 hD1
    generalize H1 = H at hP hS ⊢
    have hP : va_P (dC, dI) vwCl [(qo, .inr (2, [.ref qa, .int (nI ((n + i) + 1))])), (qa, .inl (cyI, 450, .inl (upd (zrep f n d i) (n + i) (((zrep f n d i) ((n + i) - d)) &&& nI 255))))] H := hP
    have hD : va_D A [(qo, .inr (2, [.ref qa, .int (nI ((n + i) + 1))])), (qa, .inl (cyI, 450, .inl (upd (zrep f n d i) (n + i) (((zrep f n d i) ((n + i) - d)) &&& nI 255))))] := hD
    have eqc : upd (zrep f n d i) (n + i) (((zrep f n d i) ((n + i) - d)) &&& nI 255) = zrep f n d (i + 1) := by rw [zrep, zO_and (zrep_O f hd0 hdn hf i _ (by omega))]
    rw [eqc] at hP hD
    have hP : va_P (dC, dI) vwCl [(qo, .inr (2, [.ref qa, .int (nI ((n + i) + 1))])), (qa, .inl (cyI, 450, .inl (zrep f n d (i + 1))))] H := hP
    have hD : va_D A [(qo, .inr (2, [.ref qa, .int (nI ((n + i) + 1))])), (qa, .inl (cyI, 450, .inl (zrep f n d (i + 1))))] := hD
    refine lv_iinc (v := nI (i + 1)) (lv' := [(3, .int (nI (i + 1))), (0, .ref qo), (1, .int (nI d)), (2, .int (nI q))]) hx hb dX3_repeat_21 hl (k := 3) rfl (nI_add i 1) (by decide) rfl (fun ls hl => ?_)
    refine lv_goto (tgt := 2) hx hb dX3_repeat_24 (by decide) ?_
    -- cell qo: .inr (2, [.ref qa, .int (nI ((n + i) + 1))]) ~ .inr (2, [.ref qa, .int (nI (n + (i + 1)))])
    exact ih2 (i + 1) _ _ _ ⟨by omega, hP, hD, hS, lv_sub hl [1, 2, 3, 0] rfl⟩ (by first | omega | (dsimp only; omega))
