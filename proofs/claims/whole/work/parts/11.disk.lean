set_option maxHeartbeats 4000000 in
set_option maxRecDepth 100000 in
theorem c_X2_isOn (l : Launch) (dC : Nat → ClassId) (dI : Nat → Nat → Nat) (cyI cyZ : ClassId) (qd qw : Nat) (w : Nat → Int32) (on : Bool) (lf : Int32) (dn : Nat)  : Met l yX2_isOn wsX2_isOn ({ frames := 0, cells := 0, slots := 0, locals := 0 }) (va_Pc [.ref qd] (fun U => va_P (dC, dI) vwCl [(qd, .inr (1, [.ref qw, .int (bI on), .int lf, .int (nI dn)])), (qw, .inl (cyI, 512, .inl w))] U.heap ∧ va_K (dC, dI) vwCl [(cyI, .int), (cyZ, .boolean)] U)) (vp_Si (fun r => r = bI on)) 0 0 (fun _ => False) := by
  refine Met.ofW (cc := cX2_isOn) (maxL := 1) (ret := (some .boolean)) (by decide) rfl ?_
  intro pz ez sS mM args below meth cC s₁ B hml hv
  obtain ⟨rfl, hP, hK⟩ := hv
  have hx := B.exec
  have hb := B.bytes
  have hr := B.returns
  have hts := atoms_spec (ws := wsX2_isOn) B.pre
  have hown : sS.vm.findClass RX2 = some mM.cls := findClass_of_methodNamed B.named
  have hlocks := B.notSynchronized
  have iwX2 : ∀ w ∈ wsX20, w ∈ wsX2_isOn := by decide +kernel
  have fk15 := hts (.fieldLink RX2 15 "CodedStore$Disk" "on" "Z") (by decide +kernel)
  have hl := lv_entry ([.ref qd]) (n := 1) (Nat.le_of_ble_eq_true rfl)
  rw [lg_entry_eq]
  generalize (lg_sl ([.ref qd]) ++ List.replicate (1 - (lg_sl ([.ref qd])).length) Slot.unset).toArray = ls at hl ⊢
  have hl : lv_has ls 1 [(0, .ref qd)] := hl
  refine lv_aload_n hx hb dX2_isOn_0 rfl (lv_at hl 0 rfl) ?_
  refine va_get (D := (dC, dI)) (ci := 1) (v := .int (bI on)) (C := RX2) (T := TX2) (N := 4) hx hb hts iwX2 hown hK hP 0 rfl rfl 1 (by decide) fk15 (fun _ h9 => h9) rfl dX2_isOn_1 ?_
  have hret : bI on = bI on := rfl
  refine zz_top hret ?_
  exact W.zret hx hb hr (zz_narZ (by first | exact zz_zb _ | exact zz_z0 | exact zz_z1)) (fun tS ht hW => ⟨_, rfl, rfl, ht⟩) (fun _ h => nomatch h) dX2_isOn_4
set_option maxHeartbeats 4000000 in
set_option maxRecDepth 100000 in
theorem c_X2_switchOn (l : Launch) (dC : Nat → ClassId) (dI : Nat → Nat → Nat) (cyI cyZ : ClassId) (qd qw : Nat) (sz : Nat) (w : Nat → Int32) (on : Bool) (lf : Int32) (dn : Nat)  : Met l yX2_switchOn wsX2_switchOn ({ frames := 0, cells := 0, slots := 0, locals := 0 }) (va_Pc [.ref qd] (fun U => U.heap.size = sz ∧ va_P (dC, dI) vwCl [(qd, .inr (1, [.ref qw, .int (bI on), .int lf, .int (nI dn)])), (qw, .inl (cyI, 512, .inl w))] U.heap ∧ va_K (dC, dI) vwCl [(cyI, .int), (cyZ, .boolean)] U ∧ va_D (fun _ => True) [(qd, .inr (1, [.ref qw, .int (bI on), .int lf, .int (nI dn)])), (qw, .inl (cyI, 512, .inl w))])) (va_Qv (S := Unit) (fun (_ : Unit) => True) (fun (_ : Unit) tS => va_P (dC, dI) vwCl [(qd, .inr (1, [.ref qw, .int (bI true), .int (-1), .int (nI dn)])), (qw, .inl (cyI, 512, .inl w))] tS.heap ∧ va_K (dC, dI) vwCl [(cyI, .int), (cyZ, .boolean)] tS ∧ va_D (va_A [(qd, .inr (1, [.ref qw, .int (bI on), .int lf, .int (nI dn)])), (qw, .inl (cyI, 512, .inl w))] sz) [(qd, .inr (1, [.ref qw, .int (bI true), .int (-1), .int (nI dn)])), (qw, .inl (cyI, 512, .inl w))]) (va_A [(qd, .inr (1, [.ref qw, .int (bI on), .int lf, .int (nI dn)])), (qw, .inl (cyI, 512, .inl w))] sz)) 0 0 (va_A [(qd, .inr (1, [.ref qw, .int (bI on), .int lf, .int (nI dn)])), (qw, .inl (cyI, 512, .inl w))] sz) := by
  refine Met.ofW (cc := cX2_switchOn) (maxL := 1) (ret := none) (by decide) rfl ?_
  intro pz ez sS mM args below meth cC s₁ B hml hv
  obtain ⟨rfl, hsz, hP, hK, hD0⟩ := hv
  have hx := B.exec
  have hb := B.bytes
  have hr := B.returns
  have hts := atoms_spec (ws := wsX2_switchOn) B.pre
  have hown : sS.vm.findClass RX2 = some mM.cls := findClass_of_methodNamed B.named
  have hlocks := B.notSynchronized
  subst hsz
  have hD := hD0.self (sz := sS.heap.size)
  generalize hAe : va_A [(qd, .inr (1, [.ref qw, .int (bI on), .int lf, .int (nI dn)])), (qw, .inl (cyI, 512, .inl w))] sS.heap.size = A at hD ⊢
  have hA : ∀ q : Nat, sS.heap.size ≤ q → A q := fun q h => by rw [← hAe]; exact Or.inr h
  have hS : va_S A sS.heap sS.heap [] := va_S.rf
  have hP : va_P (dC, dI) vwCl [(qd, .inr (1, [.ref qw, .int (bI on), .int lf, .int (nI dn)])), (qw, .inl (cyI, 512, .inl w))] sS.heap := hP
  have iwX2 : ∀ w ∈ wsX20, w ∈ wsX2_switchOn := by decide +kernel
  have fk15 := hts (.fieldLink RX2 15 "CodedStore$Disk" "on" "Z") (by decide +kernel)
  have fk19 := hts (.fieldLink RX2 19 "CodedStore$Disk" "left" "I") (by decide +kernel)
  have hl := lv_entry ([.ref qd]) (n := 1) (Nat.le_of_ble_eq_true rfl)
  rw [lg_entry_eq]
  generalize (lg_sl ([.ref qd]) ++ List.replicate (1 - (lg_sl ([.ref qd])).length) Slot.unset).toArray = ls at hl ⊢
  have hl : lv_has ls 1 [(0, .ref qd)] := hl
  refine lv_aload_n hx hb dX2_switchOn_0 rfl (lv_at hl 0 rfl) ?_
  refine lv_iconst (v := nI 1) hx hb dX2_switchOn_1 (by decide) ?_
  refine va_put (D := (dC, dI)) (ci := 1) (v := .int (nI 1)) (ty := .boolean) (C := RX2) (T := TX2) (N := 4) hx hb hts iwX2 tyX2 tyX2_ok nmX2 hown hK hP hD hS 0 rfl rfl 1 (by decide) fk15 (fun _ h9 => h9) rfl (by decide +kernel) rfl rfl (Nat.le_of_ble_eq_true rfl) dX2_switchOn_2 (fun H locs hP hD hS => ?_)
  have hP : va_P (dC, dI) vwCl [(qd, .inr (1, [.ref qw, .int (nI 1), .int lf, .int (nI dn)])), (qw, .inl (cyI, 512, .inl w))] H := hP
  have hD : va_D A [(qd, .inr (1, [.ref qw, .int (nI 1), .int lf, .int (nI dn)])), (qw, .inl (cyI, 512, .inl w))] := hD
  refine lv_aload_n hx hb dX2_switchOn_5 rfl (lv_at hl 0 rfl) ?_
  refine lv_iconst (v := (-1)) hx hb dX2_switchOn_6 (by decide) ?_
  refine va_put (D := (dC, dI)) (ci := 1) (v := .int (-1)) (ty := .int) (C := RX2) (T := TX2) (N := 4) hx hb hts iwX2 tyX2 tyX2_ok nmX2 hown hK hP hD hS 0 rfl rfl 2 (by decide) fk19 (fun _ h9 => h9) rfl (by decide +kernel) rfl rfl (Nat.le_of_ble_eq_true rfl) dX2_switchOn_7 (fun H locs hP hD hS => ?_)
  have hP : va_P (dC, dI) vwCl [(qd, .inr (1, [.ref qw, .int (nI 1), .int (-1), .int (nI dn)])), (qw, .inl (cyI, 512, .inl w))] H := hP
  have hD : va_D A [(qd, .inr (1, [.ref qw, .int (nI 1), .int (-1), .int (nI dn)])), (qw, .inl (cyI, 512, .inl w))] := hD
  -- qd : .inr (1, [.ref qw, .int (nI 1), .int (-1), .int (nI dn)])  ~  .inr (1, [.ref qw, .int (bI true), .int (-1), .int (nI dn)])
  have hP9 := hP.sub (ws' := [(qd, .inr (1, [.ref qw, .int (bI true), .int (-1), .int (nI dn)])), (qw, .inl (cyI, 512, .inl w))]) [0, 1] rfl
  have hD9 := hD.sub (ws' := [(qd, .inr (1, [.ref qw, .int (bI true), .int (-1), .int (nI dn)])), (qw, .inl (cyI, 512, .inl w))]) [0, 1] (by decide) rfl
  have hK9 := hK.sub (tys' := [(cyI, .int), (cyZ, .boolean)]) [0, 1] rfl
  exact W.vret hx hb hr (fun tS ht hW => ⟨⟨(), rfl, trivial, by rw [ht]; exact hP9, va_K.moved hW.alike hK9, hD9⟩, hS.F ht⟩) hS.2.2 dX2_switchOn_10
set_option maxHeartbeats 4000000 in
set_option maxRecDepth 100000 in
theorem c_X2_allowWrites (l : Launch) (dC : Nat → ClassId) (dI : Nat → Nat → Nat) (cyI cyZ : ClassId) (qd qw : Nat) (sz : Nat) (w : Nat → Int32) (on : Bool) (lf : Int32) (dn : Nat) (v : Int32)  : Met l yX2_allowWrites wsX2_allowWrites ({ frames := 0, cells := 0, slots := 0, locals := 0 }) (va_Pc [.ref qd, .int v] (fun U => U.heap.size = sz ∧ va_P (dC, dI) vwCl [(qd, .inr (1, [.ref qw, .int (bI on), .int lf, .int (nI dn)])), (qw, .inl (cyI, 512, .inl w))] U.heap ∧ va_K (dC, dI) vwCl [(cyI, .int), (cyZ, .boolean)] U ∧ va_D (fun _ => True) [(qd, .inr (1, [.ref qw, .int (bI on), .int lf, .int (nI dn)])), (qw, .inl (cyI, 512, .inl w))])) (va_Qv (S := Unit) (fun (_ : Unit) => True) (fun (_ : Unit) tS => va_P (dC, dI) vwCl [(qd, .inr (1, [.ref qw, .int (bI on), .int v, .int (nI dn)])), (qw, .inl (cyI, 512, .inl w))] tS.heap ∧ va_K (dC, dI) vwCl [(cyI, .int), (cyZ, .boolean)] tS ∧ va_D (va_A [(qd, .inr (1, [.ref qw, .int (bI on), .int lf, .int (nI dn)])), (qw, .inl (cyI, 512, .inl w))] sz) [(qd, .inr (1, [.ref qw, .int (bI on), .int v, .int (nI dn)])), (qw, .inl (cyI, 512, .inl w))]) (va_A [(qd, .inr (1, [.ref qw, .int (bI on), .int lf, .int (nI dn)])), (qw, .inl (cyI, 512, .inl w))] sz)) 0 0 (va_A [(qd, .inr (1, [.ref qw, .int (bI on), .int lf, .int (nI dn)])), (qw, .inl (cyI, 512, .inl w))] sz) := by
  refine Met.ofW (cc := cX2_allowWrites) (maxL := 2) (ret := none) (by decide) rfl ?_
  intro pz ez sS mM args below meth cC s₁ B hml hv
  obtain ⟨rfl, hsz, hP, hK, hD0⟩ := hv
  have hx := B.exec
  have hb := B.bytes
  have hr := B.returns
  have hts := atoms_spec (ws := wsX2_allowWrites) B.pre
  have hown : sS.vm.findClass RX2 = some mM.cls := findClass_of_methodNamed B.named
  have hlocks := B.notSynchronized
  subst hsz
  have hD := hD0.self (sz := sS.heap.size)
  generalize hAe : va_A [(qd, .inr (1, [.ref qw, .int (bI on), .int lf, .int (nI dn)])), (qw, .inl (cyI, 512, .inl w))] sS.heap.size = A at hD ⊢
  have hA : ∀ q : Nat, sS.heap.size ≤ q → A q := fun q h => by rw [← hAe]; exact Or.inr h
  have hS : va_S A sS.heap sS.heap [] := va_S.rf
  have hP : va_P (dC, dI) vwCl [(qd, .inr (1, [.ref qw, .int (bI on), .int lf, .int (nI dn)])), (qw, .inl (cyI, 512, .inl w))] sS.heap := hP
  have iwX2 : ∀ w ∈ wsX20, w ∈ wsX2_allowWrites := by decide +kernel
  have fk19 := hts (.fieldLink RX2 19 "CodedStore$Disk" "left" "I") (by decide +kernel)
  have hl := lv_entry ([.ref qd, .int v]) (n := 2) (Nat.le_of_ble_eq_true rfl)
  rw [lg_entry_eq]
  generalize (lg_sl ([.ref qd, .int v]) ++ List.replicate (2 - (lg_sl ([.ref qd, .int v])).length) Slot.unset).toArray = ls at hl ⊢
  have hl : lv_has ls 2 [(0, .ref qd), (1, .int v)] := hl
  refine lv_aload_n hx hb dX2_allowWrites_0 rfl (lv_at hl 0 rfl) ?_
  refine lv_iload_n hx hb dX2_allowWrites_1 rfl (lv_at hl 1 rfl) ?_
  refine va_put (D := (dC, dI)) (ci := 1) (v := .int v) (ty := .int) (C := RX2) (T := TX2) (N := 4) hx hb hts iwX2 tyX2 tyX2_ok nmX2 hown hK hP hD hS 0 rfl rfl 2 (by decide) fk19 (fun _ h9 => h9) rfl (by decide +kernel) rfl rfl (Nat.le_of_ble_eq_true rfl) dX2_allowWrites_2 (fun H locs hP hD hS => ?_)
  have hP : va_P (dC, dI) vwCl [(qd, .inr (1, [.ref qw, .int (bI on), .int v, .int (nI dn)])), (qw, .inl (cyI, 512, .inl w))] H := hP
  have hD : va_D A [(qd, .inr (1, [.ref qw, .int (bI on), .int v, .int (nI dn)])), (qw, .inl (cyI, 512, .inl w))] := hD
  have hP9 := hP.sub (ws' := [(qd, .inr (1, [.ref qw, .int (bI on), .int v, .int (nI dn)])), (qw, .inl (cyI, 512, .inl w))]) [0, 1] rfl
  have hD9 := hD.sub (ws' := [(qd, .inr (1, [.ref qw, .int (bI on), .int v, .int (nI dn)])), (qw, .inl (cyI, 512, .inl w))]) [0, 1] (by decide) rfl
  have hK9 := hK.sub (tys' := [(cyI, .int), (cyZ, .boolean)]) [0, 1] rfl
  exact W.vret hx hb hr (fun tS ht hW => ⟨⟨(), rfl, trivial, by rw [ht]; exact hP9, va_K.moved hW.alike hK9, hD9⟩, hS.F ht⟩) hS.2.2 dX2_allowWrites_5
set_option maxHeartbeats 4000000 in
set_option maxRecDepth 100000 in
theorem c_X2_writesLeft (l : Launch) (dC : Nat → ClassId) (dI : Nat → Nat → Nat) (cyI cyZ : ClassId) (qd qw : Nat) (w : Nat → Int32) (on : Bool) (lf : Int32) (dn : Nat)  : Met l yX2_writesLeft wsX2_writesLeft ({ frames := 0, cells := 0, slots := 0, locals := 0 }) (va_Pc [.ref qd] (fun U => va_P (dC, dI) vwCl [(qd, .inr (1, [.ref qw, .int (bI on), .int lf, .int (nI dn)])), (qw, .inl (cyI, 512, .inl w))] U.heap ∧ va_K (dC, dI) vwCl [(cyI, .int), (cyZ, .boolean)] U)) (vp_Si (fun r => r = lf)) 0 0 (fun _ => False) := by
  refine Met.ofW (cc := cX2_writesLeft) (maxL := 1) (ret := (some .int)) (by decide) rfl ?_
  intro pz ez sS mM args below meth cC s₁ B hml hv
  obtain ⟨rfl, hP, hK⟩ := hv
  have hx := B.exec
  have hb := B.bytes
  have hr := B.returns
  have hts := atoms_spec (ws := wsX2_writesLeft) B.pre
  have hown : sS.vm.findClass RX2 = some mM.cls := findClass_of_methodNamed B.named
  have hlocks := B.notSynchronized
  have iwX2 : ∀ w ∈ wsX20, w ∈ wsX2_writesLeft := by decide +kernel
  have fk19 := hts (.fieldLink RX2 19 "CodedStore$Disk" "left" "I") (by decide +kernel)
  have hl := lv_entry ([.ref qd]) (n := 1) (Nat.le_of_ble_eq_true rfl)
  rw [lg_entry_eq]
  generalize (lg_sl ([.ref qd]) ++ List.replicate (1 - (lg_sl ([.ref qd])).length) Slot.unset).toArray = ls at hl ⊢
  have hl : lv_has ls 1 [(0, .ref qd)] := hl
  refine lv_aload_n hx hb dX2_writesLeft_0 rfl (lv_at hl 0 rfl) ?_
  refine va_get (D := (dC, dI)) (ci := 1) (v := .int lf) (C := RX2) (T := TX2) (N := 4) hx hb hts iwX2 hown hK hP 0 rfl rfl 2 (by decide) fk19 (fun _ h9 => h9) rfl dX2_writesLeft_1 ?_
  have hret : lf = lf := rfl
  refine zz_top hret ?_
  exact W.iret hx hb hr (fun tS ht hW => ⟨_, rfl, rfl, ht⟩) (fun _ h => nomatch h) dX2_writesLeft_4
set_option maxHeartbeats 4000000 in
set_option maxRecDepth 100000 in
theorem c_X2_writesDone (l : Launch) (dC : Nat → ClassId) (dI : Nat → Nat → Nat) (cyI cyZ : ClassId) (qd qw : Nat) (w : Nat → Int32) (on : Bool) (lf : Int32) (dn : Nat)  : Met l yX2_writesDone wsX2_writesDone ({ frames := 0, cells := 0, slots := 0, locals := 0 }) (va_Pc [.ref qd] (fun U => va_P (dC, dI) vwCl [(qd, .inr (1, [.ref qw, .int (bI on), .int lf, .int (nI dn)])), (qw, .inl (cyI, 512, .inl w))] U.heap ∧ va_K (dC, dI) vwCl [(cyI, .int), (cyZ, .boolean)] U)) (vp_Si (fun r => r = nI dn)) 0 0 (fun _ => False) := by
  refine Met.ofW (cc := cX2_writesDone) (maxL := 1) (ret := (some .int)) (by decide) rfl ?_
  intro pz ez sS mM args below meth cC s₁ B hml hv
  obtain ⟨rfl, hP, hK⟩ := hv
  have hx := B.exec
  have hb := B.bytes
  have hr := B.returns
  have hts := atoms_spec (ws := wsX2_writesDone) B.pre
  have hown : sS.vm.findClass RX2 = some mM.cls := findClass_of_methodNamed B.named
  have hlocks := B.notSynchronized
  have iwX2 : ∀ w ∈ wsX20, w ∈ wsX2_writesDone := by decide +kernel
  have fk23 := hts (.fieldLink RX2 23 "CodedStore$Disk" "done" "I") (by decide +kernel)
  have hl := lv_entry ([.ref qd]) (n := 1) (Nat.le_of_ble_eq_true rfl)
  rw [lg_entry_eq]
  generalize (lg_sl ([.ref qd]) ++ List.replicate (1 - (lg_sl ([.ref qd])).length) Slot.unset).toArray = ls at hl ⊢
  have hl : lv_has ls 1 [(0, .ref qd)] := hl
  refine lv_aload_n hx hb dX2_writesDone_0 rfl (lv_at hl 0 rfl) ?_
  refine va_get (D := (dC, dI)) (ci := 1) (v := .int (nI dn)) (C := RX2) (T := TX2) (N := 4) hx hb hts iwX2 hown hK hP 0 rfl rfl 3 (by decide) fk23 (fun _ h9 => h9) rfl dX2_writesDone_1 ?_
  have hret : nI dn = nI dn := rfl
  refine zz_top hret ?_
  exact W.iret hx hb hr (fun tS ht hW => ⟨_, rfl, rfl, ht⟩) (fun _ h => nomatch h) dX2_writesDone_4
set_option maxHeartbeats 4000000 in
set_option maxRecDepth 100000 in
theorem c_X2_write_off (l : Launch) (dC : Nat → ClassId) (dI : Nat → Nat → Nat) (cyI cyZ : ClassId) (qd qw qr : Nat) (sz : Nat) (w : Nat → Int32) (lf : Int32) (dn : Nat) (row : Nat → Int32) (b : Nat) (hb9 : b < 64) (hz : lf = nI 0) : Met l yX2_write wsX2_write ({ frames := 0, cells := 0, slots := 0, locals := 0 }) (va_Pc [.ref qd, .int (nI b), .ref qr] (fun U => U.heap.size = sz ∧ va_P (dC, dI) vwCl [(qd, .inr (1, [.ref qw, .int (bI true), .int lf, .int (nI dn)])), (qw, .inl (cyI, 512, .inl w)), (qr, .inl (cyI, 8, .inl row))] U.heap ∧ va_K (dC, dI) vwCl [(cyI, .int), (cyZ, .boolean)] U ∧ va_D (fun _ => True) [(qd, .inr (1, [.ref qw, .int (bI true), .int lf, .int (nI dn)])), (qw, .inl (cyI, 512, .inl w)), (qr, .inl (cyI, 8, .inl row))])) (va_Qi (S := Unit) (fun (r : Int32) (_ : Unit) => r = bI false) (fun (_ : Unit) tS => va_P (dC, dI) vwCl [(qd, .inr (1, [.ref qw, .int (bI false), .int lf, .int (nI dn)])), (qw, .inl (cyI, 512, .inl w)), (qr, .inl (cyI, 8, .inl row))] tS.heap ∧ va_K (dC, dI) vwCl [(cyI, .int), (cyZ, .boolean)] tS ∧ va_D (va_A [(qd, .inr (1, [.ref qw, .int (bI true), .int lf, .int (nI dn)])), (qw, .inl (cyI, 512, .inl w)), (qr, .inl (cyI, 8, .inl row))] sz) [(qd, .inr (1, [.ref qw, .int (bI false), .int lf, .int (nI dn)])), (qw, .inl (cyI, 512, .inl w)), (qr, .inl (cyI, 8, .inl row))]) (va_A [(qd, .inr (1, [.ref qw, .int (bI true), .int lf, .int (nI dn)])), (qw, .inl (cyI, 512, .inl w)), (qr, .inl (cyI, 8, .inl row))] sz)) 0 0 (va_A [(qd, .inr (1, [.ref qw, .int (bI true), .int lf, .int (nI dn)])), (qw, .inl (cyI, 512, .inl w)), (qr, .inl (cyI, 8, .inl row))] sz) := by
  refine Met.ofW (cc := cX2_write) (maxL := 4) (ret := (some .boolean)) (by decide) rfl ?_
  intro pz ez sS mM args below meth cC s₁ B hml hv
  obtain ⟨rfl, hsz, hP, hK, hD0⟩ := hv
  have hx := B.exec
  have hb := B.bytes
  have hr := B.returns
  have hts := atoms_spec (ws := wsX2_write) B.pre
  have hown : sS.vm.findClass RX2 = some mM.cls := findClass_of_methodNamed B.named
  have hlocks := B.notSynchronized
  subst hsz
  have hD := hD0.self (sz := sS.heap.size)
  generalize hAe : va_A [(qd, .inr (1, [.ref qw, .int (bI true), .int lf, .int (nI dn)])), (qw, .inl (cyI, 512, .inl w)), (qr, .inl (cyI, 8, .inl row))] sS.heap.size = A at hD ⊢
  have hA : ∀ q : Nat, sS.heap.size ≤ q → A q := fun q h => by rw [← hAe]; exact Or.inr h
  have hS : va_S A sS.heap sS.heap [] := va_S.rf
  have hP : va_P (dC, dI) vwCl [(qd, .inr (1, [.ref qw, .int (bI true), .int lf, .int (nI dn)])), (qw, .inl (cyI, 512, .inl w)), (qr, .inl (cyI, 8, .inl row))] sS.heap := hP
  have iwX2 : ∀ w ∈ wsX20, w ∈ wsX2_write := by decide +kernel
  have fk15 := hts (.fieldLink RX2 15 "CodedStore$Disk" "on" "Z") (by decide +kernel)
  have fk19 := hts (.fieldLink RX2 19 "CodedStore$Disk" "left" "I") (by decide +kernel)
  have hl := lv_entry ([.ref qd, .int (nI b), .ref qr]) (n := 4) (Nat.le_of_ble_eq_true rfl)
  rw [lg_entry_eq]
  generalize (lg_sl ([.ref qd, .int (nI b), .ref qr]) ++ List.replicate (4 - (lg_sl ([.ref qd, .int (nI b), .ref qr])).length) Slot.unset).toArray = ls at hl ⊢
  have hl : lv_has ls 4 [(0, .ref qd), (1, .int (nI b)), (2, .ref qr)] := hl
  refine lv_aload_n hx hb dX2_write_0 rfl (lv_at hl 0 rfl) ?_
  refine va_get (D := (dC, dI)) (ci := 1) (v := .int (bI true)) (C := RX2) (T := TX2) (N := 4) hx hb hts iwX2 hown hK hP 0 rfl rfl 1 (by decide) fk15 (fun _ h9 => h9) rfl dX2_write_1 ?_
  refine zb_if_eq (tgt := 28) hx hb dX2_write_4 (by decide) (fun c_4 => ?_) (fun c_4 => ?_)
  ·
    exfalso
    exact absurd c_4 (by decide)
  ·
    refine lv_iload_n hx hb dX2_write_7 rfl (lv_at hl 1 rfl) ?_
    refine zn_if_lt (tgt := 28) hx hb dX2_write_8 (by decide) (by omega) ?_
    refine lv_iload_n hx hb dX2_write_11 rfl (lv_at hl 1 rfl) ?_
    refine lv_bipush (v := nI 64) hx hb dX2_write_12 (by decide) ?_
    refine zn_icmp_ge (tgt := 28) hx hb dX2_write_14 (by decide) (by omega) (by omega) (fun c_14 => ?_) (fun c_14 => ?_)
    ·
      exfalso
      omega
    ·
      refine lv_aload_n hx hb dX2_write_17 rfl (lv_at hl 2 rfl) ?_
      refine lv_ifnull hx hb dX2_write_18 ?_
      refine lv_aload_n hx hb dX2_write_21 rfl (lv_at hl 2 rfl) ?_
      refine va_alen (v := nI 8) hx hb hK hP 2 0 rfl rfl rfl dX2_write_22 ?_
      refine lv_bipush (v := nI 8) hx hb dX2_write_23 (by decide) ?_
      refine zn_icmp_ge (tgt := 30) hx hb dX2_write_25 (by decide) (by omega) (by omega) (fun c_25 => ?_) (fun c_25 => ?_)
      ·
        refine lv_aload_n hx hb dX2_write_30 rfl (lv_at hl 0 rfl) ?_
        refine va_get (D := (dC, dI)) (ci := 1) (v := .int lf) (C := RX2) (T := TX2) (N := 4) hx hb hts iwX2 hown hK hP 0 rfl rfl 2 (by decide) fk19 (fun _ h9 => h9) rfl dX2_write_31 ?_
        refine lv_if_ne (tgt := 44) hx hb dX2_write_34 (by decide) (fun c_34 => absurd hz c_34) (fun c_34 => ?_)
        refine lv_aload_n hx hb dX2_write_37 rfl (lv_at hl 0 rfl) ?_
        refine lv_iconst (v := nI 0) hx hb dX2_write_38 (by decide) ?_
        refine va_put (D := (dC, dI)) (ci := 1) (v := .int (nI 0)) (ty := .boolean) (C := RX2) (T := TX2) (N := 4) hx hb hts iwX2 tyX2 tyX2_ok nmX2 hown hK hP hD hS 0 rfl rfl 1 (by decide) fk15 (fun _ h9 => h9) rfl (by decide +kernel) rfl rfl (Nat.le_of_ble_eq_true rfl) dX2_write_39 (fun H locs hP hD hS => ?_)
        have hP : va_P (dC, dI) vwCl [(qd, .inr (1, [.ref qw, .int (nI 0), .int lf, .int (nI dn)])), (qw, .inl (cyI, 512, .inl w)), (qr, .inl (cyI, 8, .inl row))] H := hP
        have hD : va_D A [(qd, .inr (1, [.ref qw, .int (nI 0), .int lf, .int (nI dn)])), (qw, .inl (cyI, 512, .inl w)), (qr, .inl (cyI, 8, .inl row))] := hD
        refine lv_iconst (v := nI 0) hx hb dX2_write_42 (by decide) ?_
        -- qd : .inr (1, [.ref qw, .int (nI 0), .int lf, .int (nI dn)])  ~  .inr (1, [.ref qw, .int (bI false), .int lf, .int (nI dn)])
        have hP9 := hP.sub (ws' := [(qd, .inr (1, [.ref qw, .int (bI false), .int lf, .int (nI dn)])), (qw, .inl (cyI, 512, .inl w)), (qr, .inl (cyI, 8, .inl row))]) [0, 1, 2] rfl
        have hD9 := hD.sub (ws' := [(qd, .inr (1, [.ref qw, .int (bI false), .int lf, .int (nI dn)])), (qw, .inl (cyI, 512, .inl w)), (qr, .inl (cyI, 8, .inl row))]) [0, 1, 2] (by decide) rfl
        have hK9 := hK.sub (tys' := [(cyI, .int), (cyZ, .boolean)]) [0, 1] rfl
        have hret : nI 0 = bI false := rfl
        refine zz_top hret ?_
        exact W.zret hx hb hr (zz_narZ (by first | exact zz_zb _ | exact zz_z0 | exact zz_z1)) (fun tS ht hW => ⟨⟨_, (), rfl, rfl, by rw [ht]; exact hP9, va_K.moved hW.alike hK9, hD9⟩, hS.F ht⟩) hS.2.2 dX2_write_43
      ·
        exfalso
        omega
set_option maxHeartbeats 4000000 in
set_option maxRecDepth 100000 in
theorem c_X2_write_on (l : Launch) (dC : Nat → ClassId) (dI : Nat → Nat → Nat) (cyI cyZ : ClassId) (qd qw qr : Nat) (sz : Nat) (w : Nat → Int32) (lf : Int32) (dn : Nat) (row : Nat → Int32) (b : Nat) (hb9 : b < 64) (hz : ¬ lf = nI 0) : Met l yX2_write wsX2_write ({ frames := 0, cells := 0, slots := 0, locals := 0 }) (va_Pc [.ref qd, .int (nI b), .ref qr] (fun U => U.heap.size = sz ∧ va_P (dC, dI) vwCl [(qd, .inr (1, [.ref qw, .int (bI true), .int lf, .int (nI dn)])), (qw, .inl (cyI, 512, .inl w)), (qr, .inl (cyI, 8, .inl row))] U.heap ∧ va_K (dC, dI) vwCl [(cyI, .int), (cyZ, .boolean)] U ∧ va_D (fun _ => True) [(qd, .inr (1, [.ref qw, .int (bI true), .int lf, .int (nI dn)])), (qw, .inl (cyI, 512, .inl w)), (qr, .inl (cyI, 8, .inl row))])) (va_Qi (S := Unit) (fun (r : Int32) (_ : Unit) => r = bI true) (fun (_ : Unit) tS => va_P (dC, dI) vwCl [(qd, .inr (1, [.ref qw, .int (bI true), .int (kDec lf), .int (nI (dn + 1))])), (qw, .inl (cyI, 512, .inl (fb_put w row (8 * b) 8))), (qr, .inl (cyI, 8, .inl row))] tS.heap ∧ va_K (dC, dI) vwCl [(cyI, .int), (cyZ, .boolean)] tS ∧ va_D (va_A [(qd, .inr (1, [.ref qw, .int (bI true), .int lf, .int (nI dn)])), (qw, .inl (cyI, 512, .inl w)), (qr, .inl (cyI, 8, .inl row))] sz) [(qd, .inr (1, [.ref qw, .int (bI true), .int (kDec lf), .int (nI (dn + 1))])), (qw, .inl (cyI, 512, .inl (fb_put w row (8 * b) 8))), (qr, .inl (cyI, 8, .inl row))]) (va_A [(qd, .inr (1, [.ref qw, .int (bI true), .int lf, .int (nI dn)])), (qw, .inl (cyI, 512, .inl w)), (qr, .inl (cyI, 8, .inl row))] sz)) 0 0 (va_A [(qd, .inr (1, [.ref qw, .int (bI true), .int lf, .int (nI dn)])), (qw, .inl (cyI, 512, .inl w)), (qr, .inl (cyI, 8, .inl row))] sz) := by
  refine Met.ofW (cc := cX2_write) (maxL := 4) (ret := (some .boolean)) (by decide) rfl ?_
  intro pz ez sS mM args below meth cC s₁ B hml hv
  obtain ⟨rfl, hsz, hP, hK, hD0⟩ := hv
  have hx := B.exec
  have hb := B.bytes
  have hr := B.returns
  have hts := atoms_spec (ws := wsX2_write) B.pre
  have hown : sS.vm.findClass RX2 = some mM.cls := findClass_of_methodNamed B.named
  have hlocks := B.notSynchronized
  subst hsz
  have hD := hD0.self (sz := sS.heap.size)
  generalize hAe : va_A [(qd, .inr (1, [.ref qw, .int (bI true), .int lf, .int (nI dn)])), (qw, .inl (cyI, 512, .inl w)), (qr, .inl (cyI, 8, .inl row))] sS.heap.size = A at hD ⊢
  have hA : ∀ q : Nat, sS.heap.size ≤ q → A q := fun q h => by rw [← hAe]; exact Or.inr h
  have hS : va_S A sS.heap sS.heap [] := va_S.rf
  have hP : va_P (dC, dI) vwCl [(qd, .inr (1, [.ref qw, .int (bI true), .int lf, .int (nI dn)])), (qw, .inl (cyI, 512, .inl w)), (qr, .inl (cyI, 8, .inl row))] sS.heap := hP
  have iwX2 : ∀ w ∈ wsX20, w ∈ wsX2_write := by decide +kernel
  have fk9 := hts (.fieldLink RX2 9 "CodedStore$Disk" "words" "[I") (by decide +kernel)
  have fk15 := hts (.fieldLink RX2 15 "CodedStore$Disk" "on" "Z") (by decide +kernel)
  have fk19 := hts (.fieldLink RX2 19 "CodedStore$Disk" "left" "I") (by decide +kernel)
  have fk23 := hts (.fieldLink RX2 23 "CodedStore$Disk" "done" "I") (by decide +kernel)
  have hl := lv_entry ([.ref qd, .int (nI b), .ref qr]) (n := 4) (Nat.le_of_ble_eq_true rfl)
  rw [lg_entry_eq]
  generalize (lg_sl ([.ref qd, .int (nI b), .ref qr]) ++ List.replicate (4 - (lg_sl ([.ref qd, .int (nI b), .ref qr])).length) Slot.unset).toArray = ls at hl ⊢
  have hl : lv_has ls 4 [(0, .ref qd), (1, .int (nI b)), (2, .ref qr)] := hl
  refine lv_aload_n hx hb dX2_write_0 rfl (lv_at hl 0 rfl) ?_
  refine va_get (D := (dC, dI)) (ci := 1) (v := .int (bI true)) (C := RX2) (T := TX2) (N := 4) hx hb hts iwX2 hown hK hP 0 rfl rfl 1 (by decide) fk15 (fun _ h9 => h9) rfl dX2_write_1 ?_
  refine zb_if_eq (tgt := 28) hx hb dX2_write_4 (by decide) (fun c_4 => ?_) (fun c_4 => ?_)
  ·
    exfalso
    exact absurd c_4 (by decide)
  ·
    refine lv_iload_n hx hb dX2_write_7 rfl (lv_at hl 1 rfl) ?_
    refine zn_if_lt (tgt := 28) hx hb dX2_write_8 (by decide) (by omega) ?_
    refine lv_iload_n hx hb dX2_write_11 rfl (lv_at hl 1 rfl) ?_
    refine lv_bipush (v := nI 64) hx hb dX2_write_12 (by decide) ?_
    refine zn_icmp_ge (tgt := 28) hx hb dX2_write_14 (by decide) (by omega) (by omega) (fun c_14 => ?_) (fun c_14 => ?_)
    ·
      exfalso
      omega
    ·
      refine lv_aload_n hx hb dX2_write_17 rfl (lv_at hl 2 rfl) ?_
      refine lv_ifnull hx hb dX2_write_18 ?_
      refine lv_aload_n hx hb dX2_write_21 rfl (lv_at hl 2 rfl) ?_
      refine va_alen (v := nI 8) hx hb hK hP 2 0 rfl rfl rfl dX2_write_22 ?_
      refine lv_bipush (v := nI 8) hx hb dX2_write_23 (by decide) ?_
      refine zn_icmp_ge (tgt := 30) hx hb dX2_write_25 (by decide) (by omega) (by omega) (fun c_25 => ?_) (fun c_25 => ?_)
      ·
        refine lv_aload_n hx hb dX2_write_30 rfl (lv_at hl 0 rfl) ?_
        refine va_get (D := (dC, dI)) (ci := 1) (v := .int lf) (C := RX2) (T := TX2) (N := 4) hx hb hts iwX2 hown hK hP 0 rfl rfl 2 (by decide) fk19 (fun _ h9 => h9) rfl dX2_write_31 ?_
        refine lv_if_ne (tgt := 44) hx hb dX2_write_34 (by decide) (fun c_34 => ?_) (fun c_34 => absurd c_34 hz)
        refine lv_iconst (v := nI 0) hx hb dX2_write_44 (by decide) ?_
        refine lv_istore_n (lv' := [(3, .int (nI 0)), (0, .ref qd), (1, .int (nI b)), (2, .ref qr)]) hx hb dX2_write_45 rfl hl (by decide) rfl (fun ls hl => ?_)
        refine zz_loopW (pc := 46) (μ := fun (x : Nat × (Nat → Int32)) => match x with | (i, w1) => 8 - i) (Inv := fun (x : Nat × (Nat → Int32)) (H : Heap) (locs : List Loc) (ls : Array Slot) => match x with | (i, w1) => (i ≤ 8) ∧ (w1 = fb_put w row (8 * b) i) ∧ va_P (dC, dI) vwCl [(qd, .inr (1, [.ref qw, .int (bI true), .int lf, .int (nI dn)])), (qw, .inl (cyI, 512, .inl w1)), (qr, .inl (cyI, 8, .inl row))] H ∧ va_D A [(qd, .inr (1, [.ref qw, .int (bI true), .int lf, .int (nI dn)])), (qw, .inl (cyI, 512, .inl w1)), (qr, .inl (cyI, 8, .inl row))] ∧ va_S A sS.heap H locs ∧ lv_has ls 4 [(0, .ref qd), (1, .int (nI b)), (2, .ref qr), (3, .int (nI i))]) (x0 := (0, w)) ⟨by omega, (fb_put_0 w row (8 * b)).symm, hP, hD, hS, lv_sub hl [1, 2, 3, 0] rfl⟩ ?_
        intro ⟨i, w1⟩ H locs ls hI ih46
        obtain ⟨hi, hw1, hP, hD, hS, hl⟩ := hI
        have hl : lv_has ls 4 [(0, .ref qd), (1, .int (nI b)), (2, .ref qr), (3, .int (nI i))] := hl
        have hP : va_P (dC, dI) vwCl [(qd, .inr (1, [.ref qw, .int (bI true), .int lf, .int (nI dn)])), (qw, .inl (cyI, 512, .inl w1)), (qr, .inl (cyI, 8, .inl row))] H := hP
        have hD : va_D A [(qd, .inr (1, [.ref qw, .int (bI true), .int lf, .int (nI dn)])), (qw, .inl (cyI, 512, .inl w1)), (qr, .inl (cyI, 8, .inl row))] := hD
        have hi : i ≤ 8 := hi
        have hw1 : w1 = fb_put w row (8 * b) i := hw1
        refine lv_iload_n hx hb dX2_write_46 rfl (lv_at hl 3 rfl) ?_
        refine lv_bipush (v := nI 8) hx hb dX2_write_47 (by decide) ?_
        refine zn_icmp_ge (tgt := 72) hx hb dX2_write_49 (by decide) (by omega) (by omega) (fun c_49 => ?_) (fun c_49 => ?_)
        ·
          refine lv_aload_n hx hb dX2_write_72 rfl (lv_at hl 0 rfl) ?_
          refine va_get (D := (dC, dI)) (ci := 1) (v := .int lf) (C := RX2) (T := TX2) (N := 4) hx hb hts iwX2 hown hK hP 0 rfl rfl 2 (by decide) fk19 (fun _ h9 => h9) rfl dX2_write_73 ?_
          refine lv_if_le (tgt := 89) hx hb dX2_write_76 (by decide) (fun c_76 => ?_) (fun c_76 => ?_)
          ·
            refine lv_aload_n hx hb dX2_write_89 rfl (lv_at hl 0 rfl) ?_
            refine lv_dup hx hb dX2_write_90 rfl ?_
            refine va_get (D := (dC, dI)) (ci := 1) (v := .int (nI dn)) (C := RX2) (T := TX2) (N := 4) hx hb hts iwX2 hown hK hP 0 rfl rfl 3 (by decide) fk23 (fun _ h9 => h9) rfl dX2_write_91 ?_
            refine lv_iconst (v := nI 1) hx hb dX2_write_94 (by decide) ?_
            refine lv_iadd hx hb dX2_write_95 ?_
            refine zz_top (nI_add dn 1) ?_
            refine va_put (D := (dC, dI)) (ci := 1) (v := .int (nI (dn + 1))) (ty := .int) (C := RX2) (T := TX2) (N := 4) hx hb hts iwX2 tyX2 tyX2_ok nmX2 hown hK hP hD hS 0 rfl rfl 3 (by decide) fk23 (fun _ h9 => h9) rfl (by decide +kernel) rfl rfl (Nat.le_of_ble_eq_true rfl) dX2_write_96 (fun H locs hP hD hS => ?_)
            have hP : va_P (dC, dI) vwCl [(qd, .inr (1, [.ref qw, .int (bI true), .int lf, .int (nI (dn + 1))])), (qw, .inl (cyI, 512, .inl w1)), (qr, .inl (cyI, 8, .inl row))] H := hP
            have hD : va_D A [(qd, .inr (1, [.ref qw, .int (bI true), .int lf, .int (nI (dn + 1))])), (qw, .inl (cyI, 512, .inl w1)), (qr, .inl (cyI, 8, .inl row))] := hD
            refine lv_iconst (v := nI 1) hx hb dX2_write_99 (by decide) ?_
            have e8 : i = 8 := by omega
            subst e8
            subst hw1
            rw [kDec_n (Int32.not_lt.mpr c_76)] at hP hD
            -- qd : .inr (1, [.ref qw, .int (bI true), .int lf, .int (nI (dn + 1))])  ~  .inr (1, [.ref qw, .int (bI true), .int (kDec lf), .int (nI (dn + 1))])
            -- qw : .inl (cyI, 512, .inl w1)  ~  .inl (cyI, 512, .inl (fb_put w row (8 * b) 8))
            have hP9 := hP.sub (ws' := [(qd, .inr (1, [.ref qw, .int (bI true), .int (kDec lf), .int (nI (dn + 1))])), (qw, .inl (cyI, 512, .inl (fb_put w row (8 * b) 8))), (qr, .inl (cyI, 8, .inl row))]) [0, 1, 2] rfl
            have hD9 := hD.sub (ws' := [(qd, .inr (1, [.ref qw, .int (bI true), .int (kDec lf), .int (nI (dn + 1))])), (qw, .inl (cyI, 512, .inl (fb_put w row (8 * b) 8))), (qr, .inl (cyI, 8, .inl row))]) [0, 1, 2] (by decide) rfl
            have hK9 := hK.sub (tys' := [(cyI, .int), (cyZ, .boolean)]) [0, 1] rfl
            have hret : nI 1 = bI true := rfl
            refine zz_top hret ?_
            exact W.zret hx hb hr (zz_narZ (by first | exact zz_zb _ | exact zz_z0 | exact zz_z1)) (fun tS ht hW => ⟨⟨_, (), rfl, rfl, by rw [ht]; exact hP9, va_K.moved hW.alike hK9, hD9⟩, hS.F ht⟩) hS.2.2 dX2_write_100
          ·
            refine lv_aload_n hx hb dX2_write_79 rfl (lv_at hl 0 rfl) ?_
            refine lv_dup hx hb dX2_write_80 rfl ?_
            refine va_get (D := (dC, dI)) (ci := 1) (v := .int lf) (C := RX2) (T := TX2) (N := 4) hx hb hts iwX2 hown hK hP 0 rfl rfl 2 (by decide) fk19 (fun _ h9 => h9) rfl dX2_write_81 ?_
            refine lv_iconst (v := nI 1) hx hb dX2_write_84 (by decide) ?_
            refine lv_isub hx hb dX2_write_85 ?_
            refine va_put (D := (dC, dI)) (ci := 1) (v := .int (lf - (nI 1))) (ty := .int) (C := RX2) (T := TX2) (N := 4) hx hb hts iwX2 tyX2 tyX2_ok nmX2 hown hK hP hD hS 0 rfl rfl 2 (by decide) fk19 (fun _ h9 => h9) rfl (by decide +kernel) rfl rfl (Nat.le_of_ble_eq_true rfl) dX2_write_86 (fun H locs hP hD hS => ?_)
            have hP : va_P (dC, dI) vwCl [(qd, .inr (1, [.ref qw, .int (bI true), .int (lf - (nI 1)), .int (nI dn)])), (qw, .inl (cyI, 512, .inl w1)), (qr, .inl (cyI, 8, .inl row))] H := hP
            have hD : va_D A [(qd, .inr (1, [.ref qw, .int (bI true), .int (lf - (nI 1)), .int (nI dn)])), (qw, .inl (cyI, 512, .inl w1)), (qr, .inl (cyI, 8, .inl row))] := hD
            refine lv_aload_n hx hb dX2_write_89 rfl (lv_at hl 0 rfl) ?_
            refine lv_dup hx hb dX2_write_90 rfl ?_
            refine va_get (D := (dC, dI)) (ci := 1) (v := .int (nI dn)) (C := RX2) (T := TX2) (N := 4) hx hb hts iwX2 hown hK hP 0 rfl rfl 3 (by decide) fk23 (fun _ h9 => h9) rfl dX2_write_91 ?_
            refine lv_iconst (v := nI 1) hx hb dX2_write_94 (by decide) ?_
            refine lv_iadd hx hb dX2_write_95 ?_
            refine zz_top (nI_add dn 1) ?_
            refine va_put (D := (dC, dI)) (ci := 1) (v := .int (nI (dn + 1))) (ty := .int) (C := RX2) (T := TX2) (N := 4) hx hb hts iwX2 tyX2 tyX2_ok nmX2 hown hK hP hD hS 0 rfl rfl 3 (by decide) fk23 (fun _ h9 => h9) rfl (by decide +kernel) rfl rfl (Nat.le_of_ble_eq_true rfl) dX2_write_96 (fun H locs hP hD hS => ?_)
            have hP : va_P (dC, dI) vwCl [(qd, .inr (1, [.ref qw, .int (bI true), .int (lf - (nI 1)), .int (nI (dn + 1))])), (qw, .inl (cyI, 512, .inl w1)), (qr, .inl (cyI, 8, .inl row))] H := hP
            have hD : va_D A [(qd, .inr (1, [.ref qw, .int (bI true), .int (lf - (nI 1)), .int (nI (dn + 1))])), (qw, .inl (cyI, 512, .inl w1)), (qr, .inl (cyI, 8, .inl row))] := hD
            refine lv_iconst (v := nI 1) hx hb dX2_write_99 (by decide) ?_
            have e8 : i = 8 := by omega
            subst e8
            subst hw1
            rw [kDec_p (Int32.not_le.mp c_76)] at hP hD
            -- qd : .inr (1, [.ref qw, .int (bI true), .int (lf - (nI 1)), .int (nI (dn + 1))])  ~  .inr (1, [.ref qw, .int (bI true), .int (kDec lf), .int (nI (dn + 1))])
            -- qw : .inl (cyI, 512, .inl w1)  ~  .inl (cyI, 512, .inl (fb_put w row (8 * b) 8))
            have hP9 := hP.sub (ws' := [(qd, .inr (1, [.ref qw, .int (bI true), .int (kDec lf), .int (nI (dn + 1))])), (qw, .inl (cyI, 512, .inl (fb_put w row (8 * b) 8))), (qr, .inl (cyI, 8, .inl row))]) [0, 1, 2] rfl
            have hD9 := hD.sub (ws' := [(qd, .inr (1, [.ref qw, .int (bI true), .int (kDec lf), .int (nI (dn + 1))])), (qw, .inl (cyI, 512, .inl (fb_put w row (8 * b) 8))), (qr, .inl (cyI, 8, .inl row))]) [0, 1, 2] (by decide) rfl
            have hK9 := hK.sub (tys' := [(cyI, .int), (cyZ, .boolean)]) [0, 1] rfl
            have hret : nI 1 = bI true := rfl
            refine zz_top hret ?_
            exact W.zret hx hb hr (zz_narZ (by first | exact zz_zb _ | exact zz_z0 | exact zz_z1)) (fun tS ht hW => ⟨⟨_, (), rfl, rfl, by rw [ht]; exact hP9, va_K.moved hW.alike hK9, hD9⟩, hS.F ht⟩) hS.2.2 dX2_write_100
        ·
          refine lv_aload_n hx hb dX2_write_52 rfl (lv_at hl 0 rfl) ?_
          refine va_get (D := (dC, dI)) (ci := 1) (v := .ref qw) (C := RX2) (T := TX2) (N := 4) hx hb hts iwX2 hown hK hP 0 rfl rfl 0 (by decide) fk9 (fun _ h9 => h9) rfl dX2_write_53 ?_
          refine lv_iload_n hx hb dX2_write_56 rfl (lv_at hl 1 rfl) ?_
          refine lv_bipush (v := nI 8) hx hb dX2_write_57 (by decide) ?_
          refine lv_imul hx hb dX2_write_59 ?_
          refine zz_top (pk_mul b 8) ?_
          refine lv_iload_n hx hb dX2_write_60 rfl (lv_at hl 3 rfl) ?_
          refine lv_iadd hx hb dX2_write_61 ?_
          refine zz_top (nI_add (b * 8) i) ?_
          refine lv_aload_n hx hb dX2_write_62 rfl (lv_at hl 2 rfl) ?_
          refine lv_iload_n hx hb dX2_write_63 rfl (lv_at hl 3 rfl) ?_
          refine va_iald hx hb hK hP 2 0 rfl rfl (vp_in_nI (n := i) (by omega) (by decide)) dX2_write_64 ?_
          refine zz_top (congrArg row (nI_clamp (n := i) (by omega))) ?_
          refine va_iast hx hb hK hP hD hS 1 0 rfl rfl (vp_in_nI (n := b * 8 + i) (by omega) (by decide)) dX2_write_65 (fun H locs hP hD hS => ?_)
          rw [nI_clamp (n := b * 8 + i) (by omega)] at hP hD
          have hP : va_P (dC, dI) vwCl [(qd, .inr (1, [.ref qw, .int (bI true), .int lf, .int (nI dn)])), (qw, .inl (cyI, 512, .inl (upd w1 (b * 8 + i) (row i)))), (qr, .inl (cyI, 8, .inl row))] H := hP
          have hD : va_D A [(qd, .inr (1, [.ref qw, .int (bI true), .int lf, .int (nI dn)])), (qw, .inl (cyI, 512, .inl (upd w1 (b * 8 + i) (row i)))), (qr, .inl (cyI, 8, .inl row))] := hD
          refine lv_iinc (v := nI (i + 1)) (lv' := [(3, .int (nI (i + 1))), (0, .ref qd), (1, .int (nI b)), (2, .ref qr)]) hx hb dX2_write_66 hl (k := 3) rfl (nI_add i 1) (by decide) rfl (fun ls hl => ?_)
          refine lv_goto (tgt := 46) hx hb dX2_write_69 (by decide) ?_
          exact ih46 (i + 1, upd w1 (b * 8 + i) (row i)) _ _ _ ⟨by omega, by rw [hw1, Nat.mul_comm b 8]; exact fb_put_succ w row (8 * b) i, hP, hD, hS, lv_sub hl [1, 2, 3, 0] rfl⟩ (by first | omega | (dsimp only; omega))
      ·
        exfalso
        omega
set_option maxHeartbeats 4000000 in
set_option maxRecDepth 100000 in
theorem c_X2_wordAt (l : Launch) (dC : Nat → ClassId) (dI : Nat → Nat → Nat) (cyI cyZ : ClassId) (qd qw : Nat) (w : Nat → Int32) (on : Bool) (lf : Int32) (dn : Nat) (b i : Nat) (hb9 : b < 64) (hi : i < 8) : Met l yX2_wordAt wsX2_wordAt ({ frames := 0, cells := 0, slots := 0, locals := 0 }) (va_Pc [.ref qd, .int (nI b), .int (nI i)] (fun U => va_P (dC, dI) vwCl [(qd, .inr (1, [.ref qw, .int (bI on), .int lf, .int (nI dn)])), (qw, .inl (cyI, 512, .inl w))] U.heap ∧ va_K (dC, dI) vwCl [(cyI, .int), (cyZ, .boolean)] U)) (vp_Si (fun r => r = w (8 * b + i))) 0 0 (fun _ => False) := by
  refine Met.ofW (cc := cX2_wordAt) (maxL := 3) (ret := (some .int)) (by decide) rfl ?_
  intro pz ez sS mM args below meth cC s₁ B hml hv
  obtain ⟨rfl, hP, hK⟩ := hv
  have hx := B.exec
  have hb := B.bytes
  have hr := B.returns
  have hts := atoms_spec (ws := wsX2_wordAt) B.pre
  have hown : sS.vm.findClass RX2 = some mM.cls := findClass_of_methodNamed B.named
  have hlocks := B.notSynchronized
  have iwX2 : ∀ w ∈ wsX20, w ∈ wsX2_wordAt := by decide +kernel
  have fk9 := hts (.fieldLink RX2 9 "CodedStore$Disk" "words" "[I") (by decide +kernel)
  have hl := lv_entry ([.ref qd, .int (nI b), .int (nI i)]) (n := 3) (Nat.le_of_ble_eq_true rfl)
  rw [lg_entry_eq]
  generalize (lg_sl ([.ref qd, .int (nI b), .int (nI i)]) ++ List.replicate (3 - (lg_sl ([.ref qd, .int (nI b), .int (nI i)])).length) Slot.unset).toArray = ls at hl ⊢
  have hl : lv_has ls 3 [(0, .ref qd), (1, .int (nI b)), (2, .int (nI i))] := hl
  refine lv_iload_n hx hb dX2_wordAt_0 rfl (lv_at hl 1 rfl) ?_
  refine zn_if_lt (tgt := 20) hx hb dX2_wordAt_1 (by decide) (by omega) ?_
  refine lv_iload_n hx hb dX2_wordAt_4 rfl (lv_at hl 1 rfl) ?_
  refine lv_bipush (v := nI 64) hx hb dX2_wordAt_5 (by decide) ?_
  refine zn_icmp_ge (tgt := 20) hx hb dX2_wordAt_7 (by decide) (by omega) (by omega) (fun c_7 => ?_) (fun c_7 => ?_)
  ·
    exfalso
    omega
  ·
    refine lv_iload_n hx hb dX2_wordAt_10 rfl (lv_at hl 2 rfl) ?_
    refine zn_if_lt (tgt := 20) hx hb dX2_wordAt_11 (by decide) (by omega) ?_
    refine lv_iload_n hx hb dX2_wordAt_14 rfl (lv_at hl 2 rfl) ?_
    refine lv_bipush (v := nI 8) hx hb dX2_wordAt_15 (by decide) ?_
    refine zn_icmp_lt (tgt := 22) hx hb dX2_wordAt_17 (by decide) (by omega) (by omega) (fun c_17 => ?_) (fun c_17 => ?_)
    ·
      refine lv_aload_n hx hb dX2_wordAt_22 rfl (lv_at hl 0 rfl) ?_
      refine va_get (D := (dC, dI)) (ci := 1) (v := .ref qw) (C := RX2) (T := TX2) (N := 4) hx hb hts iwX2 hown hK hP 0 rfl rfl 0 (by decide) fk9 (fun _ h9 => h9) rfl dX2_wordAt_23 ?_
      refine lv_iload_n hx hb dX2_wordAt_26 rfl (lv_at hl 1 rfl) ?_
      refine lv_bipush (v := nI 8) hx hb dX2_wordAt_27 (by decide) ?_
      refine lv_imul hx hb dX2_wordAt_29 ?_
      refine zz_top (pk_mul b 8) ?_
      refine lv_iload_n hx hb dX2_wordAt_30 rfl (lv_at hl 2 rfl) ?_
      refine lv_iadd hx hb dX2_wordAt_31 ?_
      refine zz_top (nI_add (b * 8) i) ?_
      refine va_iald hx hb hK hP 1 0 rfl rfl (vp_in_nI (n := b * 8 + i) (by omega) (by decide)) dX2_wordAt_32 ?_
      refine zz_top (congrArg w (nI_clamp (n := b * 8 + i) (by omega))) ?_
      have hret : w (b * 8 + i) = w (8 * b + i) := by rw [Nat.mul_comm b 8]
      refine zz_top hret ?_
      exact W.iret hx hb hr (fun tS ht hW => ⟨_, rfl, rfl, ht⟩) (fun _ h => nomatch h) dX2_wordAt_33
    ·
      exfalso
      omega
set_option maxHeartbeats 4000000 in
set_option maxRecDepth 100000 in
theorem c_X2_numberOf (l : Launch) (dC : Nat → ClassId) (dI : Nat → Nat → Nat) (cyI cyZ : ClassId) (qd qw : Nat) (w : Nat → Int32) (on : Bool) (lf : Int32) (dn : Nat) (b : Nat) (hb9 : b < 64) : Met l yX2_numberOf wsX2_numberOf ({ frames := 1, cells := 0, slots := 0, locals := 22 }) (va_Pc [.ref qd, .int (nI b)] (fun U => va_P (dC, dI) vwCl [(qd, .inr (1, [.ref qw, .int (bI on), .int lf, .int (nI dn)])), (qw, .inl (cyI, 512, .inl w))] U.heap ∧ va_K (dC, dI) vwCl [(cyI, .int), (cyZ, .boolean)] U)) (vp_Si (fun r => r = kNum w b)) 0 0 (fun _ => False) := by
  refine Met.ofW (cc := cX2_numberOf) (maxL := 2) (ret := (some .int)) (by decide) rfl ?_
  intro pz ez sS mM args below meth cC s₁ B hml hv
  obtain ⟨rfl, hP, hK⟩ := hv
  have hx := B.exec
  have hb := B.bytes
  have hr := B.returns
  have hts := atoms_spec (ws := wsX2_numberOf) B.pre
  have hown : sS.vm.findClass RX2 = some mM.cls := findClass_of_methodNamed B.named
  have hlocks := B.notSynchronized
  have hl := lv_entry ([.ref qd, .int (nI b)]) (n := 2) (Nat.le_of_ble_eq_true rfl)
  rw [lg_entry_eq]
  generalize (lg_sl ([.ref qd, .int (nI b)]) ++ List.replicate (2 - (lg_sl ([.ref qd, .int (nI b)])).length) Slot.unset).toArray = ls at hl ⊢
  have hl : lv_has ls 2 [(0, .ref qd), (1, .int (nI b))] := hl
  refine lv_aload_n hx hb dX2_numberOf_0 rfl (lv_at hl 0 rfl) ?_
  refine lv_iload_n hx hb dX2_numberOf_1 rfl (lv_at hl 1 rfl) ?_
  refine lv_iconst (v := nI 0) hx hb dX2_numberOf_2 (by decide) ?_
  have hPc := hP.sub (ws' := [(qd, .inr (1, [.ref qw, .int (bI on), .int lf, .int (nI dn)])), (qw, .inl (cyI, 512, .inl w))]) [0, 1] rfl
  have hKc := hK.sub (tys' := [(cyI, .int), (cyZ, .boolean)]) [0, 1] rfl
  refine vp_callSi (va_Run.run (va_runV (As := [.int (nI b), .int (nI 0)]) (rest := []) ⟨hx, hb, hml, hown, hts⟩ (c_X2_wordAt l dC dI cyI cyZ qd qw w on lf dn b 0 (by omega) (by omega)) (cwV 2 hts gX2_numberOf_X2_wordAt rfl rfl rfl (by decide +kernel) ⟨Nat.le_of_ble_eq_true rfl, Nat.le_of_ble_eq_true rfl⟩) ⟨zz_blR, va_recv hKc hPc (ci := 1) (q0 := 0) rfl rfl, fun U hU hW => ⟨rfl, by rw [hU]; exact hPc, va_K.moved hW.alike hKc⟩⟩ rfl rfl hl.1 rfl (lv_room (Nat.le_of_ble_eq_true rfl)) dX2_numberOf_3 ⟨Nat.zero_le _, Nat.zero_le _⟩)) (fun r_3 hr_3 => ?_)
  have hr_3 : w (8 * b + 0) = r_3 := Eq.symm hr_3
  subst hr_3
  have hret : w (8 * b + 0) = kNum w b := rfl
  refine zz_top hret ?_
  exact W.iret hx hb hr (fun tS ht hW => ⟨_, rfl, rfl, ht⟩) (fun _ h => nomatch h) dX2_numberOf_6
set_option maxHeartbeats 4000000 in
set_option maxRecDepth 100000 in
theorem c_X2_partOf (l : Launch) (dC : Nat → ClassId) (dI : Nat → Nat → Nat) (cyI cyZ : ClassId) (qd qw : Nat) (w : Nat → Int32) (on : Bool) (lf : Int32) (dn : Nat) (b : Nat) (hb9 : b < 64) : Met l yX2_partOf wsX2_partOf ({ frames := 1, cells := 0, slots := 0, locals := 22 }) (va_Pc [.ref qd, .int (nI b)] (fun U => va_P (dC, dI) vwCl [(qd, .inr (1, [.ref qw, .int (bI on), .int lf, .int (nI dn)])), (qw, .inl (cyI, 512, .inl w))] U.heap ∧ va_K (dC, dI) vwCl [(cyI, .int), (cyZ, .boolean)] U)) (vp_Si (fun r => r = kPart w b)) 0 0 (fun _ => False) := by
  refine Met.ofW (cc := cX2_partOf) (maxL := 2) (ret := (some .int)) (by decide) rfl ?_
  intro pz ez sS mM args below meth cC s₁ B hml hv
  obtain ⟨rfl, hP, hK⟩ := hv
  have hx := B.exec
  have hb := B.bytes
  have hr := B.returns
  have hts := atoms_spec (ws := wsX2_partOf) B.pre
  have hown : sS.vm.findClass RX2 = some mM.cls := findClass_of_methodNamed B.named
  have hlocks := B.notSynchronized
  have hl := lv_entry ([.ref qd, .int (nI b)]) (n := 2) (Nat.le_of_ble_eq_true rfl)
  rw [lg_entry_eq]
  generalize (lg_sl ([.ref qd, .int (nI b)]) ++ List.replicate (2 - (lg_sl ([.ref qd, .int (nI b)])).length) Slot.unset).toArray = ls at hl ⊢
  have hl : lv_has ls 2 [(0, .ref qd), (1, .int (nI b))] := hl
  refine lv_aload_n hx hb dX2_partOf_0 rfl (lv_at hl 0 rfl) ?_
  refine lv_iload_n hx hb dX2_partOf_1 rfl (lv_at hl 1 rfl) ?_
  refine lv_iconst (v := nI 1) hx hb dX2_partOf_2 (by decide) ?_
  have hPc := hP.sub (ws' := [(qd, .inr (1, [.ref qw, .int (bI on), .int lf, .int (nI dn)])), (qw, .inl (cyI, 512, .inl w))]) [0, 1] rfl
  have hKc := hK.sub (tys' := [(cyI, .int), (cyZ, .boolean)]) [0, 1] rfl
  refine vp_callSi (va_Run.run (va_runV (As := [.int (nI b), .int (nI 1)]) (rest := []) ⟨hx, hb, hml, hown, hts⟩ (c_X2_wordAt l dC dI cyI cyZ qd qw w on lf dn b 1 (by omega) (by omega)) (cwV 2 hts gX2_partOf_X2_wordAt rfl rfl rfl (by decide +kernel) ⟨Nat.le_of_ble_eq_true rfl, Nat.le_of_ble_eq_true rfl⟩) ⟨zz_blR, va_recv hKc hPc (ci := 1) (q0 := 0) rfl rfl, fun U hU hW => ⟨rfl, by rw [hU]; exact hPc, va_K.moved hW.alike hKc⟩⟩ rfl rfl hl.1 rfl (lv_room (Nat.le_of_ble_eq_true rfl)) dX2_partOf_3 ⟨Nat.zero_le _, Nat.zero_le _⟩)) (fun r_3 hr_3 => ?_)
  have hr_3 : w (8 * b + 1) = r_3 := Eq.symm hr_3
  subst hr_3
  refine lv_sipush (v := nI 255) hx hb dX2_partOf_6 (by decide) ?_
  refine lv_iand hx hb dX2_partOf_9 ?_
  have hret : (w (8 * b + 1)) &&& (nI 255) = kPart w b := rfl
  refine zz_top hret ?_
  exact W.iret hx hb hr (fun tS ht hW => ⟨_, rfl, rfl, ht⟩) (fun _ h => nomatch h) dX2_partOf_10
set_option maxHeartbeats 4000000 in
set_option maxRecDepth 100000 in
theorem c_X2_partsOf (l : Launch) (dC : Nat → ClassId) (dI : Nat → Nat → Nat) (cyI cyZ : ClassId) (qd qw : Nat) (w : Nat → Int32) (on : Bool) (lf : Int32) (dn : Nat) (b : Nat) (hb9 : b < 64) : Met l yX2_partsOf wsX2_partsOf ({ frames := 1, cells := 0, slots := 0, locals := 22 }) (va_Pc [.ref qd, .int (nI b)] (fun U => va_P (dC, dI) vwCl [(qd, .inr (1, [.ref qw, .int (bI on), .int lf, .int (nI dn)])), (qw, .inl (cyI, 512, .inl w))] U.heap ∧ va_K (dC, dI) vwCl [(cyI, .int), (cyZ, .boolean)] U)) (vp_Si (fun r => r = kParts w b)) 0 0 (fun _ => False) := by
  refine Met.ofW (cc := cX2_partsOf) (maxL := 2) (ret := (some .int)) (by decide) rfl ?_
  intro pz ez sS mM args below meth cC s₁ B hml hv
  obtain ⟨rfl, hP, hK⟩ := hv
  have hx := B.exec
  have hb := B.bytes
  have hr := B.returns
  have hts := atoms_spec (ws := wsX2_partsOf) B.pre
  have hown : sS.vm.findClass RX2 = some mM.cls := findClass_of_methodNamed B.named
  have hlocks := B.notSynchronized
  have hl := lv_entry ([.ref qd, .int (nI b)]) (n := 2) (Nat.le_of_ble_eq_true rfl)
  rw [lg_entry_eq]
  generalize (lg_sl ([.ref qd, .int (nI b)]) ++ List.replicate (2 - (lg_sl ([.ref qd, .int (nI b)])).length) Slot.unset).toArray = ls at hl ⊢
  have hl : lv_has ls 2 [(0, .ref qd), (1, .int (nI b))] := hl
  refine lv_aload_n hx hb dX2_partsOf_0 rfl (lv_at hl 0 rfl) ?_
  refine lv_iload_n hx hb dX2_partsOf_1 rfl (lv_at hl 1 rfl) ?_
  refine lv_iconst (v := nI 1) hx hb dX2_partsOf_2 (by decide) ?_
  have hPc := hP.sub (ws' := [(qd, .inr (1, [.ref qw, .int (bI on), .int lf, .int (nI dn)])), (qw, .inl (cyI, 512, .inl w))]) [0, 1] rfl
  have hKc := hK.sub (tys' := [(cyI, .int), (cyZ, .boolean)]) [0, 1] rfl
  refine vp_callSi (va_Run.run (va_runV (As := [.int (nI b), .int (nI 1)]) (rest := []) ⟨hx, hb, hml, hown, hts⟩ (c_X2_wordAt l dC dI cyI cyZ qd qw w on lf dn b 1 (by omega) (by omega)) (cwV 2 hts gX2_partsOf_X2_wordAt rfl rfl rfl (by decide +kernel) ⟨Nat.le_of_ble_eq_true rfl, Nat.le_of_ble_eq_true rfl⟩) ⟨zz_blR, va_recv hKc hPc (ci := 1) (q0 := 0) rfl rfl, fun U hU hW => ⟨rfl, by rw [hU]; exact hPc, va_K.moved hW.alike hKc⟩⟩ rfl rfl hl.1 rfl (lv_room (Nat.le_of_ble_eq_true rfl)) dX2_partsOf_3 ⟨Nat.zero_le _, Nat.zero_le _⟩)) (fun r_3 hr_3 => ?_)
  have hr_3 : w (8 * b + 1) = r_3 := Eq.symm hr_3
  subst hr_3
  refine lv_bipush (v := nI 8) hx hb dX2_partsOf_6 (by decide) ?_
  refine lv_ishr hx hb dX2_partsOf_8 ?_
  refine lv_sipush (v := nI 255) hx hb dX2_partsOf_9 (by decide) ?_
  refine lv_iand hx hb dX2_partsOf_12 ?_
  have hret : ((w (8 * b + 1)) >>> ((nI 8) &&& 31)) &&& (nI 255) = kParts w b := rfl
  refine zz_top hret ?_
  exact W.iret hx hb hr (fun tS ht hW => ⟨_, rfl, rfl, ht⟩) (fun _ h => nomatch h) dX2_partsOf_13
set_option maxHeartbeats 4000000 in
set_option maxRecDepth 100000 in
theorem c_X2_formOf (l : Launch) (dC : Nat → ClassId) (dI : Nat → Nat → Nat) (cyI cyZ : ClassId) (qd qw : Nat) (w : Nat → Int32) (on : Bool) (lf : Int32) (dn : Nat) (b : Nat) (hb9 : b < 64) : Met l yX2_formOf wsX2_formOf ({ frames := 1, cells := 0, slots := 0, locals := 22 }) (va_Pc [.ref qd, .int (nI b)] (fun U => va_P (dC, dI) vwCl [(qd, .inr (1, [.ref qw, .int (bI on), .int lf, .int (nI dn)])), (qw, .inl (cyI, 512, .inl w))] U.heap ∧ va_K (dC, dI) vwCl [(cyI, .int), (cyZ, .boolean)] U)) (vp_Si (fun r => r = kForm w b)) 0 0 (fun _ => False) := by
  refine Met.ofW (cc := cX2_formOf) (maxL := 2) (ret := (some .int)) (by decide) rfl ?_
  intro pz ez sS mM args below meth cC s₁ B hml hv
  obtain ⟨rfl, hP, hK⟩ := hv
  have hx := B.exec
  have hb := B.bytes
  have hr := B.returns
  have hts := atoms_spec (ws := wsX2_formOf) B.pre
  have hown : sS.vm.findClass RX2 = some mM.cls := findClass_of_methodNamed B.named
  have hlocks := B.notSynchronized
  have hl := lv_entry ([.ref qd, .int (nI b)]) (n := 2) (Nat.le_of_ble_eq_true rfl)
  rw [lg_entry_eq]
  generalize (lg_sl ([.ref qd, .int (nI b)]) ++ List.replicate (2 - (lg_sl ([.ref qd, .int (nI b)])).length) Slot.unset).toArray = ls at hl ⊢
  have hl : lv_has ls 2 [(0, .ref qd), (1, .int (nI b))] := hl
  refine lv_aload_n hx hb dX2_formOf_0 rfl (lv_at hl 0 rfl) ?_
  refine lv_iload_n hx hb dX2_formOf_1 rfl (lv_at hl 1 rfl) ?_
  refine lv_iconst (v := nI 1) hx hb dX2_formOf_2 (by decide) ?_
  have hPc := hP.sub (ws' := [(qd, .inr (1, [.ref qw, .int (bI on), .int lf, .int (nI dn)])), (qw, .inl (cyI, 512, .inl w))]) [0, 1] rfl
  have hKc := hK.sub (tys' := [(cyI, .int), (cyZ, .boolean)]) [0, 1] rfl
  refine vp_callSi (va_Run.run (va_runV (As := [.int (nI b), .int (nI 1)]) (rest := []) ⟨hx, hb, hml, hown, hts⟩ (c_X2_wordAt l dC dI cyI cyZ qd qw w on lf dn b 1 (by omega) (by omega)) (cwV 2 hts gX2_formOf_X2_wordAt rfl rfl rfl (by decide +kernel) ⟨Nat.le_of_ble_eq_true rfl, Nat.le_of_ble_eq_true rfl⟩) ⟨zz_blR, va_recv hKc hPc (ci := 1) (q0 := 0) rfl rfl, fun U hU hW => ⟨rfl, by rw [hU]; exact hPc, va_K.moved hW.alike hKc⟩⟩ rfl rfl hl.1 rfl (lv_room (Nat.le_of_ble_eq_true rfl)) dX2_formOf_3 ⟨Nat.zero_le _, Nat.zero_le _⟩)) (fun r_3 hr_3 => ?_)
  have hr_3 : w (8 * b + 1) = r_3 := Eq.symm hr_3
  subst hr_3
  refine lv_bipush (v := nI 16) hx hb dX2_formOf_6 (by decide) ?_
  refine lv_ishr hx hb dX2_formOf_8 ?_
  have hret : (w (8 * b + 1)) >>> ((nI 16) &&& 31) = kForm w b := rfl
  refine zz_top hret ?_
  exact W.iret hx hb hr (fun tS ht hW => ⟨_, rfl, rfl, ht⟩) (fun _ h => nomatch h) dX2_formOf_9
set_option maxHeartbeats 4000000 in
set_option maxRecDepth 100000 in
theorem c_X2_keyOf (l : Launch) (dC : Nat → ClassId) (dI : Nat → Nat → Nat) (cyI cyZ : ClassId) (qd qw : Nat) (w : Nat → Int32) (on : Bool) (lf : Int32) (dn : Nat) (b : Nat) (hb9 : b < 64) : Met l yX2_keyOf wsX2_keyOf ({ frames := 1, cells := 0, slots := 0, locals := 22 }) (va_Pc [.ref qd, .int (nI b)] (fun U => va_P (dC, dI) vwCl [(qd, .inr (1, [.ref qw, .int (bI on), .int lf, .int (nI dn)])), (qw, .inl (cyI, 512, .inl w))] U.heap ∧ va_K (dC, dI) vwCl [(cyI, .int), (cyZ, .boolean)] U)) (vp_Si (fun r => r = kKey w b)) 0 0 (fun _ => False) := by
  refine Met.ofW (cc := cX2_keyOf) (maxL := 2) (ret := (some .int)) (by decide) rfl ?_
  intro pz ez sS mM args below meth cC s₁ B hml hv
  obtain ⟨rfl, hP, hK⟩ := hv
  have hx := B.exec
  have hb := B.bytes
  have hr := B.returns
  have hts := atoms_spec (ws := wsX2_keyOf) B.pre
  have hown : sS.vm.findClass RX2 = some mM.cls := findClass_of_methodNamed B.named
  have hlocks := B.notSynchronized
  have hl := lv_entry ([.ref qd, .int (nI b)]) (n := 2) (Nat.le_of_ble_eq_true rfl)
  rw [lg_entry_eq]
  generalize (lg_sl ([.ref qd, .int (nI b)]) ++ List.replicate (2 - (lg_sl ([.ref qd, .int (nI b)])).length) Slot.unset).toArray = ls at hl ⊢
  have hl : lv_has ls 2 [(0, .ref qd), (1, .int (nI b))] := hl
  refine lv_aload_n hx hb dX2_keyOf_0 rfl (lv_at hl 0 rfl) ?_
  refine lv_iload_n hx hb dX2_keyOf_1 rfl (lv_at hl 1 rfl) ?_
  refine lv_iconst (v := nI 2) hx hb dX2_keyOf_2 (by decide) ?_
  have hPc := hP.sub (ws' := [(qd, .inr (1, [.ref qw, .int (bI on), .int lf, .int (nI dn)])), (qw, .inl (cyI, 512, .inl w))]) [0, 1] rfl
  have hKc := hK.sub (tys' := [(cyI, .int), (cyZ, .boolean)]) [0, 1] rfl
  refine vp_callSi (va_Run.run (va_runV (As := [.int (nI b), .int (nI 2)]) (rest := []) ⟨hx, hb, hml, hown, hts⟩ (c_X2_wordAt l dC dI cyI cyZ qd qw w on lf dn b 2 (by omega) (by omega)) (cwV 2 hts gX2_keyOf_X2_wordAt rfl rfl rfl (by decide +kernel) ⟨Nat.le_of_ble_eq_true rfl, Nat.le_of_ble_eq_true rfl⟩) ⟨zz_blR, va_recv hKc hPc (ci := 1) (q0 := 0) rfl rfl, fun U hU hW => ⟨rfl, by rw [hU]; exact hPc, va_K.moved hW.alike hKc⟩⟩ rfl rfl hl.1 rfl (lv_room (Nat.le_of_ble_eq_true rfl)) dX2_keyOf_3 ⟨Nat.zero_le _, Nat.zero_le _⟩)) (fun r_3 hr_3 => ?_)
  have hr_3 : w (8 * b + 2) = r_3 := Eq.symm hr_3
  subst hr_3
  have hret : w (8 * b + 2) = kKey w b := rfl
  refine zz_top hret ?_
  exact W.iret hx hb hr (fun tS ht hW => ⟨_, rfl, rfl, ht⟩) (fun _ h => nomatch h) dX2_keyOf_6
set_option maxHeartbeats 4000000 in
set_option maxRecDepth 100000 in
theorem c_X2_octetsOf (l : Launch) (dC : Nat → ClassId) (dI : Nat → Nat → Nat) (cyI cyZ : ClassId) (qd qw : Nat) (w : Nat → Int32) (on : Bool) (lf : Int32) (dn : Nat) (b : Nat) (hb9 : b < 64) : Met l yX2_octetsOf wsX2_octetsOf ({ frames := 1, cells := 0, slots := 0, locals := 22 }) (va_Pc [.ref qd, .int (nI b)] (fun U => va_P (dC, dI) vwCl [(qd, .inr (1, [.ref qw, .int (bI on), .int lf, .int (nI dn)])), (qw, .inl (cyI, 512, .inl w))] U.heap ∧ va_K (dC, dI) vwCl [(cyI, .int), (cyZ, .boolean)] U)) (vp_Si (fun r => r = kOct w b)) 0 0 (fun _ => False) := by
  refine Met.ofW (cc := cX2_octetsOf) (maxL := 2) (ret := (some .int)) (by decide) rfl ?_
  intro pz ez sS mM args below meth cC s₁ B hml hv
  obtain ⟨rfl, hP, hK⟩ := hv
  have hx := B.exec
  have hb := B.bytes
  have hr := B.returns
  have hts := atoms_spec (ws := wsX2_octetsOf) B.pre
  have hown : sS.vm.findClass RX2 = some mM.cls := findClass_of_methodNamed B.named
  have hlocks := B.notSynchronized
  have hl := lv_entry ([.ref qd, .int (nI b)]) (n := 2) (Nat.le_of_ble_eq_true rfl)
  rw [lg_entry_eq]
  generalize (lg_sl ([.ref qd, .int (nI b)]) ++ List.replicate (2 - (lg_sl ([.ref qd, .int (nI b)])).length) Slot.unset).toArray = ls at hl ⊢
  have hl : lv_has ls 2 [(0, .ref qd), (1, .int (nI b))] := hl
  refine lv_aload_n hx hb dX2_octetsOf_0 rfl (lv_at hl 0 rfl) ?_
  refine lv_iload_n hx hb dX2_octetsOf_1 rfl (lv_at hl 1 rfl) ?_
  refine lv_iconst (v := nI 3) hx hb dX2_octetsOf_2 (by decide) ?_
  have hPc := hP.sub (ws' := [(qd, .inr (1, [.ref qw, .int (bI on), .int lf, .int (nI dn)])), (qw, .inl (cyI, 512, .inl w))]) [0, 1] rfl
  have hKc := hK.sub (tys' := [(cyI, .int), (cyZ, .boolean)]) [0, 1] rfl
  refine vp_callSi (va_Run.run (va_runV (As := [.int (nI b), .int (nI 3)]) (rest := []) ⟨hx, hb, hml, hown, hts⟩ (c_X2_wordAt l dC dI cyI cyZ qd qw w on lf dn b 3 (by omega) (by omega)) (cwV 2 hts gX2_octetsOf_X2_wordAt rfl rfl rfl (by decide +kernel) ⟨Nat.le_of_ble_eq_true rfl, Nat.le_of_ble_eq_true rfl⟩) ⟨zz_blR, va_recv hKc hPc (ci := 1) (q0 := 0) rfl rfl, fun U hU hW => ⟨rfl, by rw [hU]; exact hPc, va_K.moved hW.alike hKc⟩⟩ rfl rfl hl.1 rfl (lv_room (Nat.le_of_ble_eq_true rfl)) dX2_octetsOf_3 ⟨Nat.zero_le _, Nat.zero_le _⟩)) (fun r_3 hr_3 => ?_)
  have hr_3 : w (8 * b + 3) = r_3 := Eq.symm hr_3
  subst hr_3
  have hret : w (8 * b + 3) = kOct w b := rfl
  refine zz_top hret ?_
  exact W.iret hx hb hr (fun tS ht hW => ⟨_, rfl, rfl, ht⟩) (fun _ h => nomatch h) dX2_octetsOf_6
set_option maxHeartbeats 4000000 in
set_option maxRecDepth 100000 in
theorem c_X2_greatestNumber (l : Launch) (dC : Nat → ClassId) (dI : Nat → Nat → Nat) (cyI cyZ : ClassId) (qd qw : Nat) (w : Nat → Int32) (on : Bool) (lf : Int32) (dn : Nat)  : Met l yX2_greatestNumber wsX2_greatestNumber ({ frames := 2, cells := 0, slots := 0, locals := 43 }) (va_Pc [.ref qd] (fun U => va_P (dC, dI) vwCl [(qd, .inr (1, [.ref qw, .int (bI on), .int lf, .int (nI dn)])), (qw, .inl (cyI, 512, .inl w))] U.heap ∧ va_K (dC, dI) vwCl [(cyI, .int), (cyZ, .boolean)] U)) (vp_Si (fun r => r = kGr w 64)) 0 0 (fun _ => False) := by
  refine Met.ofW (cc := cX2_greatestNumber) (maxL := 3) (ret := (some .int)) (by decide) rfl ?_
  intro pz ez sS mM args below meth cC s₁ B hml hv
  obtain ⟨rfl, hP, hK⟩ := hv
  have hx := B.exec
  have hb := B.bytes
  have hr := B.returns
  have hts := atoms_spec (ws := wsX2_greatestNumber) B.pre
  have hown : sS.vm.findClass RX2 = some mM.cls := findClass_of_methodNamed B.named
  have hlocks := B.notSynchronized
  have hl := lv_entry ([.ref qd]) (n := 3) (Nat.le_of_ble_eq_true rfl)
  rw [lg_entry_eq]
  generalize (lg_sl ([.ref qd]) ++ List.replicate (3 - (lg_sl ([.ref qd])).length) Slot.unset).toArray = ls at hl ⊢
  have hl : lv_has ls 3 [(0, .ref qd)] := hl
  refine lv_iconst (v := nI 0) hx hb dX2_greatestNumber_0 (by decide) ?_
  refine lv_istore_n (lv' := [(1, .int (nI 0)), (0, .ref qd)]) hx hb dX2_greatestNumber_1 rfl hl (by decide) rfl (fun ls hl => ?_)
  refine lv_iconst (v := nI 0) hx hb dX2_greatestNumber_2 (by decide) ?_
  refine lv_istore_n (lv' := [(2, .int (nI 0)), (1, .int (nI 0)), (0, .ref qd)]) hx hb dX2_greatestNumber_3 rfl hl (by decide) rfl (fun ls hl => ?_)
  refine zz_loopR (pc := 4) (μ := fun (k : Nat) => 64 - k) (Inv := fun (k : Nat) (ls : Array Slot) => (k ≤ 64) ∧ lv_has ls 3 [(0, .ref qd), (1, .int (kGr w k)), (2, .int (nI k))]) (x0 := (0)) ⟨by omega, lv_sub hl [2, 1, 0] rfl⟩ ?_
  intro k ls hI ih4
  obtain ⟨hk, hl⟩ := hI
  have hl : lv_has ls 3 [(0, .ref qd), (1, .int (kGr w k)), (2, .int (nI k))] := hl
  have hk : k ≤ 64 := hk
  refine lv_iload_n hx hb dX2_greatestNumber_4 rfl (lv_at hl 2 rfl) ?_
  refine lv_bipush (v := nI 64) hx hb dX2_greatestNumber_5 (by decide) ?_
  refine zn_icmp_ge (tgt := 26) hx hb dX2_greatestNumber_7 (by decide) (by omega) (by omega) (fun c_7 => ?_) (fun c_7 => ?_)
  ·
    refine lv_iload_n hx hb dX2_greatestNumber_26 rfl (lv_at hl 1 rfl) ?_
    have hret : kGr w k = kGr w 64 := by rw [show k = 64 by omega]
    refine zz_top hret ?_
    exact W.iret hx hb hr (fun tS ht hW => ⟨_, rfl, rfl, ht⟩) (fun _ h => nomatch h) dX2_greatestNumber_27
  ·
    refine lv_iload_n hx hb dX2_greatestNumber_10 rfl (lv_at hl 1 rfl) ?_
    refine lv_aload_n hx hb dX2_greatestNumber_11 rfl (lv_at hl 0 rfl) ?_
    refine lv_iload_n hx hb dX2_greatestNumber_12 rfl (lv_at hl 2 rfl) ?_
    have hPc := hP.sub (ws' := [(qd, .inr (1, [.ref qw, .int (bI on), .int lf, .int (nI dn)])), (qw, .inl (cyI, 512, .inl w))]) [0, 1] rfl
    have hKc := hK.sub (tys' := [(cyI, .int), (cyZ, .boolean)]) [0, 1] rfl
    refine vp_callSi (va_Run.run (va_runV (As := [.int (nI k)]) (rest := [.int (kGr w k)]) ⟨hx, hb, hml, hown, hts⟩ (c_X2_numberOf l dC dI cyI cyZ qd qw w on lf dn k (by omega)) (cwV 1 hts gX2_greatestNumber_X2_numberOf rfl rfl rfl (by decide +kernel) ⟨Nat.le_of_ble_eq_true rfl, Nat.le_of_ble_eq_true rfl⟩) ⟨zz_blR, va_recv hKc hPc (ci := 1) (q0 := 0) rfl rfl, fun U hU hW => ⟨rfl, by rw [hU]; exact hPc, va_K.moved hW.alike hKc⟩⟩ rfl rfl hl.1 rfl (lv_room (Nat.le_of_ble_eq_true rfl)) dX2_greatestNumber_13 ⟨Nat.zero_le _, Nat.zero_le _⟩)) (fun r_13 hr_13 => ?_)
    have hr_13 : kNum w k = r_13 := Eq.symm hr_13
    subst hr_13
    refine va_mmax hx hb (by rw [hml]; exact hl.1.symm) hown (hts (.methodLink RX2 34 Lib.Math.max.name) (by decide +kernel)) (hts (.static Lib.Math.max.name) (by decide +kernel)) (hts (.initialized "java/lang/Math") (by decide +kernel)) (hts (.code Lib.Math.max.name Lib.Math.max.code 2 (some .int)) (by decide +kernel)) (Nat.le_of_ble_eq_true rfl) (Nat.le_of_ble_eq_true rfl) (Nat.le_of_ble_eq_true rfl) (Nat.le_of_ble_eq_true rfl) dX2_greatestNumber_16 ?_
    refine zz_top (rfl) ?_
    refine lv_istore_n (lv' := [(1, .int (kGr w (k + 1))), (0, .ref qd), (2, .int (nI k))]) hx hb dX2_greatestNumber_19 rfl hl (by decide) rfl (fun ls hl => ?_)
    refine lv_iinc (v := nI (k + 1)) (lv' := [(2, .int (nI (k + 1))), (1, .int (kGr w (k + 1))), (0, .ref qd)]) hx hb dX2_greatestNumber_20 hl (k := 2) rfl (nI_add k 1) (by decide) rfl (fun ls hl => ?_)
    refine lv_goto (tgt := 4) hx hb dX2_greatestNumber_23 (by decide) ?_
    exact ih4 (k + 1) _ ⟨by omega, lv_sub hl [2, 1, 0] rfl⟩ (by first | omega | (dsimp only; omega))
set_option maxHeartbeats 4000000 in
set_option maxRecDepth 100000 in
theorem c_X2_blockOf (l : Launch) (dC : Nat → ClassId) (dI : Nat → Nat → Nat) (cyI cyZ : ClassId) (qd qw : Nat) (w : Nat → Int32) (on : Bool) (lf : Int32) (dn : Nat) (rc pt : Int32)  : Met l yX2_blockOf wsX2_blockOf ({ frames := 2, cells := 0, slots := 0, locals := 43 }) (va_Pc [.ref qd, .int rc, .int pt] (fun U => va_P (dC, dI) vwCl [(qd, .inr (1, [.ref qw, .int (bI on), .int lf, .int (nI dn)])), (qw, .inl (cyI, 512, .inl w))] U.heap ∧ va_K (dC, dI) vwCl [(cyI, .int), (cyZ, .boolean)] U)) (vp_Si (fun r => r = zFI (zFst (kAt w rc pt) 64) 64)) 0 0 (fun _ => False) := by
  refine Met.ofW (cc := cX2_blockOf) (maxL := 4) (ret := (some .int)) (by decide) rfl ?_
  intro pz ez sS mM args below meth cC s₁ B hml hv
  obtain ⟨rfl, hP, hK⟩ := hv
  have hx := B.exec
  have hb := B.bytes
  have hr := B.returns
  have hts := atoms_spec (ws := wsX2_blockOf) B.pre
  have hown : sS.vm.findClass RX2 = some mM.cls := findClass_of_methodNamed B.named
  have hlocks := B.notSynchronized
  have hl := lv_entry ([.ref qd, .int rc, .int pt]) (n := 4) (Nat.le_of_ble_eq_true rfl)
  rw [lg_entry_eq]
  generalize (lg_sl ([.ref qd, .int rc, .int pt]) ++ List.replicate (4 - (lg_sl ([.ref qd, .int rc, .int pt])).length) Slot.unset).toArray = ls at hl ⊢
  have hl : lv_has ls 4 [(0, .ref qd), (1, .int rc), (2, .int pt)] := hl
  refine lv_iconst (v := nI 0) hx hb dX2_blockOf_0 (by decide) ?_
  refine lv_istore_n (lv' := [(3, .int (nI 0)), (0, .ref qd), (1, .int rc), (2, .int pt)]) hx hb dX2_blockOf_1 rfl hl (by decide) rfl (fun ls hl => ?_)
  refine zz_loopR (pc := 2) (μ := fun (k : Nat) => 64 - k) (Inv := fun (k : Nat) (ls : Array Slot) => (k ≤ 64) ∧ (∀ j, j < k → kAt w rc pt j = false) ∧ lv_has ls 4 [(0, .ref qd), (1, .int rc), (2, .int pt), (3, .int (nI k))]) (x0 := (0)) ⟨by omega, no_lt0, lv_sub hl [1, 2, 3, 0] rfl⟩ ?_
  intro k ls hI ih2
  obtain ⟨hk, hj, hl⟩ := hI
  have hl : lv_has ls 4 [(0, .ref qd), (1, .int rc), (2, .int pt), (3, .int (nI k))] := hl
  have hk : k ≤ 64 := hk
  have hj : ∀ j, j < k → kAt w rc pt j = false := hj
  refine lv_iload_n hx hb dX2_blockOf_2 rfl (lv_at hl 3 rfl) ?_
  refine lv_bipush (v := nI 64) hx hb dX2_blockOf_3 (by decide) ?_
  refine zn_icmp_ge (tgt := 34) hx hb dX2_blockOf_5 (by decide) (by omega) (by omega) (fun c_5 => ?_) (fun c_5 => ?_)
  ·
    refine lv_iconst (v := (-1)) hx hb dX2_blockOf_34 (by decide) ?_
    have hret : (-1) = zFI (zFst (kAt w rc pt) 64) 64 := zFI_n (fun j h => hj j (by omega))
    refine zz_top hret ?_
    exact W.iret hx hb hr (fun tS ht hW => ⟨_, rfl, rfl, ht⟩) (fun _ h => nomatch h) dX2_blockOf_35
  ·
    refine lv_aload_n hx hb dX2_blockOf_8 rfl (lv_at hl 0 rfl) ?_
    refine lv_iload_n hx hb dX2_blockOf_9 rfl (lv_at hl 3 rfl) ?_
    have hPc := hP.sub (ws' := [(qd, .inr (1, [.ref qw, .int (bI on), .int lf, .int (nI dn)])), (qw, .inl (cyI, 512, .inl w))]) [0, 1] rfl
    have hKc := hK.sub (tys' := [(cyI, .int), (cyZ, .boolean)]) [0, 1] rfl
    refine vp_callSi (va_Run.run (va_runV (As := [.int (nI k)]) (rest := []) ⟨hx, hb, hml, hown, hts⟩ (c_X2_numberOf l dC dI cyI cyZ qd qw w on lf dn k (by omega)) (cwV 1 hts gX2_blockOf_X2_numberOf rfl rfl rfl (by decide +kernel) ⟨Nat.le_of_ble_eq_true rfl, Nat.le_of_ble_eq_true rfl⟩) ⟨zz_blR, va_recv hKc hPc (ci := 1) (q0 := 0) rfl rfl, fun U hU hW => ⟨rfl, by rw [hU]; exact hPc, va_K.moved hW.alike hKc⟩⟩ rfl rfl hl.1 rfl (lv_room (Nat.le_of_ble_eq_true rfl)) dX2_blockOf_10 ⟨Nat.zero_le _, Nat.zero_le _⟩)) (fun r_10 hr_10 => ?_)
    have hr_10 : kNum w k = r_10 := Eq.symm hr_10
    subst hr_10
    refine lv_iload_n hx hb dX2_blockOf_13 rfl (lv_at hl 1 rfl) ?_
    refine lv_icmp_ne (tgt := 28) hx hb dX2_blockOf_14 (by decide) (fun c_14 => ?_) (fun c_14 => ?_)
    ·
      refine lv_iinc (v := nI (k + 1)) (lv' := [(3, .int (nI (k + 1))), (0, .ref qd), (1, .int rc), (2, .int pt)]) hx hb dX2_blockOf_28 hl (k := 3) rfl (nI_add k 1) (by decide) rfl (fun ls hl => ?_)
      refine lv_goto (tgt := 2) hx hb dX2_blockOf_31 (by decide) ?_
      exact ih2 (k + 1) _ ⟨by omega, lt_step hj (by first | exact b_and_f1 (d_f c_14) | exact b_and_f2 (d_f c_23)), lv_sub hl [1, 2, 3, 0] rfl⟩ (by first | omega | (dsimp only; omega))
    ·
      refine lv_aload_n hx hb dX2_blockOf_17 rfl (lv_at hl 0 rfl) ?_
      refine lv_iload_n hx hb dX2_blockOf_18 rfl (lv_at hl 3 rfl) ?_
      have hPc := hP.sub (ws' := [(qd, .inr (1, [.ref qw, .int (bI on), .int lf, .int (nI dn)])), (qw, .inl (cyI, 512, .inl w))]) [0, 1] rfl
      have hKc := hK.sub (tys' := [(cyI, .int), (cyZ, .boolean)]) [0, 1] rfl
      refine vp_callSi (va_Run.run (va_runV (As := [.int (nI k)]) (rest := []) ⟨hx, hb, hml, hown, hts⟩ (c_X2_partOf l dC dI cyI cyZ qd qw w on lf dn k (by omega)) (cwV 1 hts gX2_blockOf_X2_partOf rfl rfl rfl (by decide +kernel) ⟨Nat.le_of_ble_eq_true rfl, Nat.le_of_ble_eq_true rfl⟩) ⟨zz_blR, va_recv hKc hPc (ci := 1) (q0 := 0) rfl rfl, fun U hU hW => ⟨rfl, by rw [hU]; exact hPc, va_K.moved hW.alike hKc⟩⟩ rfl rfl hl.1 rfl (lv_room (Nat.le_of_ble_eq_true rfl)) dX2_blockOf_19 ⟨Nat.zero_le _, Nat.zero_le _⟩)) (fun r_19 hr_19 => ?_)
      have hr_19 : kPart w k = r_19 := Eq.symm hr_19
      subst hr_19
      refine lv_iload_n hx hb dX2_blockOf_22 rfl (lv_at hl 2 rfl) ?_
      refine lv_icmp_ne (tgt := 28) hx hb dX2_blockOf_23 (by decide) (fun c_23 => ?_) (fun c_23 => ?_)
      ·
        refine lv_iinc (v := nI (k + 1)) (lv' := [(3, .int (nI (k + 1))), (0, .ref qd), (1, .int rc), (2, .int pt)]) hx hb dX2_blockOf_28 hl (k := 3) rfl (nI_add k 1) (by decide) rfl (fun ls hl => ?_)
        refine lv_goto (tgt := 2) hx hb dX2_blockOf_31 (by decide) ?_
        exact ih2 (k + 1) _ ⟨by omega, lt_step hj (by first | exact b_and_f1 (d_f c_14) | exact b_and_f2 (d_f c_23)), lv_sub hl [1, 2, 3, 0] rfl⟩ (by first | omega | (dsimp only; omega))
      ·
        refine lv_iload_n hx hb dX2_blockOf_26 rfl (lv_at hl 3 rfl) ?_
        have hret : nI k = zFI (zFst (kAt w rc pt) 64) 64 := zFI_y (by omega) (b_and_t (d_t c_14) (d_t c_23)) hj
        refine zz_top hret ?_
        exact W.iret hx hb hr (fun tS ht hW => ⟨_, rfl, rfl, ht⟩) (fun _ h => nomatch h) dX2_blockOf_27
