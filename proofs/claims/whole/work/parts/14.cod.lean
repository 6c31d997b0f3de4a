set_option maxHeartbeats 4000000 in
set_option maxRecDepth 100000 in
theorem c_X1_rowLength (l : Launch) (dC : Nat → ClassId) (dI : Nat → Nat → Nat) (cyI cyZ : ClassId) (qo qa : Nat) (t : Nat → Int32) (n i d : Nat) (hn : n ≤ 450) (hi : i < n) (hd0 : 0 < d) (hd1 : d ≤ i) : Met l yX1_rowLength wsX1_rowLength ({ frames := 1, cells := 0, slots := 0, locals := 21 }) (va_Pc [.ref qo, .int (nI i), .int (nI d)] (fun U => va_P (dC, dI) vwCl [(qo, .inr (2, [.ref qa, .int (nI n)])), (qa, .inl (cyI, 450, .inl t))] U.heap ∧ va_K (dC, dI) vwCl [(cyI, .int), (cyZ, .boolean)] U)) (vp_Si (fun r => r = nI (zRun t n i d))) 0 0 (fun _ => False) := by
  refine Met.ofW (cc := cX1_rowLength) (maxL := 5) (ret := (some .int)) (by decide) rfl ?_
  intro pz ez sS mM args below meth cC s₁ B hml hv
  obtain ⟨rfl, hP, hK⟩ := hv
  have hx := B.exec
  have hb := B.bytes
  have hr := B.returns
  have hts := atoms_spec (ws := wsX1_rowLength) B.pre
  have hown : sS.vm.findClass RX1 = some mM.cls := findClass_of_methodNamed B.named
  have hlocks := B.notSynchronized
  have hl := lv_entry ([.ref qo, .int (nI i), .int (nI d)]) (n := 5) (Nat.le_of_ble_eq_true rfl)
  rw [lg_entry_eq]
  generalize (lg_sl ([.ref qo, .int (nI i), .int (nI d)]) ++ List.replicate (5 - (lg_sl ([.ref qo, .int (nI i), .int (nI d)])).length) Slot.unset).toArray = ls at hl ⊢
  have hl : lv_has ls 5 [(0, .ref qo), (1, .int (nI i)), (2, .int (nI d))] := hl
  obtain ⟨zc1, zc2⟩ := zcap_le n i
  refine lv_sipush (v := nI 258) hx hb dX1_rowLength_0 (by decide) ?_
  refine lv_aload_n hx hb dX1_rowLength_3 rfl (lv_at hl 0 rfl) ?_
  have hPc := hP.sub (ws' := [(qo, .inr (2, [.ref qa, .int (nI n)])), (qa, .inl (cyI, 450, .inl t))]) [0, 1] rfl
  have hKc := hK.sub (tys' := [(cyI, .int), (cyZ, .boolean)]) [0, 1] rfl
  refine vp_callSi (va_Run.run (va_runV (As := []) (rest := [.int (nI 258)]) ⟨hx, hb, hml, hown, hts⟩ (c_X3_size l dC dI cyI cyZ qo qa t n) (cwV 0 hts gX1_rowLength_X3_size rfl rfl rfl (by decide +kernel) ⟨Nat.le_of_ble_eq_true rfl, Nat.le_of_ble_eq_true rfl⟩) ⟨zz_blR, va_recv hKc hPc (ci := 2) (q0 := 0) rfl rfl, fun U hU hW => ⟨rfl, by rw [hU]; exact hPc, va_K.moved hW.alike hKc⟩⟩ rfl rfl hl.1 rfl (lv_room (Nat.le_of_ble_eq_true rfl)) dX1_rowLength_4 ⟨Nat.zero_le _, Nat.zero_le _⟩)) (fun r_4 hr_4 => ?_)
  have hr_4 : nI n = r_4 := Eq.symm hr_4
  subst hr_4
  refine lv_iload_n hx hb dX1_rowLength_7 rfl (lv_at hl 1 rfl) ?_
  refine lv_isub hx hb dX1_rowLength_8 ?_
  refine zz_top (pk_sub (a := n) (b := i) (by omega)) ?_
  refine va_mmin hx hb (by rw [hml]; exact hl.1.symm) hown (hts (.methodLink RX1 40 Lib.Math.min.name) (by decide +kernel)) (hts (.static Lib.Math.min.name) (by decide +kernel)) (hts (.initialized "java/lang/Math") (by decide +kernel)) (hts (.code Lib.Math.min.name Lib.Math.min.code 2 (some .int)) (by decide +kernel)) (Nat.le_of_ble_eq_true rfl) (Nat.le_of_ble_eq_true rfl) (Nat.le_of_ble_eq_true rfl) (Nat.le_of_ble_eq_true rfl) dX1_rowLength_9 ?_
  refine zz_top (zmin (by omega) (by omega)) ?_
  refine lv_istore_n (lv' := [(3, .int (nI (zCap n i))), (0, .ref qo), (1, .int (nI i)), (2, .int (nI d))]) hx hb dX1_rowLength_12 rfl hl (by decide) rfl (fun ls hl => ?_)
  refine lv_iconst (v := nI 0) hx hb dX1_rowLength_13 (by decide) ?_
  refine lv_istore (lv' := [(4, .int (nI 0)), (3, .int (nI (zCap n i))), (0, .ref qo), (1, .int (nI i)), (2, .int (nI d))]) hx hb dX1_rowLength_14 hl (by decide) rfl (fun ls hl => ?_)
  refine zz_loopR (pc := 16) (μ := fun (k : Nat) => zCap n i - k) (Inv := fun (k : Nat) (ls : Array Slot) => (k ≤ zCap n i) ∧ (∀ j, j < k → zMis t i d j = false) ∧ lv_has ls 5 [(0, .ref qo), (1, .int (nI i)), (2, .int (nI d)), (3, .int (nI (zCap n i))), (4, .int (nI k))]) (x0 := (0)) ⟨by omega, no_lt0, lv_sub hl [2, 3, 4, 1, 0] rfl⟩ ?_
  intro k ls hI ih16
  obtain ⟨hk, hj, hl⟩ := hI
  have hl : lv_has ls 5 [(0, .ref qo), (1, .int (nI i)), (2, .int (nI d)), (3, .int (nI (zCap n i))), (4, .int (nI k))] := hl
  have hk : k ≤ zCap n i := hk
  have hj : ∀ j, j < k → zMis t i d j = false := hj
  refine lv_iload hx hb dX1_rowLength_16 (lv_at hl 4 rfl) ?_
  refine lv_iload_n hx hb dX1_rowLength_18 rfl (lv_at hl 3 rfl) ?_
  refine zn_icmp_ge (tgt := 52) hx hb dX1_rowLength_19 (by decide) (by omega) (by omega) (fun c_19 => ?_) (fun c_19 => ?_)
  ·
    refine lv_iload_n hx hb dX1_rowLength_52 rfl (lv_at hl 3 rfl) ?_
    have hret : nI (zCap n i) = nI (zRun t n i d) := congrArg nI (zFst_no (fun j h => hj j (by omega))).symm
    refine zz_top hret ?_
    exact W.iret hx hb hr (fun tS ht hW => ⟨_, rfl, rfl, ht⟩) (fun _ h => nomatch h) dX1_rowLength_53
  ·
    refine lv_aload_n hx hb dX1_rowLength_22 rfl (lv_at hl 0 rfl) ?_
    refine lv_iload_n hx hb dX1_rowLength_23 rfl (lv_at hl 1 rfl) ?_
    refine lv_iload hx hb dX1_rowLength_24 (lv_at hl 4 rfl) ?_
    refine lv_iadd hx hb dX1_rowLength_26 ?_
    refine zz_top (nI_add i k) ?_
    have hPc := hP.sub (ws' := [(qo, .inr (2, [.ref qa, .int (nI n)])), (qa, .inl (cyI, 450, .inl t))]) [0, 1] rfl
    have hKc := hK.sub (tys' := [(cyI, .int), (cyZ, .boolean)]) [0, 1] rfl
    refine vp_callSi (va_Run.run (va_runV (As := [.int (nI (i + k))]) (rest := []) ⟨hx, hb, hml, hown, hts⟩ (c_X3_at_in l dC dI cyI cyZ qo qa t n (i + k) (by omega) (by omega)) (cwV 1 hts gX1_rowLength_X3_at rfl rfl rfl (by decide +kernel) ⟨Nat.le_of_ble_eq_true rfl, Nat.le_of_ble_eq_true rfl⟩) ⟨zz_blR, va_recv hKc hPc (ci := 2) (q0 := 0) rfl rfl, fun U hU hW => ⟨rfl, by rw [hU]; exact hPc, va_K.moved hW.alike hKc⟩⟩ rfl rfl hl.1 rfl (lv_room (Nat.le_of_ble_eq_true rfl)) dX1_rowLength_27 ⟨Nat.zero_le _, Nat.zero_le _⟩)) (fun r_27 hr_27 => ?_)
    have hr_27 : t (i + k) = r_27 := Eq.symm hr_27
    subst hr_27
    refine lv_aload_n hx hb dX1_rowLength_30 rfl (lv_at hl 0 rfl) ?_
    refine lv_iload_n hx hb dX1_rowLength_31 rfl (lv_at hl 1 rfl) ?_
    refine lv_iload hx hb dX1_rowLength_32 (lv_at hl 4 rfl) ?_
    refine lv_iadd hx hb dX1_rowLength_34 ?_
    refine zz_top (nI_add i k) ?_
    refine lv_iload_n hx hb dX1_rowLength_35 rfl (lv_at hl 2 rfl) ?_
    refine lv_isub hx hb dX1_rowLength_36 ?_
    refine zz_top (pk_sub (a := i + k) (b := d) (by omega)) ?_
    have hPc := hP.sub (ws' := [(qo, .inr (2, [.ref qa, .int (nI n)])), (qa, .inl (cyI, 450, .inl t))]) [0, 1] rfl
    have hKc := hK.sub (tys' := [(cyI, .int), (cyZ, .boolean)]) [0, 1] rfl
    refine vp_callSi (va_Run.run (va_runV (As := [.int (nI ((i + k) - d))]) (rest := [.int (t (i + k))]) ⟨hx, hb, hml, hown, hts⟩ (c_X3_at_in l dC dI cyI cyZ qo qa t n ((i + k) - d) (by omega) (by omega)) (cwV 1 hts gX1_rowLength_X3_at rfl rfl rfl (by decide +kernel) ⟨Nat.le_of_ble_eq_true rfl, Nat.le_of_ble_eq_true rfl⟩) ⟨zz_blR, va_recv hKc hPc (ci := 2) (q0 := 0) rfl rfl, fun U hU hW => ⟨rfl, by rw [hU]; exact hPc, va_K.moved hW.alike hKc⟩⟩ rfl rfl hl.1 rfl (lv_room (Nat.le_of_ble_eq_true rfl)) dX1_rowLength_37 ⟨Nat.zero_le _, Nat.zero_le _⟩)) (fun r_37 hr_37 => ?_)
    have hr_37 : t ((i + k) - d) = r_37 := Eq.symm hr_37
    subst hr_37
    refine lv_icmp_eq (tgt := 46) hx hb dX1_rowLength_40 (by decide) (fun c_40 => ?_) (fun c_40 => ?_)
    ·
      refine lv_iinc (v := nI (k + 1)) (lv' := [(4, .int (nI (k + 1))), (0, .ref qo), (1, .int (nI i)), (2, .int (nI d)), (3, .int (nI (zCap n i)))]) hx hb dX1_rowLength_46 hl (k := 4) rfl (nI_add k 1) (by decide) rfl (fun ls hl => ?_)
      refine lv_goto (tgt := 16) hx hb dX1_rowLength_49 (by decide) ?_
      exact ih16 (k + 1) _ ⟨by omega, lt_step hj (nd_f c_40), lv_sub hl [1, 2, 3, 4, 0] rfl⟩ (by first | omega | (dsimp only; omega))
    ·
      refine lv_iload hx hb dX1_rowLength_43 (lv_at hl 4 rfl) ?_
      have hret : nI k = nI (zRun t n i d) := congrArg nI (zFst_is (by omega) (nd_t c_40) hj).symm
      refine zz_top hret ?_
      exact W.iret hx hb hr (fun tS ht hW => ⟨_, rfl, rfl, ht⟩) (fun _ h => nomatch h) dX1_rowLength_45
set_option maxHeartbeats 4000000 in
set_option maxRecDepth 100000 in
theorem c_X1_bestDistance (l : Launch) (dC : Nat → ClassId) (dI : Nat → Nat → Nat) (cyI cyZ : ClassId) (qo qa : Nat) (t : Nat → Int32) (n i : Nat) (hn : n ≤ 450) (hi : i < n) : Met l yX1_bestDistance wsX1_bestDistance ({ frames := 2, cells := 0, slots := 0, locals := 45 }) (va_Pc [.ref qo, .int (nI i)] (fun U => va_P (dC, dI) vwCl [(qo, .inr (2, [.ref qa, .int (nI n)])), (qa, .inl (cyI, 450, .inl t))] U.heap ∧ va_K (dC, dI) vwCl [(cyI, .int), (cyZ, .boolean)] U)) (vp_Si (fun r => r = nI (zBD t n i))) 0 0 (fun _ => False) := by
  refine Met.ofW (cc := cX1_bestDistance) (maxL := 7) (ret := (some .int)) (by decide) rfl ?_
  intro pz ez sS mM args below meth cC s₁ B hml hv
  obtain ⟨rfl, hP, hK⟩ := hv
  have hx := B.exec
  have hb := B.bytes
  have hr := B.returns
  have hts := atoms_spec (ws := wsX1_bestDistance) B.pre
  have hown : sS.vm.findClass RX1 = some mM.cls := findClass_of_methodNamed B.named
  have hlocks := B.notSynchronized
  have hl := lv_entry ([.ref qo, .int (nI i)]) (n := 7) (Nat.le_of_ble_eq_true rfl)
  rw [lg_entry_eq]
  generalize (lg_sl ([.ref qo, .int (nI i)]) ++ List.replicate (7 - (lg_sl ([.ref qo, .int (nI i)])).length) Slot.unset).toArray = ls at hl ⊢
  have hl : lv_has ls 7 [(0, .ref qo), (1, .int (nI i))] := hl
  obtain ⟨zc1, zc2⟩ := zcap_le n i
  refine lv_sipush (v := nI 258) hx hb dX1_bestDistance_0 (by decide) ?_
  refine lv_aload_n hx hb dX1_bestDistance_3 rfl (lv_at hl 0 rfl) ?_
  have hPc := hP.sub (ws' := [(qo, .inr (2, [.ref qa, .int (nI n)])), (qa, .inl (cyI, 450, .inl t))]) [0, 1] rfl
  have hKc := hK.sub (tys' := [(cyI, .int), (cyZ, .boolean)]) [0, 1] rfl
  refine vp_callSi (va_Run.run (va_runV (As := []) (rest := [.int (nI 258)]) ⟨hx, hb, hml, hown, hts⟩ (c_X3_size l dC dI cyI cyZ qo qa t n) (cwV 0 hts gX1_bestDistance_X3_size rfl rfl rfl (by decide +kernel) ⟨Nat.le_of_ble_eq_true rfl, Nat.le_of_ble_eq_true rfl⟩) ⟨zz_blR, va_recv hKc hPc (ci := 2) (q0 := 0) rfl rfl, fun U hU hW => ⟨rfl, by rw [hU]; exact hPc, va_K.moved hW.alike hKc⟩⟩ rfl rfl hl.1 rfl (lv_room (Nat.le_of_ble_eq_true rfl)) dX1_bestDistance_4 ⟨Nat.zero_le _, Nat.zero_le _⟩)) (fun r_4 hr_4 => ?_)
  have hr_4 : nI n = r_4 := Eq.symm hr_4
  subst hr_4
  refine lv_iload_n hx hb dX1_bestDistance_7 rfl (lv_at hl 1 rfl) ?_
  refine lv_isub hx hb dX1_bestDistance_8 ?_
  refine zz_top (pk_sub (a := n) (b := i) (by omega)) ?_
  refine va_mmin hx hb (by rw [hml]; exact hl.1.symm) hown (hts (.methodLink RX1 40 Lib.Math.min.name) (by decide +kernel)) (hts (.static Lib.Math.min.name) (by decide +kernel)) (hts (.initialized "java/lang/Math") (by decide +kernel)) (hts (.code Lib.Math.min.name Lib.Math.min.code 2 (some .int)) (by decide +kernel)) (Nat.le_of_ble_eq_true rfl) (Nat.le_of_ble_eq_true rfl) (Nat.le_of_ble_eq_true rfl) (Nat.le_of_ble_eq_true rfl) dX1_bestDistance_9 ?_
  refine zz_top (zmin (by omega) (by omega)) ?_
  refine lv_istore_n (lv' := [(2, .int (nI (zCap n i))), (0, .ref qo), (1, .int (nI i))]) hx hb dX1_bestDistance_12 rfl hl (by decide) rfl (fun ls hl => ?_)
  refine lv_iconst (v := nI 2) hx hb dX1_bestDistance_13 (by decide) ?_
  refine lv_istore_n (lv' := [(3, .int (nI 2)), (2, .int (nI (zCap n i))), (0, .ref qo), (1, .int (nI i))]) hx hb dX1_bestDistance_14 rfl hl (by decide) rfl (fun ls hl => ?_)
  refine lv_iconst (v := nI 0) hx hb dX1_bestDistance_15 (by decide) ?_
  refine lv_istore (lv' := [(4, .int (nI 0)), (3, .int (nI 2)), (2, .int (nI (zCap n i))), (0, .ref qo), (1, .int (nI i))]) hx hb dX1_bestDistance_16 hl (by decide) rfl (fun ls hl => ?_)
  refine lv_iconst (v := nI 1) hx hb dX1_bestDistance_18 (by decide) ?_
  refine lv_istore (lv' := [(5, .int (nI 1)), (4, .int (nI 0)), (3, .int (nI 2)), (2, .int (nI (zCap n i))), (0, .ref qo), (1, .int (nI i))]) hx hb dX1_bestDistance_19 hl (by decide) rfl (fun ls hl => ?_)
  refine zz_loopR (pc := 21) (μ := fun (k : Nat) => 300 - k) (Inv := fun (k : Nat) (ls : Array Slot) => (k ≤ min 256 i) ∧ lv_has ls 7 [(0, .ref qo), (1, .int (nI i)), (2, .int (nI (zCap n i))), (3, .int (nI (zLo t n i k))), (4, .int (nI (zBk t n i k))), (5, .int (nI (k + 1)))]) (x0 := (0)) ⟨by omega, lv_sub hl [4, 5, 3, 2, 1, 0] rfl⟩ ?_
  intro k ls hI ih21
  obtain ⟨hk, hl⟩ := hI
  have hl : lv_has ls 7 [(0, .ref qo), (1, .int (nI i)), (2, .int (nI (zCap n i))), (3, .int (nI (zLo t n i k))), (4, .int (nI (zBk t n i k))), (5, .int (nI (k + 1)))] := hl
  have hk : k ≤ min 256 i := hk
  have hlo : zLo t n i k ≤ 258 := by have := (zBst_le t n i k).1; unfold zLo; omega
  have hru : zRun t n i (k + 1) ≤ 258 := by have := zRun_le t n i (k + 1); omega
  refine lv_iload hx hb dX1_bestDistance_21 (lv_at hl 5 rfl) ?_
  refine lv_sipush (v := nI 256) hx hb dX1_bestDistance_23 (by decide) ?_
  refine zn_icmp_gt (tgt := 68) hx hb dX1_bestDistance_26 (by decide) (by omega) (by omega) (fun c_26 => ?_) (fun c_26 => ?_)
  ·
    refine lv_iload hx hb dX1_bestDistance_68 (lv_at hl 4 rfl) ?_
    have hret : nI (zBk t n i k) = nI (zBD t n i) := by first | exact congrArg nI (zBk_end hk (Or.inr c_37)) | exact congrArg nI (zBk_end hk (Or.inl (by omega)))
    refine zz_top hret ?_
    exact W.iret hx hb hr (fun tS ht hW => ⟨_, rfl, rfl, ht⟩) (fun _ h => nomatch h) dX1_bestDistance_70
  ·
    refine lv_iload hx hb dX1_bestDistance_29 (lv_at hl 5 rfl) ?_
    refine lv_iload_n hx hb dX1_bestDistance_31 rfl (lv_at hl 1 rfl) ?_
    refine zn_icmp_gt (tgt := 68) hx hb dX1_bestDistance_32 (by decide) (by omega) (by omega) (fun c_32 => ?_) (fun c_32 => ?_)
    ·
      refine lv_iload hx hb dX1_bestDistance_68 (lv_at hl 4 rfl) ?_
      have hret : nI (zBk t n i k) = nI (zBD t n i) := by first | exact congrArg nI (zBk_end hk (Or.inr c_37)) | exact congrArg nI (zBk_end hk (Or.inl (by omega)))
      refine zz_top hret ?_
      exact W.iret hx hb hr (fun tS ht hW => ⟨_, rfl, rfl, ht⟩) (fun _ h => nomatch h) dX1_bestDistance_70
    ·
      refine lv_iload_n hx hb dX1_bestDistance_35 rfl (lv_at hl 3 rfl) ?_
      refine lv_iload_n hx hb dX1_bestDistance_36 rfl (lv_at hl 2 rfl) ?_
      refine zn_icmp_ge (tgt := 68) hx hb dX1_bestDistance_37 (by decide) (by omega) (by omega) (fun c_37 => ?_) (fun c_37 => ?_)
      ·
        refine lv_iload hx hb dX1_bestDistance_68 (lv_at hl 4 rfl) ?_
        have hret : nI (zBk t n i k) = nI (zBD t n i) := by first | exact congrArg nI (zBk_end hk (Or.inr c_37)) | exact congrArg nI (zBk_end hk (Or.inl (by omega)))
        refine zz_top hret ?_
        exact W.iret hx hb hr (fun tS ht hW => ⟨_, rfl, rfl, ht⟩) (fun _ h => nomatch h) dX1_bestDistance_70
      ·
        refine lv_aload_n hx hb dX1_bestDistance_40 rfl (lv_at hl 0 rfl) ?_
        refine lv_iload_n hx hb dX1_bestDistance_41 rfl (lv_at hl 1 rfl) ?_
        refine lv_iload hx hb dX1_bestDistance_42 (lv_at hl 5 rfl) ?_
        have hPc := hP.sub (ws' := [(qo, .inr (2, [.ref qa, .int (nI n)])), (qa, .inl (cyI, 450, .inl t))]) [0, 1] rfl
        have hKc := hK.sub (tys' := [(cyI, .int), (cyZ, .boolean)]) [0, 1] rfl
        refine vp_callSi (va_Run.run (va_runS (As := [.ref qo, .int (nI i), .int (nI (k + 1))]) (rest := []) ⟨hx, hb, hml, hown, hts⟩ (c_X1_rowLength l dC dI cyI cyZ qo qa t n i (k + 1) (by omega) (by omega) (by omega) (by omega)) (va_cwS 3 hts gX1_bestDistance_X1_rowLength rfl rfl rfl (by decide +kernel) ⟨Nat.le_of_ble_eq_true rfl, Nat.le_of_ble_eq_true rfl⟩) ⟨zz_blR, fun U hU hW => ⟨rfl, by rw [hU]; exact hPc, va_K.moved hW.alike hKc⟩⟩ rfl rfl hl.1 rfl (lv_room (Nat.le_of_ble_eq_true rfl)) dX1_bestDistance_44 ⟨Nat.zero_le _, Nat.zero_le _⟩)) (fun r_44 hr_44 => ?_)
        have hr_44 : nI (zRun t n i (k + 1)) = r_44 := Eq.symm hr_44
        subst hr_44
        refine lv_istore (lv' := [(6, .int (nI (zRun t n i (k + 1)))), (0, .ref qo), (1, .int (nI i)), (2, .int (nI (zCap n i))), (3, .int (nI (zLo t n i k))), (4, .int (nI (zBk t n i k))), (5, .int (nI (k + 1)))]) hx hb dX1_bestDistance_47 hl (by decide) rfl (fun ls hl => ?_)
        refine lv_iload hx hb dX1_bestDistance_49 (lv_at hl 0 rfl) ?_
        refine lv_iload_n hx hb dX1_bestDistance_51 rfl (lv_at hl 4 rfl) ?_
        refine zn_icmp_le (tgt := 62) hx hb dX1_bestDistance_52 (by decide) (by omega) (by omega) (fun c_52 => ?_) (fun c_52 => ?_)
        ·
          refine lv_iinc (v := nI (k + 2)) (lv' := [(5, .int (nI (k + 2))), (6, .int (nI (zRun t n i (k + 1)))), (0, .ref qo), (1, .int (nI i)), (2, .int (nI (zCap n i))), (3, .int (nI (zLo t n i k))), (4, .int (nI (zBk t n i k)))]) hx hb dX1_bestDistance_62 hl (k := 6) rfl (nI_add (k + 1) 1) (by decide) rfl (fun ls hl => ?_)
          refine lv_goto (tgt := 21) hx hb dX1_bestDistance_65 (by decide) ?_
          obtain ⟨e1, e2⟩ := zBk_n c_52
          -- local 3: .int (nI (zLo t n i k)) ~ .int (nI (zLo t n i (k + 1)))
          -- local 4: .int (nI (zBk t n i k)) ~ .int (nI (zBk t n i (k + 1)))
          -- local 5: .int (nI (k + 2)) ~ .int (nI ((k + 1) + 1))
          exact ih21 (k + 1) _ ⟨by omega, lv_sub hl [2, 3, 4, 5, 6, 0] (by rw [e1, e2]; rfl)⟩ (by first | omega | (dsimp only; omega))
        ·
          refine lv_iload hx hb dX1_bestDistance_55 (lv_at hl 0 rfl) ?_
          refine lv_istore_n (lv' := [(3, .int (nI (zRun t n i (k + 1)))), (6, .int (nI (zRun t n i (k + 1)))), (0, .ref qo), (1, .int (nI i)), (2, .int (nI (zCap n i))), (4, .int (nI (zBk t n i k))), (5, .int (nI (k + 1)))]) hx hb dX1_bestDistance_57 rfl hl (by decide) rfl (fun ls hl => ?_)
          refine lv_iload hx hb dX1_bestDistance_58 (lv_at hl 6 rfl) ?_
          refine lv_istore (lv' := [(4, .int (nI (k + 1))), (3, .int (nI (zRun t n i (k + 1)))), (6, .int (nI (zRun t n i (k + 1)))), (0, .ref qo), (1, .int (nI i)), (2, .int (nI (zCap n i))), (5, .int (nI (k + 1)))]) hx hb dX1_bestDistance_60 hl (by decide) rfl (fun ls hl => ?_)
          refine lv_iinc (v := nI (k + 2)) (lv' := [(5, .int (nI (k + 2))), (4, .int (nI (k + 1))), (3, .int (nI (zRun t n i (k + 1)))), (6, .int (nI (zRun t n i (k + 1)))), (0, .ref qo), (1, .int (nI i)), (2, .int (nI (zCap n i)))]) hx hb dX1_bestDistance_62 hl (k := 6) rfl (nI_add (k + 1) 1) (by decide) rfl (fun ls hl => ?_)
          refine lv_goto (tgt := 21) hx hb dX1_bestDistance_65 (by decide) ?_
          obtain ⟨e1, e2⟩ := zBk_y c_52
          -- local 3: .int (nI (zRun t n i (k + 1))) ~ .int (nI (zLo t n i (k + 1)))
          -- local 4: .int (nI (k + 1)) ~ .int (nI (zBk t n i (k + 1)))
          -- local 5: .int (nI (k + 2)) ~ .int (nI ((k + 1) + 1))
          exact ih21 (k + 1) _ ⟨by omega, lv_sub hl [4, 5, 6, 2, 1, 0] (by rw [e1, e2]; rfl)⟩ (by first | omega | (dsimp only; omega))
set_option maxHeartbeats 4000000 in
set_option maxRecDepth 100000 in
theorem c_X1_encode (l : Launch) (dC : Nat → ClassId) (dI : Nat → Nat → Nat) (cyI cyZ : ClassId) (qo qa qb qba : Nat) (sz : Nat) (t : Nat → Int32) (n : Nat) (F0 : Nat → Int32) (m0 : Nat) (hn : n ≤ 400) (ht : ∀ j, j < n → zO (t j)) : Met l yX1_encode wsX1_encode ({ frames := 3, cells := 0, slots := 0, locals := 71 }) (va_Pc [.ref qo, .ref qb] (fun U => U.heap.size = sz ∧ va_P (dC, dI) vwCl [(qo, .inr (2, [.ref qa, .int (nI n)])), (qa, .inl (cyI, 450, .inl t)), (qb, .inr (2, [.ref qba, .int (nI m0)])), (qba, .inl (cyI, 450, .inl F0))] U.heap ∧ va_K (dC, dI) vwCl [(cyI, .int), (cyZ, .boolean)] U ∧ va_D (fun _ => True) [(qo, .inr (2, [.ref qa, .int (nI n)])), (qa, .inl (cyI, 450, .inl t)), (qb, .inr (2, [.ref qba, .int (nI m0)])), (qba, .inl (cyI, 450, .inl F0))])) (va_Qv (S := Nat × (Nat → Int32)) (fun (uU : Nat × (Nat → Int32)) => match uU with | (m1, F1) => (m1 = (zE t n).1) ∧ (∀ j, j < m1 → F1 j = (zE t n).2 j) ∧ (m1 ≤ 450)) (fun (uU : Nat × (Nat → Int32)) tS => match uU with | (m1, F1) => va_P (dC, dI) vwCl [(qo, .inr (2, [.ref qa, .int (nI n)])), (qa, .inl (cyI, 450, .inl t)), (qb, .inr (2, [.ref qba, .int (nI m1)])), (qba, .inl (cyI, 450, .inl F1))] tS.heap ∧ va_K (dC, dI) vwCl [(cyI, .int), (cyZ, .boolean)] tS ∧ va_D (va_A [(qo, .inr (2, [.ref qa, .int (nI n)])), (qa, .inl (cyI, 450, .inl t)), (qb, .inr (2, [.ref qba, .int (nI m0)])), (qba, .inl (cyI, 450, .inl F0))] sz) [(qo, .inr (2, [.ref qa, .int (nI n)])), (qa, .inl (cyI, 450, .inl t)), (qb, .inr (2, [.ref qba, .int (nI m1)])), (qba, .inl (cyI, 450, .inl F1))]) (va_A [(qo, .inr (2, [.ref qa, .int (nI n)])), (qa, .inl (cyI, 450, .inl t)), (qb, .inr (2, [.ref qba, .int (nI m0)])), (qba, .inl (cyI, 450, .inl F0))] sz)) 0 0 (va_A [(qo, .inr (2, [.ref qa, .int (nI n)])), (qa, .inl (cyI, 450, .inl t)), (qb, .inr (2, [.ref qba, .int (nI m0)])), (qba, .inl (cyI, 450, .inl F0))] sz) := by
  refine Met.ofW (cc := cX1_encode) (maxL := 9) (ret := none) (by decide) rfl ?_
  intro pz ez sS mM args below meth cC s₁ B hml hv
  obtain ⟨rfl, hsz, hP, hK, hD0⟩ := hv
  have hx := B.exec
  have hb := B.bytes
  have hr := B.returns
  have hts := atoms_spec (ws := wsX1_encode) B.pre
  have hown : sS.vm.findClass RX1 = some mM.cls := findClass_of_methodNamed B.named
  have hlocks := B.notSynchronized
  subst hsz
  have hD := hD0.self (sz := sS.heap.size)
  generalize hAe : va_A [(qo, .inr (2, [.ref qa, .int (nI n)])), (qa, .inl (cyI, 450, .inl t)), (qb, .inr (2, [.ref qba, .int (nI m0)])), (qba, .inl (cyI, 450, .inl F0))] sS.heap.size = A at hD ⊢
  have hA : ∀ q : Nat, sS.heap.size ≤ q → A q := fun q h => by rw [← hAe]; exact Or.inr h
  have hS : va_S A sS.heap sS.heap [] := va_S.rf
  have hP : va_P (dC, dI) vwCl [(qo, .inr (2, [.ref qa, .int (nI n)])), (qa, .inl (cyI, 450, .inl t)), (qb, .inr (2, [.ref qba, .int (nI m0)])), (qba, .inl (cyI, 450, .inl F0))] sS.heap := hP
  have hl := lv_entry ([.ref qo, .ref qb]) (n := 9) (Nat.le_of_ble_eq_true rfl)
  rw [lg_entry_eq]
  generalize (lg_sl ([.ref qo, .ref qb]) ++ List.replicate (9 - (lg_sl ([.ref qo, .ref qb])).length) Slot.unset).toArray = ls at hl ⊢
  have hl : lv_has ls 9 [(0, .ref qo), (1, .ref qb)] := hl
  refine lv_aload_n hx hb dX1_encode_0 rfl (lv_at hl 1 rfl) ?_
  have hPc := hP.sub (ws' := [(qb, .inr (2, [.ref qba, .int (nI m0)])), (qba, .inl (cyI, 450, .inl F0))]) [2, 3] rfl
  have hKc := hK.sub (tys' := [(cyI, .int), (cyZ, .boolean)]) [0, 1] rfl
  have hDc := hD.sub (ws' := [(qb, .inr (2, [.ref qba, .int (nI m0)])), (qba, .inl (cyI, 450, .inl F0))]) [2, 3] (by decide) rfl
  have hFc := va_free (wc := [(qb, .inr (2, [.ref qba, .int (nI m0)])), (qba, .inl (cyI, 450, .inl F0))]) hD hS hA [2, 3] rfl
  refine va_callv (va_runV (As := []) (rest := []) ⟨hx, hb, hml, hown, hts⟩ (c_X3_empty l dC dI cyI cyZ qb qba sS.heap.size F0 m0) (cwV 0 hts gX1_encode_X3_empty rfl rfl rfl (by decide +kernel) ⟨Nat.le_of_ble_eq_true rfl, Nat.le_of_ble_eq_true rfl⟩) ⟨zz_blW, va_recv hKc hPc (ci := 2) (q0 := 0) rfl rfl, fun U hU hW => ⟨rfl, by rw [hU], by rw [hU]; exact hPc, va_K.moved hW.alike hKc, hDc.weaken (fun _ _ _ _ => trivial)⟩⟩ rfl rfl hl.1 rfl (lv_room (Nat.le_of_ble_eq_true rfl)) dX1_encode_1 ⟨Nat.zero_le _, Nat.zero_le _⟩) hS (fun q _ h => hFc q h) hFc (fun uU tS H1 locs ht9 hvm9 hw9 hB9 hz1 hk1 hS => ?_)
  obtain ⟨hP1, hK1, hD1⟩ := hB9
  rw [ht9] at hP1
  have hK1 := va_K.moved hvm9.symm hK1
  obtain ⟨hP, hD⟩ := va_join (wr := [(qo, .inr (2, [.ref qa, .int (nI n)])), (qa, .inl (cyI, 450, .inl t))]) (w1 := [(qb, .inr (2, [.ref qba, .int (nI 0)])), (qba, .inl (cyI, 450, .inl F0))]) hP hD [2, 3] [0, 1] rfl rfl (by decide) (by decide) hk1 hFc hP1 hD1
  generalize H1 = H at hP hS ⊢
  have hP : va_P (dC, dI) vwCl [(qo, .inr (2, [.ref qa, .int (nI n)])), (qa, .inl (cyI, 450, .inl t)), (qb, .inr (2, [.ref qba, .int (nI 0)])), (qba, .inl (cyI, 450, .inl F0))] H := hP
  have hD : va_D A [(qo, .inr (2, [.ref qa, .int (nI n)])), (qa, .inl (cyI, 450, .inl t)), (qb, .inr (2, [.ref qba, .int (nI 0)])), (qba, .inl (cyI, 450, .inl F0))] := hD
  refine lv_iconst (v := nI 0) hx hb dX1_encode_4 (by decide) ?_
  refine lv_istore_n (lv' := [(2, .int (nI 0)), (0, .ref qo), (1, .ref qb)]) hx hb dX1_encode_5 rfl hl (by decide) rfl (fun ls hl => ?_)
  refine lv_iconst (v := nI 0) hx hb dX1_encode_6 (by decide) ?_
  refine lv_istore_n (lv' := [(3, .int (nI 0)), (2, .int (nI 0)), (0, .ref qo), (1, .ref qb)]) hx hb dX1_encode_7 rfl hl (by decide) rfl (fun ls hl => ?_)
  refine lv_iconst (v := nI 0) hx hb dX1_encode_8 (by decide) ?_
  refine lv_istore (lv' := [(4, .int (nI 0)), (3, .int (nI 0)), (2, .int (nI 0)), (0, .ref qo), (1, .ref qb)]) hx hb dX1_encode_9 hl (by decide) rfl (fun ls hl => ?_)
  refine lv_iconst (v := nI 0) hx hb dX1_encode_11 (by decide) ?_
  refine lv_istore (lv' := [(5, .int (nI 0)), (4, .int (nI 0)), (3, .int (nI 0)), (2, .int (nI 0)), (0, .ref qo), (1, .ref qb)]) hx hb dX1_encode_12 hl (by decide) rfl (fun ls hl => ?_)
  refine zz_loopW (pc := 14) (μ := fun (x : Nat × Nat × Nat × Nat × Nat × Nat × (Nat → Int32) × (Nat → Int32)) => match x with | (i, nx, m, g, k, f, o, F) => n - i) (Inv := fun (x : Nat × Nat × Nat × Nat × Nat × Nat × (Nat → Int32) × (Nat → Int32)) (H : Heap) (locs : List Loc) (ls : Array Slot) => match x with | (i, nx, m, g, k, f, o, F) => (i ≤ nx) ∧ (nx ≤ n) ∧ (n ≤ nx + f) ∧ (k ≤ nx) ∧ (m ≤ nx + (k + 7) / 8) ∧ (0 < k % 8 → g < m) ∧ (eF t n f nx m g k o = zE t n) ∧ (∀ j, j < m → F j = o j) ∧ va_P (dC, dI) vwCl [(qo, .inr (2, [.ref qa, .int (nI n)])), (qa, .inl (cyI, 450, .inl t)), (qb, .inr (2, [.ref qba, .int (nI m)])), (qba, .inl (cyI, 450, .inl F))] H ∧ va_D A [(qo, .inr (2, [.ref qa, .int (nI n)])), (qa, .inl (cyI, 450, .inl t)), (qb, .inr (2, [.ref qba, .int (nI m)])), (qba, .inl (cyI, 450, .inl F))] ∧ va_S A sS.heap H locs ∧ lv_has ls 9 [(0, .ref qo), (1, .ref qb), (2, .int (nI g)), (3, .int (nI k)), (4, .int (nI nx)), (5, .int (nI i))]) (x0 := (0, 0, 0, 0, 0, n, fun _ => nI 0, F0)) ⟨by omega, by omega, by omega, by omega, by omega, by omega, rfl, no_lt0, hP, hD, hS, lv_sub hl [4, 5, 3, 2, 1, 0] rfl⟩ ?_
  intro ⟨i, nx, m, g, k, f, o, F⟩ H locs ls hI ih14
  obtain ⟨hi1, hi2, hf, hk1, hm, hg, hE, hF, hP, hD, hS, hl⟩ := hI
  have hl : lv_has ls 9 [(0, .ref qo), (1, .ref qb), (2, .int (nI g)), (3, .int (nI k)), (4, .int (nI nx)), (5, .int (nI i))] := hl
  have hP : va_P (dC, dI) vwCl [(qo, .inr (2, [.ref qa, .int (nI n)])), (qa, .inl (cyI, 450, .inl t)), (qb, .inr (2, [.ref qba, .int (nI m)])), (qba, .inl (cyI, 450, .inl F))] H := hP
  have hD : va_D A [(qo, .inr (2, [.ref qa, .int (nI n)])), (qa, .inl (cyI, 450, .inl t)), (qb, .inr (2, [.ref qba, .int (nI m)])), (qba, .inl (cyI, 450, .inl F))] := hD
  have hi1 : i ≤ nx := hi1
  have hi2 : nx ≤ n := hi2
  have hf : n ≤ nx + f := hf
  have hk1 : k ≤ nx := hk1
  have hm : m ≤ nx + (k + 7) / 8 := hm
  have hg : 0 < k % 8 → g < m := hg
  have hE : eF t n f nx m g k o = zE t n := hE
  have hF : ∀ j, j < m → F j = o j := hF
  have hgm : 0 < k % 8 → g < 450 := fun h => by have := hg h; omega
  refine lv_iload hx hb dX1_encode_14 (lv_at hl 5 rfl) ?_
  refine lv_aload_n hx hb dX1_encode_16 rfl (lv_at hl 0 rfl) ?_
  have hPc := hP.sub (ws' := [(qo, .inr (2, [.ref qa, .int (nI n)])), (qa, .inl (cyI, 450, .inl t))]) [0, 1] rfl
  have hKc := hK.sub (tys' := [(cyI, .int), (cyZ, .boolean)]) [0, 1] rfl
  refine vp_callSi (va_Run.run (va_runV (As := []) (rest := [.int (nI i)]) ⟨hx, hb, hml, hown, hts⟩ (c_X3_size l dC dI cyI cyZ qo qa t n) (cwV 0 hts gX1_encode_X3_size rfl rfl rfl (by decide +kernel) ⟨Nat.le_of_ble_eq_true rfl, Nat.le_of_ble_eq_true rfl⟩) ⟨zz_blR, va_recv hKc hPc (ci := 2) (q0 := 0) rfl rfl, fun U hU hW => ⟨rfl, by rw [hU]; exact hPc, va_K.moved hW.alike hKc⟩⟩ rfl rfl hl.1 rfl (lv_room (Nat.le_of_ble_eq_true rfl)) dX1_encode_17 ⟨Nat.zero_le _, Nat.zero_le _⟩)) (fun r_17 hr_17 => ?_)
  have hr_17 : nI n = r_17 := Eq.symm hr_17
  subst hr_17
  refine zn_icmp_ge (tgt := 135) hx hb dX1_encode_20 (by decide) (by omega) (by omega) (fun c_20 => ?_) (fun c_20 => ?_)
  ·
    have e135 : nx = n := by omega
    have hE2 : (m, o) = zE t n := by rw [← hE]; exact (eF_end (by omega)).symm
    have hP9 := hP.sub (ws' := [(qo, .inr (2, [.ref qa, .int (nI n)])), (qa, .inl (cyI, 450, .inl t)), (qb, .inr (2, [.ref qba, .int (nI m)])), (qba, .inl (cyI, 450, .inl F))]) [0, 1, 2, 3] rfl
    have hD9 := hD.sub (ws' := [(qo, .inr (2, [.ref qa, .int (nI n)])), (qa, .inl (cyI, 450, .inl t)), (qb, .inr (2, [.ref qba, .int (nI m)])), (qba, .inl (cyI, 450, .inl F))]) [0, 1, 2, 3] (by decide) rfl
    have hK9 := hK.sub (tys' := [(cyI, .int), (cyZ, .boolean)]) [0, 1] rfl
    exact W.vret hx hb hr (fun tS ht hW => ⟨⟨(m, F), rfl, ⟨by rw [← hE2], by rw [← hE2]; exact hF, by omega⟩, by rw [ht]; exact hP9, va_K.moved hW.alike hK9, hD9⟩, hS.F ht⟩) hS.2.2 dX1_encode_135
  ·
    refine lv_iload hx hb dX1_encode_23 (lv_at hl 5 rfl) ?_
    refine lv_iload hx hb dX1_encode_25 (lv_at hl 4 rfl) ?_
    refine zn_icmp_ge (tgt := 33) hx hb dX1_encode_27 (by decide) (by omega) (by omega) (fun c_27 => ?_) (fun c_27 => ?_)
    ·
      have e27 : i = nx := by omega
      subst e27
      have hi9 : i < n := by omega
      have hz9 := zBD_le t n i
      obtain ⟨f9, e9⟩ : ∃ f9, f = f9 + 1 := ⟨f - 1, by omega⟩
      subst e9
      refine lv_iload_n hx hb dX1_encode_33 rfl (lv_at hl 3 rfl) ?_
      refine lv_bipush (v := nI 8) hx hb dX1_encode_34 (by decide) ?_
      refine lv_irem hx hb dX1_encode_36 (by decide) ?_
      refine zz_top (pk_rem (a := k) (d := 8) (by omega) (by decide) (by decide)) ?_
      refine lv_istore (lv' := [(6, .int (nI (k % 8))), (0, .ref qo), (1, .ref qb), (2, .int (nI g)), (3, .int (nI k)), (4, .int (nI i)), (5, .int (nI i))]) hx hb dX1_encode_37 hl (by decide) rfl (fun ls hl => ?_)
      refine lv_iload hx hb dX1_encode_39 (lv_at hl 0 rfl) ?_
      refine zn_if_ne (tgt := 54) hx hb dX1_encode_41 (by decide) (by omega) (fun c_41 => ?_) (fun c_41 => ?_)
      ·
        refine lv_aload_n hx hb dX1_encode_54 rfl (lv_at hl 1 rfl) ?_
        refine lv_iload hx hb dX1_encode_55 (lv_at hl 6 rfl) ?_
        have hPc := hP.sub (ws' := [(qo, .inr (2, [.ref qa, .int (nI n)])), (qa, .inl (cyI, 450, .inl t))]) [0, 1] rfl
        have hKc := hK.sub (tys' := [(cyI, .int), (cyZ, .boolean)]) [0, 1] rfl
        refine vp_callSi (va_Run.run (va_runS (As := [.ref qo, .int (nI i)]) (rest := []) ⟨hx, hb, hml, hown, hts⟩ (c_X1_bestDistance l dC dI cyI cyZ qo qa t n i (by omega) (by omega)) (va_cwS 2 hts gX1_encode_X1_bestDistance rfl rfl rfl (by decide +kernel) ⟨Nat.le_of_ble_eq_true rfl, Nat.le_of_ble_eq_true rfl⟩) ⟨zz_blR, fun U hU hW => ⟨rfl, by rw [hU]; exact hPc, va_K.moved hW.alike hKc⟩⟩ rfl rfl hl.1 rfl (lv_room (Nat.le_of_ble_eq_true rfl)) dX1_encode_57 ⟨Nat.zero_le _, Nat.zero_le _⟩)) (fun r_57 hr_57 => ?_)
        have hr_57 : nI (zBD t n i) = r_57 := Eq.symm hr_57
        subst hr_57
        refine lv_istore (lv' := [(7, .int (nI (zBD t n i))), (6, .int (nI (k % 8))), (0, .ref qo), (1, .ref qb), (2, .int (nI g)), (3, .int (nI k)), (4, .int (nI i)), (5, .int (nI i))]) hx hb dX1_encode_60 hl (by decide) rfl (fun ls hl => ?_)
        refine lv_iload hx hb dX1_encode_62 (lv_at hl 0 rfl) ?_
        refine zn_if_ne (tgt := 93) hx hb dX1_encode_64 (by decide) (by omega) (fun c_64 => ?_) (fun c_64 => ?_)
        ·
          have hb3 := zBD_pos c_64
          have eB := zBD_p hb3
          obtain ⟨z1, z2, z3, z4⟩ := zB_in t n i
          have z5 := z4 (by omega)
          obtain ⟨zc1, zc2⟩ := zcap_le n i
          refine lv_aload_n hx hb dX1_encode_93 rfl (lv_at hl 2 rfl) ?_
          refine lv_iload hx hb dX1_encode_94 (lv_at hl 7 rfl) ?_
          refine lv_iload hx hb dX1_encode_96 (lv_at hl 0 rfl) ?_
          have hPc := hP.sub (ws' := [(qo, .inr (2, [.ref qa, .int (nI n)])), (qa, .inl (cyI, 450, .inl t))]) [0, 1] rfl
          have hKc := hK.sub (tys' := [(cyI, .int), (cyZ, .boolean)]) [0, 1] rfl
          refine vp_callSi (va_Run.run (va_runS (As := [.ref qo, .int (nI i), .int (nI (zBD t n i))]) (rest := []) ⟨hx, hb, hml, hown, hts⟩ (c_X1_rowLength l dC dI cyI cyZ qo qa t n i (zBD t n i) (by omega) (by omega) (by omega) (by omega)) (va_cwS 3 hts gX1_encode_X1_rowLength rfl rfl rfl (by decide +kernel) ⟨Nat.le_of_ble_eq_true rfl, Nat.le_of_ble_eq_true rfl⟩) ⟨zz_blR, fun U hU hW => ⟨rfl, by rw [hU]; exact hPc, va_K.moved hW.alike hKc⟩⟩ rfl rfl hl.1 rfl (lv_room (Nat.le_of_ble_eq_true rfl)) dX1_encode_98 ⟨Nat.zero_le _, Nat.zero_le _⟩)) (fun r_98 hr_98 => ?_)
          have hr_98 : nI (zRun t n i (zBD t n i)) = r_98 := Eq.symm hr_98
          subst hr_98
          have eR : zRun t n i (zBD t n i) = (zB t n i).2 := by rw [eB]; exact zBst_run t n i _ (by show 0 < (zB t n i).2; omega)
          refine zz_top (congrArg nI eR) ?_
          refine lv_istore (lv' := [(8, .int (nI ((zB t n i).2))), (7, .int (nI (zBD t n i))), (6, .int (nI (k % 8))), (0, .ref qo), (1, .ref qb), (2, .int (nI g)), (3, .int (nI k)), (4, .int (nI i)), (5, .int (nI i))]) hx hb dX1_encode_101 hl (by decide) rfl (fun ls hl => ?_)
          refine lv_aload_n hx hb dX1_encode_103 rfl (lv_at hl 4 rfl) ?_
          refine lv_iload hx hb dX1_encode_104 (lv_at hl 1 rfl) ?_
          refine zz_top (congrArg nI eB) ?_
          refine lv_iconst (v := nI 1) hx hb dX1_encode_106 (by decide) ?_
          refine lv_isub hx hb dX1_encode_107 ?_
          refine zz_top (pk_sub (a := (zB t n i).1) (b := 1) (by omega)) ?_
          have hPc := hP.sub (ws' := [(qb, .inr (2, [.ref qba, .int (nI m)])), (qba, .inl (cyI, 450, .inl F))]) [2, 3] rfl
          have hKc := hK.sub (tys' := [(cyI, .int), (cyZ, .boolean)]) [0, 1] rfl
          have hDc := hD.sub (ws' := [(qb, .inr (2, [.ref qba, .int (nI m)])), (qba, .inl (cyI, 450, .inl F))]) [2, 3] (by decide) rfl
          have hFc := va_free (wc := [(qb, .inr (2, [.ref qba, .int (nI m)])), (qba, .inl (cyI, 450, .inl F))]) hD hS hA [2, 3] rfl
          refine va_callv (va_runV (As := [.int (nI (((zB t n i).1) - 1))]) (rest := []) ⟨hx, hb, hml, hown, hts⟩ (c_X3_append l dC dI cyI cyZ qb qba H.size F m (nI (((zB t n i).1) - 1)) (by omega)) (cwV 1 hts gX1_encode_X3_append rfl rfl rfl (by decide +kernel) ⟨Nat.le_of_ble_eq_true rfl, Nat.le_of_ble_eq_true rfl⟩) ⟨zz_blW, va_recv hKc hPc (ci := 2) (q0 := 0) rfl rfl, fun U hU hW => ⟨rfl, by rw [hU], by rw [hU]; exact hPc, va_K.moved hW.alike hKc, hDc.weaken (fun _ _ _ _ => trivial)⟩⟩ rfl rfl hl.1 rfl (lv_room (Nat.le_of_ble_eq_true rfl)) dX1_encode_108 ⟨Nat.zero_le _, Nat.zero_le _⟩) hS (fun q _ h => hFc q h) hFc (fun uU tS H1 locs ht9 hvm9 hw9 hB9 hz1 hk1 hS => ?_)
          obtain ⟨hP1, hK1, hD1⟩ := hB9
          rw [ht9] at hP1
          have hK1 := va_K.moved hvm9.symm hK1
          obtain ⟨hP, hD⟩ := va_join (wr := [(qo, .inr (2, [.ref qa, .int (nI n)])), (qa, .inl (cyI, 450, .inl t))]) (w1 := [(qb, .inr (2, [.ref qba, .int (nI (m + 1))])), (qba, .inl (cyI, 450, .inl (upd F m ((nI (((zB t n i).1) - 1)) &&& nI 255))))]) hP hD [2, 3] [0, 1] rfl rfl (by decide) (by decide) hk1 hFc hP1 hD1
          generalize H1 = H at hP hS ⊢
          have hP : va_P (dC, dI) vwCl [(qo, .inr (2, [.ref qa, .int (nI n)])), (qa, .inl (cyI, 450, .inl t)), (qb, .inr (2, [.ref qba, .int (nI (m + 1))])), (qba, .inl (cyI, 450, .inl (upd F m ((nI (((zB t n i).1) - 1)) &&& nI 255))))] H := hP
          have hD : va_D A [(qo, .inr (2, [.ref qa, .int (nI n)])), (qa, .inl (cyI, 450, .inl t)), (qb, .inr (2, [.ref qba, .int (nI (m + 1))])), (qba, .inl (cyI, 450, .inl (upd F m ((nI (((zB t n i).1) - 1)) &&& nI 255))))] := hD
          have eqm : (nI (((zB t n i).1) - 1)) &&& nI 255 = (nI (((zB t n i).1) - 1)) := zO_and (⟨_, by omega, rfl⟩)
          rw [eqm] at hP hD
          have hP : va_P (dC, dI) vwCl [(qo, .inr (2, [.ref qa, .int (nI n)])), (qa, .inl (cyI, 450, .inl t)), (qb, .inr (2, [.ref qba, .int (nI (m + 1))])), (qba, .inl (cyI, 450, .inl (upd F m (nI (((zB t n i).1) - 1)))))] H := hP
          have hD : va_D A [(qo, .inr (2, [.ref qa, .int (nI n)])), (qa, .inl (cyI, 450, .inl t)), (qb, .inr (2, [.ref qba, .int (nI (m + 1))])), (qba, .inl (cyI, 450, .inl (upd F m (nI (((zB t n i).1) - 1)))))] := hD
          refine lv_aload_n hx hb dX1_encode_111 rfl (lv_at hl 4 rfl) ?_
          refine lv_iload hx hb dX1_encode_112 (lv_at hl 0 rfl) ?_
          refine lv_iconst (v := nI 3) hx hb dX1_encode_114 (by decide) ?_
          refine lv_isub hx hb dX1_encode_115 ?_
          refine zz_top (pk_sub (a := (zB t n i).2) (b := 3) (by omega)) ?_
          have hPc := hP.sub (ws' := [(qb, .inr (2, [.ref qba, .int (nI (m + 1))])), (qba, .inl (cyI, 450, .inl (upd F m (nI (((zB t n i).1) - 1)))))]) [2, 3] rfl
          have hKc := hK.sub (tys' := [(cyI, .int), (cyZ, .boolean)]) [0, 1] rfl
          have hDc := hD.sub (ws' := [(qb, .inr (2, [.ref qba, .int (nI (m + 1))])), (qba, .inl (cyI, 450, .inl (upd F m (nI (((zB t n i).1) - 1)))))]) [2, 3] (by decide) rfl
          have hFc := va_free (wc := [(qb, .inr (2, [.ref qba, .int (nI (m + 1))])), (qba, .inl (cyI, 450, .inl (upd F m (nI (((zB t n i).1) - 1)))))]) hD hS hA [2, 3] rfl
          refine va_callv (va_runV (As := [.int (nI (((zB t n i).2) - 3))]) (rest := []) ⟨hx, hb, hml, hown, hts⟩ (c_X3_append l dC dI cyI cyZ qb qba H.size (upd F m (nI (((zB t n i).1) - 1))) (m + 1) (nI (((zB t n i).2) - 3)) (by omega)) (cwV 1 hts gX1_encode_X3_append rfl rfl rfl (by decide +kernel) ⟨Nat.le_of_ble_eq_true rfl, Nat.le_of_ble_eq_true rfl⟩) ⟨zz_blW, va_recv hKc hPc (ci := 2) (q0 := 0) rfl rfl, fun U hU hW => ⟨rfl, by rw [hU], by rw [hU]; exact hPc, va_K.moved hW.alike hKc, hDc.weaken (fun _ _ _ _ => trivial)⟩⟩ rfl rfl hl.1 rfl (lv_room (Nat.le_of_ble_eq_true rfl)) dX1_encode_116 ⟨Nat.zero_le _, Nat.zero_le _⟩) hS (fun q _ h => hFc q h) hFc (fun uU tS H1 locs ht9 hvm9 hw9 hB9 hz1 hk1 hS => ?_)
          obtain ⟨hP1, hK1, hD1⟩ := hB9
          rw [ht9] at hP1
          have hK1 := va_K.moved hvm9.symm hK1
          obtain ⟨hP, hD⟩ := va_join (wr := [(qo, .inr (2, [.ref qa, .int (nI n)])), (qa, .inl (cyI, 450, .inl t))]) (w1 := [(qb, .inr (2, [.ref qba, .int (nI ((m + 1) + 1))])), (qba, .inl (cyI, 450, .inl (upd (upd F m (nI (((zB t n i).1) - 1))) (m + 1) ((nI (((zB t n i).2) - 3)) &&& nI 255))))]) hP hD [2, 3] [0, 1] rfl rfl (by decide) (by decide) hk1 hFc hP1 hD1
          generalize H1 = H at hP hS ⊢
          have hP : va_P (dC, dI) vwCl [(qo, .inr (2, [.ref qa, .int (nI n)])), (qa, .inl (cyI, 450, .inl t)), (qb, .inr (2, [.ref qba, .int (nI ((m + 1) + 1))])), (qba, .inl (cyI, 450, .inl (upd (upd F m (nI (((zB t n i).1) - 1))) (m + 1) ((nI (((zB t n i).2) - 3)) &&& nI 255))))] H := hP
          have hD : va_D A [(qo, .inr (2, [.ref qa, .int (nI n)])), (qa, .inl (cyI, 450, .inl t)), (qb, .inr (2, [.ref qba, .int (nI ((m + 1) + 1))])), (qba, .inl (cyI, 450, .inl (upd (upd F m (nI (((zB t n i).1) - 1))) (m + 1) ((nI (((zB t n i).2) - 3)) &&& nI 255))))] := hD
          have eqm : (nI (((zB t n i).2) - 3)) &&& nI 255 = (nI (((zB t n i).2) - 3)) := zO_and (⟨_, by omega, rfl⟩)
          rw [eqm] at hP hD
          have hP : va_P (dC, dI) vwCl [(qo, .inr (2, [.ref qa, .int (nI n)])), (qa, .inl (cyI, 450, .inl t)), (qb, .inr (2, [.ref qba, .int (nI ((m + 1) + 1))])), (qba, .inl (cyI, 450, .inl (upd (upd F m (nI (((zB t n i).1) - 1))) (m + 1) (nI (((zB t n i).2) - 3)))))] H := hP
          have hD : va_D A [(qo, .inr (2, [.ref qa, .int (nI n)])), (qa, .inl (cyI, 450, .inl t)), (qb, .inr (2, [.ref qba, .int (nI ((m + 1) + 1))])), (qba, .inl (cyI, 450, .inl (upd (upd F m (nI (((zB t n i).1) - 1))) (m + 1) (nI (((zB t n i).2) - 3)))))] := hD
          refine lv_iload hx hb dX1_encode_119 (lv_at hl 8 rfl) ?_
          refine lv_iload hx hb dX1_encode_121 (lv_at hl 0 rfl) ?_
          refine lv_iadd hx hb dX1_encode_123 ?_
          refine zz_top (nI_add i ((zB t n i).2)) ?_
          refine lv_istore (lv' := [(4, .int (nI (i + ((zB t n i).2)))), (8, .int (nI ((zB t n i).2))), (7, .int (nI (zBD t n i))), (6, .int (nI (k % 8))), (0, .ref qo), (1, .ref qb), (2, .int (nI g)), (3, .int (nI k)), (5, .int (nI i))]) hx hb dX1_encode_124 hl (by decide) rfl (fun ls hl => ?_)
          refine lv_iinc (v := nI (k + 1)) (lv' := [(3, .int (nI (k + 1))), (4, .int (nI (i + ((zB t n i).2)))), (8, .int (nI ((zB t n i).2))), (7, .int (nI (zBD t n i))), (6, .int (nI (k % 8))), (0, .ref qo), (1, .ref qb), (2, .int (nI g)), (5, .int (nI i))]) hx hb dX1_encode_126 hl (k := 7) rfl (nI_add k 1) (by decide) rfl (fun ls hl => ?_)
          refine lv_iinc (v := nI (i + 1)) (lv' := [(5, .int (nI (i + 1))), (3, .int (nI (k + 1))), (4, .int (nI (i + ((zB t n i).2)))), (8, .int (nI ((zB t n i).2))), (7, .int (nI (zBD t n i))), (6, .int (nI (k % 8))), (0, .ref qo), (1, .ref qb), (2, .int (nI g))]) hx hb dX1_encode_129 hl (k := 8) rfl (nI_add i 1) (by decide) rfl (fun ls hl => ?_)
          refine lv_goto (tgt := 14) hx hb dX1_encode_132 (by decide) ?_
          exact ih14 (i + 1, i + ((zB t n i).2), (m + 1) + 1, g, k + 1, f9, upd (upd (o) (m) (nI ((zB t n i).1 - 1))) (m + 1) (nI ((zB t n i).2 - 3)), upd (upd F m (nI (((zB t n i).1) - 1))) (m + 1) (nI (((zB t n i).2) - 3))) _ _ _ ⟨by omega, by omega, by omega, by omega, by omega, fun _ => by omega, (eF_row1 hi9 (Nat.pos_iff_ne_zero.mp c_41) hb3).symm.trans hE, upd_new (upd_new hF rfl) rfl, hP, hD, hS, lv_sub hl [6, 7, 8, 1, 2, 0] rfl⟩ (by first | omega | (dsimp only; omega))
        ·
          refine lv_aload_n hx hb dX1_encode_67 rfl (lv_at hl 3 rfl) ?_
          refine lv_iload_n hx hb dX1_encode_68 rfl (lv_at hl 4 rfl) ?_
          refine lv_iload hx hb dX1_encode_69 (lv_at hl 1 rfl) ?_
          have hPc := hP.sub (ws' := [(qb, .inr (2, [.ref qba, .int (nI m)])), (qba, .inl (cyI, 450, .inl F))]) [2, 3] rfl
          have hKc := hK.sub (tys' := [(cyI, .int), (cyZ, .boolean)]) [0, 1] rfl
          have hDc := hD.sub (ws' := [(qb, .inr (2, [.ref qba, .int (nI m)])), (qba, .inl (cyI, 450, .inl F))]) [2, 3] (by decide) rfl
          have hFc := va_free (wc := [(qb, .inr (2, [.ref qba, .int (nI m)])), (qba, .inl (cyI, 450, .inl F))]) hD hS hA [2, 3] rfl
          refine va_callv (va_runV (As := [.int (nI g), .int (nI (k % 8))]) (rest := []) ⟨hx, hb, hml, hown, hts⟩ (c_X3_setBit l dC dI cyI cyZ qb qba H.size F m g (k % 8) (by omega) (by omega) (by omega)) (cwV 2 hts gX1_encode_X3_setBit rfl rfl rfl (by decide +kernel) ⟨Nat.le_of_ble_eq_true rfl, Nat.le_of_ble_eq_true rfl⟩) ⟨zz_blW, va_recv hKc hPc (ci := 2) (q0 := 0) rfl rfl, fun U hU hW => ⟨rfl, by rw [hU], by rw [hU]; exact hPc, va_K.moved hW.alike hKc, hDc.weaken (fun _ _ _ _ => trivial)⟩⟩ rfl rfl hl.1 rfl (lv_room (Nat.le_of_ble_eq_true rfl)) dX1_encode_71 ⟨Nat.zero_le _, Nat.zero_le _⟩) hS (fun q _ h => hFc q h) hFc (fun uU tS H1 locs ht9 hvm9 hw9 hB9 hz1 hk1 hS => ?_)
          obtain ⟨hP1, hK1, hD1⟩ := hB9
          rw [ht9] at hP1
          have hK1 := va_K.moved hvm9.symm hK1
          obtain ⟨hP, hD⟩ := va_join (wr := [(qo, .inr (2, [.ref qa, .int (nI n)])), (qa, .inl (cyI, 450, .inl t))]) (w1 := [(qb, .inr (2, [.ref qba, .int (nI m)])), (qba, .inl (cyI, 450, .inl (upd F g (F g ||| (nI 1 <<< (nI (k % 8) &&& 31))))))]) hP hD [2, 3] [0, 1] rfl rfl (by decide) (by decide) hk1 hFc hP1 hD1
          generalize H1 = H at hP hS ⊢
          have hP : va_P (dC, dI) vwCl [(qo, .inr (2, [.ref qa, .int (nI n)])), (qa, .inl (cyI, 450, .inl t)), (qb, .inr (2, [.ref qba, .int (nI m)])), (qba, .inl (cyI, 450, .inl (upd F g (F g ||| (nI 1 <<< (nI (k % 8) &&& 31))))))] H := hP
          have hD : va_D A [(qo, .inr (2, [.ref qa, .int (nI n)])), (qa, .inl (cyI, 450, .inl t)), (qb, .inr (2, [.ref qba, .int (nI m)])), (qba, .inl (cyI, 450, .inl (upd F g (F g ||| (nI 1 <<< (nI (k % 8) &&& 31))))))] := hD
          refine lv_aload_n hx hb dX1_encode_74 rfl (lv_at hl 3 rfl) ?_
          refine lv_aload_n hx hb dX1_encode_75 rfl (lv_at hl 2 rfl) ?_
          refine lv_iload hx hb dX1_encode_76 (lv_at hl 7 rfl) ?_
          have hPc := hP.sub (ws' := [(qo, .inr (2, [.ref qa, .int (nI n)])), (qa, .inl (cyI, 450, .inl t))]) [0, 1] rfl
          have hKc := hK.sub (tys' := [(cyI, .int), (cyZ, .boolean)]) [0, 1] rfl
          refine vp_callSi (va_Run.run (va_runV (As := [.int (nI i)]) (rest := [.ref qb]) ⟨hx, hb, hml, hown, hts⟩ (c_X3_at_in l dC dI cyI cyZ qo qa t n i (by omega) (by omega)) (cwV 1 hts gX1_encode_X3_at rfl rfl rfl (by decide +kernel) ⟨Nat.le_of_ble_eq_true rfl, Nat.le_of_ble_eq_true rfl⟩) ⟨zz_blR, va_recv hKc hPc (ci := 2) (q0 := 0) rfl rfl, fun U hU hW => ⟨rfl, by rw [hU]; exact hPc, va_K.moved hW.alike hKc⟩⟩ rfl rfl hl.1 rfl (lv_room (Nat.le_of_ble_eq_true rfl)) dX1_encode_78 ⟨Nat.zero_le _, Nat.zero_le _⟩)) (fun r_78 hr_78 => ?_)
          have hr_78 : t i = r_78 := Eq.symm hr_78
          subst hr_78
          have hPc := hP.sub (ws' := [(qb, .inr (2, [.ref qba, .int (nI m)])), (qba, .inl (cyI, 450, .inl (upd F g (F g ||| (nI 1 <<< (nI (k % 8) &&& 31))))))]) [2, 3] rfl
          have hKc := hK.sub (tys' := [(cyI, .int), (cyZ, .boolean)]) [0, 1] rfl
          have hDc := hD.sub (ws' := [(qb, .inr (2, [.ref qba, .int (nI m)])), (qba, .inl (cyI, 450, .inl (upd F g (F g ||| (nI 1 <<< (nI (k % 8) &&& 31))))))]) [2, 3] (by decide) rfl
          have hFc := va_free (wc := [(qb, .inr (2, [.ref qba, .int (nI m)])), (qba, .inl (cyI, 450, .inl (upd F g (F g ||| (nI 1 <<< (nI (k % 8) &&& 31))))))]) hD hS hA [2, 3] rfl
          refine va_callv (va_runV (As := [.int (t i)]) (rest := []) ⟨hx, hb, hml, hown, hts⟩ (c_X3_append l dC dI cyI cyZ qb qba H.size (upd F g (F g ||| (nI 1 <<< (nI (k % 8) &&& 31)))) m (t i) (by omega)) (cwV 1 hts gX1_encode_X3_append rfl rfl rfl (by decide +kernel) ⟨Nat.le_of_ble_eq_true rfl, Nat.le_of_ble_eq_true rfl⟩) ⟨zz_blW, va_recv hKc hPc (ci := 2) (q0 := 0) rfl rfl, fun U hU hW => ⟨rfl, by rw [hU], by rw [hU]; exact hPc, va_K.moved hW.alike hKc, hDc.weaken (fun _ _ _ _ => trivial)⟩⟩ rfl rfl hl.1 rfl (lv_room (Nat.le_of_ble_eq_true rfl)) dX1_encode_81 ⟨Nat.zero_le _, Nat.zero_le _⟩) hS (fun q _ h => hFc q h) hFc (fun uU tS H1 locs ht9 hvm9 hw9 hB9 hz1 hk1 hS => ?_)
          obtain ⟨hP1, hK1, hD1⟩ := hB9
          rw [ht9] at hP1
          have hK1 := va_K.moved hvm9.symm hK1
          obtain ⟨hP, hD⟩ := va_join (wr := [(qo, .inr (2, [.ref qa, .int (nI n)])), (qa, .inl (cyI, 450, .inl t))]) (w1 := [(qb, .inr (2, [.ref qba, .int (nI (m + 1))])), (qba, .inl (cyI, 450, .inl (upd (upd F g (F g ||| (nI 1 <<< (nI (k % 8) &&& 31)))) m ((t i) &&& nI 255))))]) hP hD [2, 3] [0, 1] rfl rfl (by decide) (by decide) hk1 hFc hP1 hD1
          generalize H1 = H at hP hS ⊢
          have hP : va_P (dC, dI) vwCl [(qo, .inr (2, [.ref qa, .int (nI n)])), (qa, .inl (cyI, 450, .inl t)), (qb, .inr (2, [.ref qba, .int (nI (m + 1))])), (qba, .inl (cyI, 450, .inl (upd (upd F g (F g ||| (nI 1 <<< (nI (k % 8) &&& 31)))) m ((t i) &&& nI 255))))] H := hP
          have hD : va_D A [(qo, .inr (2, [.ref qa, .int (nI n)])), (qa, .inl (cyI, 450, .inl t)), (qb, .inr (2, [.ref qba, .int (nI (m + 1))])), (qba, .inl (cyI, 450, .inl (upd (upd F g (F g ||| (nI 1 <<< (nI (k % 8) &&& 31)))) m ((t i) &&& nI 255))))] := hD
          have eqm : (t i) &&& nI 255 = (t i) := zO_and (ht i hi9)
          rw [eqm] at hP hD
          have hP : va_P (dC, dI) vwCl [(qo, .inr (2, [.ref qa, .int (nI n)])), (qa, .inl (cyI, 450, .inl t)), (qb, .inr (2, [.ref qba, .int (nI (m + 1))])), (qba, .inl (cyI, 450, .inl (upd (upd F g (F g ||| (nI 1 <<< (nI (k % 8) &&& 31)))) m (t i))))] H := hP
          have hD : va_D A [(qo, .inr (2, [.ref qa, .int (nI n)])), (qa, .inl (cyI, 450, .inl t)), (qb, .inr (2, [.ref qba, .int (nI (m + 1))])), (qba, .inl (cyI, 450, .inl (upd (upd F g (F g ||| (nI 1 <<< (nI (k % 8) &&& 31)))) m (t i))))] := hD
          refine lv_iload hx hb dX1_encode_84 (lv_at hl 7 rfl) ?_
          refine lv_iconst (v := nI 1) hx hb dX1_encode_86 (by decide) ?_
          refine lv_iadd hx hb dX1_encode_87 ?_
          refine zz_top (nI_add i 1) ?_
          refine lv_istore (lv' := [(4, .int (nI (i + 1))), (7, .int (nI (zBD t n i))), (6, .int (nI (k % 8))), (0, .ref qo), (1, .ref qb), (2, .int (nI g)), (3, .int (nI k)), (5, .int (nI i))]) hx hb dX1_encode_88 hl (by decide) rfl (fun ls hl => ?_)
          refine lv_goto (tgt := 126) hx hb dX1_encode_90 (by decide) ?_
          refine lv_iinc (v := nI (k + 1)) (lv' := [(3, .int (nI (k + 1))), (4, .int (nI (i + 1))), (7, .int (nI (zBD t n i))), (6, .int (nI (k % 8))), (0, .ref qo), (1, .ref qb), (2, .int (nI g)), (5, .int (nI i))]) hx hb dX1_encode_126 hl (k := 6) rfl (nI_add k 1) (by decide) rfl (fun ls hl => ?_)
          refine lv_iinc (v := nI (i + 1)) (lv' := [(5, .int (nI (i + 1))), (3, .int (nI (k + 1))), (4, .int (nI (i + 1))), (7, .int (nI (zBD t n i))), (6, .int (nI (k % 8))), (0, .ref qo), (1, .ref qb), (2, .int (nI g))]) hx hb dX1_encode_129 hl (k := 7) rfl (nI_add i 1) (by decide) rfl (fun ls hl => ?_)
          refine lv_goto (tgt := 14) hx hb dX1_encode_132 (by decide) ?_
          exact ih14 (i + 1, i + 1, m + 1, g, k + 1, f9, upd (upd (o) g ((o) g ||| (nI 1 <<< (nI (k % 8) &&& 31)))) (m) (t i), upd (upd F g (F g ||| (nI 1 <<< (nI (k % 8) &&& 31)))) m (t i)) _ _ _ ⟨by omega, by omega, by omega, by omega, by omega, fun _ => by omega, (eF_one1 hi9 (Nat.pos_iff_ne_zero.mp c_41) (zBD_0.mp c_64)).symm.trans hE, upd_new (upd_cong hF (congrArg (fun y => y ||| (nI 1 <<< (nI (k % 8) &&& 31))) (hF g (by omega)))) rfl, hP, hD, hS, lv_sub hl [5, 6, 7, 1, 2, 0] rfl⟩ (by first | omega | (dsimp only; omega))
      ·
        refine lv_aload_n hx hb dX1_encode_44 rfl (lv_at hl 2 rfl) ?_
        have hPc := hP.sub (ws' := [(qb, .inr (2, [.ref qba, .int (nI m)])), (qba, .inl (cyI, 450, .inl F))]) [2, 3] rfl
        have hKc := hK.sub (tys' := [(cyI, .int), (cyZ, .boolean)]) [0, 1] rfl
        refine vp_callSi (va_Run.run (va_runV (As := []) (rest := []) ⟨hx, hb, hml, hown, hts⟩ (c_X3_size l dC dI cyI cyZ qb qba F m) (cwV 0 hts gX1_encode_X3_size rfl rfl rfl (by decide +kernel) ⟨Nat.le_of_ble_eq_true rfl, Nat.le_of_ble_eq_true rfl⟩) ⟨zz_blR, va_recv hKc hPc (ci := 2) (q0 := 0) rfl rfl, fun U hU hW => ⟨rfl, by rw [hU]; exact hPc, va_K.moved hW.alike hKc⟩⟩ rfl rfl hl.1 rfl (lv_room (Nat.le_of_ble_eq_true rfl)) dX1_encode_45 ⟨Nat.zero_le _, Nat.zero_le _⟩)) (fun r_45 hr_45 => ?_)
        have hr_45 : nI m = r_45 := Eq.symm hr_45
        subst hr_45
        refine lv_istore_n (lv' := [(2, .int (nI m)), (6, .int (nI (k % 8))), (0, .ref qo), (1, .ref qb), (3, .int (nI k)), (4, .int (nI i)), (5, .int (nI i))]) hx hb dX1_encode_48 rfl hl (by decide) rfl (fun ls hl => ?_)
        refine lv_aload_n hx hb dX1_encode_49 rfl (lv_at hl 3 rfl) ?_
        refine lv_iconst (v := nI 0) hx hb dX1_encode_50 (by decide) ?_
        have hPc := hP.sub (ws' := [(qb, .inr (2, [.ref qba, .int (nI m)])), (qba, .inl (cyI, 450, .inl F))]) [2, 3] rfl
        have hKc := hK.sub (tys' := [(cyI, .int), (cyZ, .boolean)]) [0, 1] rfl
        have hDc := hD.sub (ws' := [(qb, .inr (2, [.ref qba, .int (nI m)])), (qba, .inl (cyI, 450, .inl F))]) [2, 3] (by decide) rfl
        have hFc := va_free (wc := [(qb, .inr (2, [.ref qba, .int (nI m)])), (qba, .inl (cyI, 450, .inl F))]) hD hS hA [2, 3] rfl
        refine va_callv (va_runV (As := [.int (nI 0)]) (rest := []) ⟨hx, hb, hml, hown, hts⟩ (c_X3_append l dC dI cyI cyZ qb qba H.size F m (nI 0) (by omega)) (cwV 1 hts gX1_encode_X3_append rfl rfl rfl (by decide +kernel) ⟨Nat.le_of_ble_eq_true rfl, Nat.le_of_ble_eq_true rfl⟩) ⟨zz_blW, va_recv hKc hPc (ci := 2) (q0 := 0) rfl rfl, fun U hU hW => ⟨rfl, by rw [hU], by rw [hU]; exact hPc, va_K.moved hW.alike hKc, hDc.weaken (fun _ _ _ _ => trivial)⟩⟩ rfl rfl hl.1 rfl (lv_room (Nat.le_of_ble_eq_true rfl)) dX1_encode_51 ⟨Nat.zero_le _, Nat.zero_le _⟩) hS (fun q _ h => hFc q h) hFc (fun uU tS H1 locs ht9 hvm9 hw9 hB9 hz1 hk1 hS => ?_)
        obtain ⟨hP1, hK1, hD1⟩ := hB9
        rw [ht9] at hP1
        have hK1 := va_K.moved hvm9.symm hK1
        obtain ⟨hP, hD⟩ := va_join (wr := [(qo, .inr (2, [.ref qa, .int (nI n)])), (qa, .inl (cyI, 450, .inl t))]) (w1 := [(qb, .inr (2, [.ref qba, .int (nI (m + 1))])), (qba, .inl (cyI, 450, .inl (upd F m ((nI 0) &&& nI 255))))]) hP hD [2, 3] [0, 1] rfl rfl (by decide) (by decide) hk1 hFc hP1 hD1
        generalize H1 = H at hP hS ⊢
        have hP : va_P (dC, dI) vwCl [(qo, .inr (2, [.ref qa, .int (nI n)])), (qa, .inl (cyI, 450, .inl t)), (qb, .inr (2, [.ref qba, .int (nI (m + 1))])), (qba, .inl (cyI, 450, .inl (upd F m ((nI 0) &&& nI 255))))] H := hP
        have hD : va_D A [(qo, .inr (2, [.ref qa, .int (nI n)])), (qa, .inl (cyI, 450, .inl t)), (qb, .inr (2, [.ref qba, .int (nI (m + 1))])), (qba, .inl (cyI, 450, .inl (upd F m ((nI 0) &&& nI 255))))] := hD
        have eqm : (nI 0) &&& nI 255 = (nI 0) := zO_and (zO_0)
        rw [eqm] at hP hD
        have hP : va_P (dC, dI) vwCl [(qo, .inr (2, [.ref qa, .int (nI n)])), (qa, .inl (cyI, 450, .inl t)), (qb, .inr (2, [.ref qba, .int (nI (m + 1))])), (qba, .inl (cyI, 450, .inl (upd F m (nI 0))))] H := hP
        have hD : va_D A [(qo, .inr (2, [.ref qa, .int (nI n)])), (qa, .inl (cyI, 450, .inl t)), (qb, .inr (2, [.ref qba, .int (nI (m + 1))])), (qba, .inl (cyI, 450, .inl (upd F m (nI 0))))] := hD
        refine lv_aload_n hx hb dX1_encode_54 rfl (lv_at hl 2 rfl) ?_
        refine lv_iload hx hb dX1_encode_55 (lv_at hl 6 rfl) ?_
        have hPc := hP.sub (ws' := [(qo, .inr (2, [.ref qa, .int (nI n)])), (qa, .inl (cyI, 450, .inl t))]) [0, 1] rfl
        have hKc := hK.sub (tys' := [(cyI, .int), (cyZ, .boolean)]) [0, 1] rfl
        refine vp_callSi (va_Run.run (va_runS (As := [.ref qo, .int (nI i)]) (rest := []) ⟨hx, hb, hml, hown, hts⟩ (c_X1_bestDistance l dC dI cyI cyZ qo qa t n i (by omega) (by omega)) (va_cwS 2 hts gX1_encode_X1_bestDistance rfl rfl rfl (by decide +kernel) ⟨Nat.le_of_ble_eq_true rfl, Nat.le_of_ble_eq_true rfl⟩) ⟨zz_blR, fun U hU hW => ⟨rfl, by rw [hU]; exact hPc, va_K.moved hW.alike hKc⟩⟩ rfl rfl hl.1 rfl (lv_room (Nat.le_of_ble_eq_true rfl)) dX1_encode_57 ⟨Nat.zero_le _, Nat.zero_le _⟩)) (fun r_57 hr_57 => ?_)
        have hr_57 : nI (zBD t n i) = r_57 := Eq.symm hr_57
        subst hr_57
        refine lv_istore (lv' := [(7, .int (nI (zBD t n i))), (2, .int (nI m)), (6, .int (nI (k % 8))), (0, .ref qo), (1, .ref qb), (3, .int (nI k)), (4, .int (nI i)), (5, .int (nI i))]) hx hb dX1_encode_60 hl (by decide) rfl (fun ls hl => ?_)
        refine lv_iload hx hb dX1_encode_62 (lv_at hl 0 rfl) ?_
        refine zn_if_ne (tgt := 93) hx hb dX1_encode_64 (by decide) (by omega) (fun c_64 => ?_) (fun c_64 => ?_)
        ·
          have hb3 := zBD_pos c_64
          have eB := zBD_p hb3
          obtain ⟨z1, z2, z3, z4⟩ := zB_in t n i
          have z5 := z4 (by omega)
          obtain ⟨zc1, zc2⟩ := zcap_le n i
          refine lv_aload_n hx hb dX1_encode_93 rfl (lv_at hl 3 rfl) ?_
          refine lv_iload hx hb dX1_encode_94 (lv_at hl 7 rfl) ?_
          refine lv_iload hx hb dX1_encode_96 (lv_at hl 0 rfl) ?_
          have hPc := hP.sub (ws' := [(qo, .inr (2, [.ref qa, .int (nI n)])), (qa, .inl (cyI, 450, .inl t))]) [0, 1] rfl
          have hKc := hK.sub (tys' := [(cyI, .int), (cyZ, .boolean)]) [0, 1] rfl
          refine vp_callSi (va_Run.run (va_runS (As := [.ref qo, .int (nI i), .int (nI (zBD t n i))]) (rest := []) ⟨hx, hb, hml, hown, hts⟩ (c_X1_rowLength l dC dI cyI cyZ qo qa t n i (zBD t n i) (by omega) (by omega) (by omega) (by omega)) (va_cwS 3 hts gX1_encode_X1_rowLength rfl rfl rfl (by decide +kernel) ⟨Nat.le_of_ble_eq_true rfl, Nat.le_of_ble_eq_true rfl⟩) ⟨zz_blR, fun U hU hW => ⟨rfl, by rw [hU]; exact hPc, va_K.moved hW.alike hKc⟩⟩ rfl rfl hl.1 rfl (lv_room (Nat.le_of_ble_eq_true rfl)) dX1_encode_98 ⟨Nat.zero_le _, Nat.zero_le _⟩)) (fun r_98 hr_98 => ?_)
          have hr_98 : nI (zRun t n i (zBD t n i)) = r_98 := Eq.symm hr_98
          subst hr_98
          have eR : zRun t n i (zBD t n i) = (zB t n i).2 := by rw [eB]; exact zBst_run t n i _ (by show 0 < (zB t n i).2; omega)
          refine zz_top (congrArg nI eR) ?_
          refine lv_istore (lv' := [(8, .int (nI ((zB t n i).2))), (7, .int (nI (zBD t n i))), (2, .int (nI m)), (6, .int (nI (k % 8))), (0, .ref qo), (1, .ref qb), (3, .int (nI k)), (4, .int (nI i)), (5, .int (nI i))]) hx hb dX1_encode_101 hl (by decide) rfl (fun ls hl => ?_)
          refine lv_aload_n hx hb dX1_encode_103 rfl (lv_at hl 5 rfl) ?_
          refine lv_iload hx hb dX1_encode_104 (lv_at hl 1 rfl) ?_
          refine zz_top (congrArg nI eB) ?_
          refine lv_iconst (v := nI 1) hx hb dX1_encode_106 (by decide) ?_
          refine lv_isub hx hb dX1_encode_107 ?_
          refine zz_top (pk_sub (a := (zB t n i).1) (b := 1) (by omega)) ?_
          have hPc := hP.sub (ws' := [(qb, .inr (2, [.ref qba, .int (nI (m + 1))])), (qba, .inl (cyI, 450, .inl (upd F m (nI 0))))]) [2, 3] rfl
          have hKc := hK.sub (tys' := [(cyI, .int), (cyZ, .boolean)]) [0, 1] rfl
          have hDc := hD.sub (ws' := [(qb, .inr (2, [.ref qba, .int (nI (m + 1))])), (qba, .inl (cyI, 450, .inl (upd F m (nI 0))))]) [2, 3] (by decide) rfl
          have hFc := va_free (wc := [(qb, .inr (2, [.ref qba, .int (nI (m + 1))])), (qba, .inl (cyI, 450, .inl (upd F m (nI 0))))]) hD hS hA [2, 3] rfl
          refine va_callv (va_runV (As := [.int (nI (((zB t n i).1) - 1))]) (rest := []) ⟨hx, hb, hml, hown, hts⟩ (c_X3_append l dC dI cyI cyZ qb qba H.size (upd F m (nI 0)) (m + 1) (nI (((zB t n i).1) - 1)) (by omega)) (cwV 1 hts gX1_encode_X3_append rfl rfl rfl (by decide +kernel) ⟨Nat.le_of_ble_eq_true rfl, Nat.le_of_ble_eq_true rfl⟩) ⟨zz_blW, va_recv hKc hPc (ci := 2) (q0 := 0) rfl rfl, fun U hU hW => ⟨rfl, by rw [hU], by rw [hU]; exact hPc, va_K.moved hW.alike hKc, hDc.weaken (fun _ _ _ _ => trivial)⟩⟩ rfl rfl hl.1 rfl (lv_room (Nat.le_of_ble_eq_true rfl)) dX1_encode_108 ⟨Nat.zero_le _, Nat.zero_le _⟩) hS (fun q _ h => hFc q h) hFc (fun uU tS H1 locs ht9 hvm9 hw9 hB9 hz1 hk1 hS => ?_)
          obtain ⟨hP1, hK1, hD1⟩ := hB9
          rw [ht9] at hP1
          have hK1 := va_K.moved hvm9.symm hK1
          obtain ⟨hP, hD⟩ := va_join (wr := [(qo, .inr (2, [.ref qa, .int (nI n)])), (qa, .inl (cyI, 450, .inl t))]) (w1 := [(qb, .inr (2, [.ref qba, .int (nI ((m + 1) + 1))])), (qba, .inl (cyI, 450, .inl (upd (upd F m (nI 0)) (m + 1) ((nI (((zB t n i).1) - 1)) &&& nI 255))))]) hP hD [2, 3] [0, 1] rfl rfl (by decide) (by decide) hk1 hFc hP1 hD1
          generalize H1 = H at hP hS ⊢
          have hP : va_P (dC, dI) vwCl [(qo, .inr (2, [.ref qa, .int (nI n)])), (qa, .inl (cyI, 450, .inl t)), (qb, .inr (2, [.ref qba, .int (nI ((m + 1) + 1))])), (qba, .inl (cyI, 450, .inl (upd (upd F m (nI 0)) (m + 1) ((nI (((zB t n i).1) - 1)) &&& nI 255))))] H := hP
          have hD : va_D A [(qo, .inr (2, [.ref qa, .int (nI n)])), (qa, .inl (cyI, 450, .inl t)), (qb, .inr (2, [.ref qba, .int (nI ((m + 1) + 1))])), (qba, .inl (cyI, 450, .inl (upd (upd F m (nI 0)) (m + 1) ((nI (((zB t n i).1) - 1)) &&& nI 255))))] := hD
          have eqm : (nI (((zB t n i).1) - 1)) &&& nI 255 = (nI (((zB t n i).1) - 1)) := zO_and (⟨_, by omega, rfl⟩)
          rw [eqm] at hP hD
          have hP : va_P (dC, dI) vwCl [(qo, .inr (2, [.ref qa, .int (nI n)])), (qa, .inl (cyI, 450, .inl t)), (qb, .inr (2, [.ref qba, .int (nI ((m + 1) + 1))])), (qba, .inl (cyI, 450, .inl (upd (upd F m (nI 0)) (m + 1) (nI (((zB t n i).1) - 1)))))] H := hP
          have hD : va_D A [(qo, .inr (2, [.ref qa, .int (nI n)])), (qa, .inl (cyI, 450, .inl t)), (qb, .inr (2, [.ref qba, .int (nI ((m + 1) + 1))])), (qba, .inl (cyI, 450, .inl (upd (upd F m (nI 0)) (m + 1) (nI (((zB t n i).1) - 1)))))] := hD
          refine lv_aload_n hx hb dX1_encode_111 rfl (lv_at hl 5 rfl) ?_
          refine lv_iload hx hb dX1_encode_112 (lv_at hl 0 rfl) ?_
          refine lv_iconst (v := nI 3) hx hb dX1_encode_114 (by decide) ?_
          refine lv_isub hx hb dX1_encode_115 ?_
          refine zz_top (pk_sub (a := (zB t n i).2) (b := 3) (by omega)) ?_
          have hPc := hP.sub (ws' := [(qb, .inr (2, [.ref qba, .int (nI ((m + 1) + 1))])), (qba, .inl (cyI, 450, .inl (upd (upd F m (nI 0)) (m + 1) (nI (((zB t n i).1) - 1)))))]) [2, 3] rfl
          have hKc := hK.sub (tys' := [(cyI, .int), (cyZ, .boolean)]) [0, 1] rfl
          have hDc := hD.sub (ws' := [(qb, .inr (2, [.ref qba, .int (nI ((m + 1) + 1))])), (qba, .inl (cyI, 450, .inl (upd (upd F m (nI 0)) (m + 1) (nI (((zB t n i).1) - 1)))))]) [2, 3] (by decide) rfl
          have hFc := va_free (wc := [(qb, .inr (2, [.ref qba, .int (nI ((m + 1) + 1))])), (qba, .inl (cyI, 450, .inl (upd (upd F m (nI 0)) (m + 1) (nI (((zB t n i).1) - 1)))))]) hD hS hA [2, 3] rfl
          refine va_callv (va_runV (As := [.int (nI (((zB t n i).2) - 3))]) (rest := []) ⟨hx, hb, hml, hown, hts⟩ (c_X3_append l dC dI cyI cyZ qb qba H.size (upd (upd F m (nI 0)) (m + 1) (nI (((zB t n i).1) - 1))) ((m + 1) + 1) (nI (((zB t n i).2) - 3)) (by omega)) (cwV 1 hts gX1_encode_X3_append rfl rfl rfl (by decide +kernel) ⟨Nat.le_of_ble_eq_true rfl, Nat.le_of_ble_eq_true rfl⟩) ⟨zz_blW, va_recv hKc hPc (ci := 2) (q0 := 0) rfl rfl, fun U hU hW => ⟨rfl, by rw [hU], by rw [hU]; exact hPc, va_K.moved hW.alike hKc, hDc.weaken (fun _ _ _ _ => trivial)⟩⟩ rfl rfl hl.1 rfl (lv_room (Nat.le_of_ble_eq_true rfl)) dX1_encode_116 ⟨Nat.zero_le _, Nat.zero_le _⟩) hS (fun q _ h => hFc q h) hFc (fun uU tS H1 locs ht9 hvm9 hw9 hB9 hz1 hk1 hS => ?_)
          obtain ⟨hP1, hK1, hD1⟩ := hB9
          rw [ht9] at hP1
          have hK1 := va_K.moved hvm9.symm hK1
          obtain ⟨hP, hD⟩ := va_join (wr := [(qo, .inr (2, [.ref qa, .int (nI n)])), (qa, .inl (cyI, 450, .inl t))]) (w1 := [(qb, .inr (2, [.ref qba, .int (nI (((m + 1) + 1) + 1))])), (qba, .inl (cyI, 450, .inl (upd (upd (upd F m (nI 0)) (m + 1) (nI (((zB t n i).1) - 1))) ((m + 1) + 1) ((nI (((zB t n i).2) - 3)) &&& nI 255))))]) hP hD [2, 3] [0, 1] rfl rfl (by decide) (by decide) hk1 hFc hP1 hD1
          generalize H1 = H at hP hS ⊢
          have hP : va_P (dC, dI) vwCl [(qo, .inr (2, [.ref qa, .int (nI n)])), (qa, .inl (cyI, 450, .inl t)), (qb, .inr (2, [.ref qba, .int (nI (((m + 1) + 1) + 1))])), (qba, .inl (cyI, 450, .inl (upd (upd (upd F m (nI 0)) (m + 1) (nI (((zB t n i).1) - 1))) ((m + 1) + 1) ((nI (((zB t n i).2) - 3)) &&& nI 255))))] H := hP
          have hD : va_D A [(qo, .inr (2, [.ref qa, .int (nI n)])), (qa, .inl (cyI, 450, .inl t)), (qb, .inr (2, [.ref qba, .int (nI (((m + 1) + 1) + 1))])), (qba, .inl (cyI, 450, .inl (upd (upd (upd F m (nI 0)) (m + 1) (nI (((zB t n i).1) - 1))) ((m + 1) + 1) ((nI (((zB t n i).2) - 3)) &&& nI 255))))] := hD
          have eqm : (nI (((zB t n i).2) - 3)) &&& nI 255 = (nI (((zB t n i).2) - 3)) := zO_and (⟨_, by omega, rfl⟩)
          rw [eqm] at hP hD
          have hP : va_P (dC, dI) vwCl [(qo, .inr (2, [.ref qa, .int (nI n)])), (qa, .inl (cyI, 450, .inl t)), (qb, .inr (2, [.ref qba, .int (nI (((m + 1) + 1) + 1))])), (qba, .inl (cyI, 450, .inl (upd (upd (upd F m (nI 0)) (m + 1) (nI (((zB t n i).1) - 1))) ((m + 1) + 1) (nI (((zB t n i).2) - 3)))))] H := hP
          have hD : va_D A [(qo, .inr (2, [.ref qa, .int (nI n)])), (qa, .inl (cyI, 450, .inl t)), (qb, .inr (2, [.ref qba, .int (nI (((m + 1) + 1) + 1))])), (qba, .inl (cyI, 450, .inl (upd (upd (upd F m (nI 0)) (m + 1) (nI (((zB t n i).1) - 1))) ((m + 1) + 1) (nI (((zB t n i).2) - 3)))))] := hD
          refine lv_iload hx hb dX1_encode_119 (lv_at hl 8 rfl) ?_
          refine lv_iload hx hb dX1_encode_121 (lv_at hl 0 rfl) ?_
          refine lv_iadd hx hb dX1_encode_123 ?_
          refine zz_top (nI_add i ((zB t n i).2)) ?_
          refine lv_istore (lv' := [(4, .int (nI (i + ((zB t n i).2)))), (8, .int (nI ((zB t n i).2))), (7, .int (nI (zBD t n i))), (2, .int (nI m)), (6, .int (nI (k % 8))), (0, .ref qo), (1, .ref qb), (3, .int (nI k)), (5, .int (nI i))]) hx hb dX1_encode_124 hl (by decide) rfl (fun ls hl => ?_)
          refine lv_iinc (v := nI (k + 1)) (lv' := [(3, .int (nI (k + 1))), (4, .int (nI (i + ((zB t n i).2)))), (8, .int (nI ((zB t n i).2))), (7, .int (nI (zBD t n i))), (2, .int (nI m)), (6, .int (nI (k % 8))), (0, .ref qo), (1, .ref qb), (5, .int (nI i))]) hx hb dX1_encode_126 hl (k := 7) rfl (nI_add k 1) (by decide) rfl (fun ls hl => ?_)
          refine lv_iinc (v := nI (i + 1)) (lv' := [(5, .int (nI (i + 1))), (3, .int (nI (k + 1))), (4, .int (nI (i + ((zB t n i).2)))), (8, .int (nI ((zB t n i).2))), (7, .int (nI (zBD t n i))), (2, .int (nI m)), (6, .int (nI (k % 8))), (0, .ref qo), (1, .ref qb)]) hx hb dX1_encode_129 hl (k := 8) rfl (nI_add i 1) (by decide) rfl (fun ls hl => ?_)
          refine lv_goto (tgt := 14) hx hb dX1_encode_132 (by decide) ?_
          exact ih14 (i + 1, i + ((zB t n i).2), ((m + 1) + 1) + 1, m, k + 1, f9, upd (upd (upd o m (nI 0)) (m + 1) (nI ((zB t n i).1 - 1))) (m + 2) (nI ((zB t n i).2 - 3)), upd (upd (upd F m (nI 0)) (m + 1) (nI (((zB t n i).1) - 1))) ((m + 1) + 1) (nI (((zB t n i).2) - 3))) _ _ _ ⟨by omega, by omega, by omega, by omega, by omega, fun _ => by omega, (eF_row0 hi9 c_41 hb3).symm.trans hE, upd_new (upd_new (upd_new hF rfl) rfl) rfl, hP, hD, hS, lv_sub hl [7, 8, 5, 1, 2, 0] rfl⟩ (by first | omega | (dsimp only; omega))
        ·
          refine lv_aload_n hx hb dX1_encode_67 rfl (lv_at hl 4 rfl) ?_
          refine lv_iload_n hx hb dX1_encode_68 rfl (lv_at hl 1 rfl) ?_
          refine lv_iload hx hb dX1_encode_69 (lv_at hl 2 rfl) ?_
          have hPc := hP.sub (ws' := [(qb, .inr (2, [.ref qba, .int (nI (m + 1))])), (qba, .inl (cyI, 450, .inl (upd F m (nI 0))))]) [2, 3] rfl
          have hKc := hK.sub (tys' := [(cyI, .int), (cyZ, .boolean)]) [0, 1] rfl
          have hDc := hD.sub (ws' := [(qb, .inr (2, [.ref qba, .int (nI (m + 1))])), (qba, .inl (cyI, 450, .inl (upd F m (nI 0))))]) [2, 3] (by decide) rfl
          have hFc := va_free (wc := [(qb, .inr (2, [.ref qba, .int (nI (m + 1))])), (qba, .inl (cyI, 450, .inl (upd F m (nI 0))))]) hD hS hA [2, 3] rfl
          refine va_callv (va_runV (As := [.int (nI m), .int (nI (k % 8))]) (rest := []) ⟨hx, hb, hml, hown, hts⟩ (c_X3_setBit l dC dI cyI cyZ qb qba H.size (upd F m (nI 0)) (m + 1) m (k % 8) (by omega) (by omega) (by omega)) (cwV 2 hts gX1_encode_X3_setBit rfl rfl rfl (by decide +kernel) ⟨Nat.le_of_ble_eq_true rfl, Nat.le_of_ble_eq_true rfl⟩) ⟨zz_blW, va_recv hKc hPc (ci := 2) (q0 := 0) rfl rfl, fun U hU hW => ⟨rfl, by rw [hU], by rw [hU]; exact hPc, va_K.moved hW.alike hKc, hDc.weaken (fun _ _ _ _ => trivial)⟩⟩ rfl rfl hl.1 rfl (lv_room (Nat.le_of_ble_eq_true rfl)) dX1_encode_71 ⟨Nat.zero_le _, Nat.zero_le _⟩) hS (fun q _ h => hFc q h) hFc (fun uU tS H1 locs ht9 hvm9 hw9 hB9 hz1 hk1 hS => ?_)
          obtain ⟨hP1, hK1, hD1⟩ := hB9
          rw [ht9] at hP1
          have hK1 := va_K.moved hvm9.symm hK1
          obtain ⟨hP, hD⟩ := va_join (wr := [(qo, .inr (2, [.ref qa, .int (nI n)])), (qa, .inl (cyI, 450, .inl t))]) (w1 := [(qb, .inr (2, [.ref qba, .int (nI (m + 1))])), (qba, .inl (cyI, 450, .inl (upd (upd F m (nI 0)) m ((upd F m (nI 0)) m ||| (nI 1 <<< (nI (k % 8) &&& 31))))))]) hP hD [2, 3] [0, 1] rfl rfl (by decide) (by decide) hk1 hFc hP1 hD1
          generalize H1 = H at hP hS ⊢
          have hP : va_P (dC, dI) vwCl [(qo, .inr (2, [.ref qa, .int (nI n)])), (qa, .inl (cyI, 450, .inl t)), (qb, .inr (2, [.ref qba, .int (nI (m + 1))])), (qba, .inl (cyI, 450, .inl (upd (upd F m (nI 0)) m ((upd F m (nI 0)) m ||| (nI 1 <<< (nI (k % 8) &&& 31))))))] H := hP
          have hD : va_D A [(qo, .inr (2, [.ref qa, .int (nI n)])), (qa, .inl (cyI, 450, .inl t)), (qb, .inr (2, [.ref qba, .int (nI (m + 1))])), (qba, .inl (cyI, 450, .inl (upd (upd F m (nI 0)) m ((upd F m (nI 0)) m ||| (nI 1 <<< (nI (k % 8) &&& 31))))))] := hD
          refine lv_aload_n hx hb dX1_encode_74 rfl (lv_at hl 4 rfl) ?_
          refine lv_aload_n hx hb dX1_encode_75 rfl (lv_at hl 3 rfl) ?_
          refine lv_iload hx hb dX1_encode_76 (lv_at hl 7 rfl) ?_
          have hPc := hP.sub (ws' := [(qo, .inr (2, [.ref qa, .int (nI n)])), (qa, .inl (cyI, 450, .inl t))]) [0, 1] rfl
          have hKc := hK.sub (tys' := [(cyI, .int), (cyZ, .boolean)]) [0, 1] rfl
          refine vp_callSi (va_Run.run (va_runV (As := [.int (nI i)]) (rest := [.ref qb]) ⟨hx, hb, hml, hown, hts⟩ (c_X3_at_in l dC dI cyI cyZ qo qa t n i (by omega) (by omega)) (cwV 1 hts gX1_encode_X3_at rfl rfl rfl (by decide +kernel) ⟨Nat.le_of_ble_eq_true rfl, Nat.le_of_ble_eq_true rfl⟩) ⟨zz_blR, va_recv hKc hPc (ci := 2) (q0 := 0) rfl rfl, fun U hU hW => ⟨rfl, by rw [hU]; exact hPc, va_K.moved hW.alike hKc⟩⟩ rfl rfl hl.1 rfl (lv_room (Nat.le_of_ble_eq_true rfl)) dX1_encode_78 ⟨Nat.zero_le _, Nat.zero_le _⟩)) (fun r_78 hr_78 => ?_)
          have hr_78 : t i = r_78 := Eq.symm hr_78
          subst hr_78
          have hPc := hP.sub (ws' := [(qb, .inr (2, [.ref qba, .int (nI (m + 1))])), (qba, .inl (cyI, 450, .inl (upd (upd F m (nI 0)) m ((upd F m (nI 0)) m ||| (nI 1 <<< (nI (k % 8) &&& 31))))))]) [2, 3] rfl
          have hKc := hK.sub (tys' := [(cyI, .int), (cyZ, .boolean)]) [0, 1] rfl
          have hDc := hD.sub (ws' := [(qb, .inr (2, [.ref qba, .int (nI (m + 1))])), (qba, .inl (cyI, 450, .inl (upd (upd F m (nI 0)) m ((upd F m (nI 0)) m ||| (nI 1 <<< (nI (k % 8) &&& 31))))))]) [2, 3] (by decide) rfl
          have hFc := va_free (wc := [(qb, .inr (2, [.ref qba, .int (nI (m + 1))])), (qba, .inl (cyI, 450, .inl (upd (upd F m (nI 0)) m ((upd F m (nI 0)) m ||| (nI 1 <<< (nI (k % 8) &&& 31))))))]) hD hS hA [2, 3] rfl
          refine va_callv (va_runV (As := [.int (t i)]) (rest := []) ⟨hx, hb, hml, hown, hts⟩ (c_X3_append l dC dI cyI cyZ qb qba H.size (upd (upd F m (nI 0)) m ((upd F m (nI 0)) m ||| (nI 1 <<< (nI (k % 8) &&& 31)))) (m + 1) (t i) (by omega)) (cwV 1 hts gX1_encode_X3_append rfl rfl rfl (by decide +kernel) ⟨Nat.le_of_ble_eq_true rfl, Nat.le_of_ble_eq_true rfl⟩) ⟨zz_blW, va_recv hKc hPc (ci := 2) (q0 := 0) rfl rfl, fun U hU hW => ⟨rfl, by rw [hU], by rw [hU]; exact hPc, va_K.moved hW.alike hKc, hDc.weaken (fun _ _ _ _ => trivial)⟩⟩ rfl rfl hl.1 rfl (lv_room (Nat.le_of_ble_eq_true rfl)) dX1_encode_81 ⟨Nat.zero_le _, Nat.zero_le _⟩) hS (fun q _ h => hFc q h) hFc (fun uU tS H1 locs ht9 hvm9 hw9 hB9 hz1 hk1 hS => ?_)
          obtain ⟨hP1, hK1, hD1⟩ := hB9
          rw [ht9] at hP1
          have hK1 := va_K.moved hvm9.symm hK1
          obtain ⟨hP, hD⟩ := va_join (wr := [(qo, .inr (2, [.ref qa, .int (nI n)])), (qa, .inl (cyI, 450, .inl t))]) (w1 := [(qb, .inr (2, [.ref qba, .int (nI ((m + 1) + 1))])), (qba, .inl (cyI, 450, .inl (upd (upd (upd F m (nI 0)) m ((upd F m (nI 0)) m ||| (nI 1 <<< (nI (k % 8) &&& 31)))) (m + 1) ((t i) &&& nI 255))))]) hP hD [2, 3] [0, 1] rfl rfl (by decide) (by decide) hk1 hFc hP1 hD1
          generalize H1 = H at hP hS ⊢
          have hP : va_P (dC, dI) vwCl [(qo, .inr (2, [.ref qa, .int (nI n)])), (qa, .inl (cyI, 450, .inl t)), (qb, .inr (2, [.ref qba, .int (nI ((m + 1) + 1))])), (qba, .inl (cyI, 450, .inl (upd (upd (upd F m (nI 0)) m ((upd F m (nI 0)) m ||| (nI 1 <<< (nI (k % 8) &&& 31)))) (m + 1) ((t i) &&& nI 255))))] H := hP
          have hD : va_D A [(qo, .inr (2, [.ref qa, .int (nI n)])), (qa, .inl (cyI, 450, .inl t)), (qb, .inr (2, [.ref qba, .int (nI ((m + 1) + 1))])), (qba, .inl (cyI, 450, .inl (upd (upd (upd F m (nI 0)) m ((upd F m (nI 0)) m ||| (nI 1 <<< (nI (k % 8) &&& 31)))) (m + 1) ((t i) &&& nI 255))))] := hD
          have eqm : (t i) &&& nI 255 = (t i) := zO_and (ht i hi9)
          rw [eqm] at hP hD
          have hP : va_P (dC, dI) vwCl [(qo, .inr (2, [.ref qa, .int (nI n)])), (qa, .inl (cyI, 450, .inl t)), (qb, .inr (2, [.ref qba, .int (nI ((m + 1) + 1))])), (qba, .inl (cyI, 450, .inl (upd (upd (upd F m (nI 0)) m ((upd F m (nI 0)) m ||| (nI 1 <<< (nI (k % 8) &&& 31)))) (m + 1) (t i))))] H := hP
          have hD : va_D A [(qo, .inr (2, [.ref qa, .int (nI n)])), (qa, .inl (cyI, 450, .inl t)), (qb, .inr (2, [.ref qba, .int (nI ((m + 1) + 1))])), (qba, .inl (cyI, 450, .inl (upd (upd (upd F m (nI 0)) m ((upd F m (nI 0)) m ||| (nI 1 <<< (nI (k % 8) &&& 31)))) (m + 1) (t i))))] := hD
          refine lv_iload hx hb dX1_encode_84 (lv_at hl 7 rfl) ?_
          refine lv_iconst (v := nI 1) hx hb dX1_encode_86 (by decide) ?_
          refine lv_iadd hx hb dX1_encode_87 ?_
          refine zz_top (nI_add i 1) ?_
          refine lv_istore (lv' := [(4, .int (nI (i + 1))), (7, .int (nI (zBD t n i))), (2, .int (nI m)), (6, .int (nI (k % 8))), (0, .ref qo), (1, .ref qb), (3, .int (nI k)), (5, .int (nI i))]) hx hb dX1_encode_88 hl (by decide) rfl (fun ls hl => ?_)
          refine lv_goto (tgt := 126) hx hb dX1_encode_90 (by decide) ?_
          refine lv_iinc (v := nI (k + 1)) (lv' := [(3, .int (nI (k + 1))), (4, .int (nI (i + 1))), (7, .int (nI (zBD t n i))), (2, .int (nI m)), (6, .int (nI (k % 8))), (0, .ref qo), (1, .ref qb), (5, .int (nI i))]) hx hb dX1_encode_126 hl (k := 6) rfl (nI_add k 1) (by decide) rfl (fun ls hl => ?_)
          refine lv_iinc (v := nI (i + 1)) (lv' := [(5, .int (nI (i + 1))), (3, .int (nI (k + 1))), (4, .int (nI (i + 1))), (7, .int (nI (zBD t n i))), (2, .int (nI m)), (6, .int (nI (k % 8))), (0, .ref qo), (1, .ref qb)]) hx hb dX1_encode_129 hl (k := 7) rfl (nI_add i 1) (by decide) rfl (fun ls hl => ?_)
          refine lv_goto (tgt := 14) hx hb dX1_encode_132 (by decide) ?_
          exact ih14 (i + 1, i + 1, (m + 1) + 1, m, k + 1, f9, upd (upd (upd o m (nI 0)) m ((upd o m (nI 0)) m ||| (nI 1 <<< (nI (k % 8) &&& 31)))) (m + 1) (t i), upd (upd (upd F m (nI 0)) m ((upd F m (nI 0)) m ||| (nI 1 <<< (nI (k % 8) &&& 31)))) (m + 1) (t i)) _ _ _ ⟨by omega, by omega, by omega, by omega, by omega, fun _ => by omega, (eF_one0 hi9 c_41 (zBD_0.mp c_64)).symm.trans hE, upd_new (upd_cong (upd_new hF rfl) (congrArg (fun y => y ||| (nI 1 <<< (nI (k % 8) &&& 31))) ((upd_new hF rfl) m (by omega)))) rfl, hP, hD, hS, lv_sub hl [6, 7, 4, 1, 2, 0] rfl⟩ (by first | omega | (dsimp only; omega))
    ·
      refine lv_goto (tgt := 129) hx hb dX1_encode_30 (by decide) ?_
      refine lv_iinc (v := nI (i + 1)) (lv' := [(5, .int (nI (i + 1))), (0, .ref qo), (1, .ref qb), (2, .int (nI g)), (3, .int (nI k)), (4, .int (nI nx))]) hx hb dX1_encode_129 hl (k := 5) rfl (nI_add i 1) (by decide) rfl (fun ls hl => ?_)
      refine lv_goto (tgt := 14) hx hb dX1_encode_132 (by decide) ?_
      exact ih14 (i + 1, nx, m, g, k, f, o, F) _ _ _ ⟨by omega, by omega, by omega, by omega, by omega, hg, hE, hF, hP, hD, hS, lv_sub hl [1, 2, 3, 4, 5, 0] rfl⟩ (by first | omega | (dsimp only; omega))
set_option maxHeartbeats 4000000 in
set_option maxRecDepth 100000 in
theorem c_X1_single_bad (l : Launch) (dC : Nat → ClassId) (dI : Nat → Nat → Nat) (cyI cyZ : ClassId) (qo qa qb qba : Nat) (t : Nat → Int32) (n : Nat) (F : Nat → Int32) (m i : Nat) (hn : n ≤ 450) (hi : i < n) (hm : m ≤ 400) (hz : 400 < m + 1) : Met l yX1_decodeSingle wsX1_decodeSingle ({ frames := 1, cells := 0, slots := 0, locals := 21 }) (va_Pc [.ref qo, .int (nI i), .ref qb] (fun U => va_P (dC, dI) vwCl [(qo, .inr (2, [.ref qa, .int (nI n)])), (qa, .inl (cyI, 450, .inl t)), (qb, .inr (2, [.ref qba, .int (nI m)])), (qba, .inl (cyI, 450, .inl F))] U.heap ∧ va_K (dC, dI) vwCl [(cyI, .int), (cyZ, .boolean)] U)) (vp_Si (fun r => r = nI i)) 0 0 (fun _ => False) := by
  refine Met.ofW (cc := cX1_decodeSingle) (maxL := 3) (ret := (some .int)) (by decide) rfl ?_
  intro pz ez sS mM args below meth cC s₁ B hml hv
  obtain ⟨rfl, hP, hK⟩ := hv
  have hx := B.exec
  have hb := B.bytes
  have hr := B.returns
  have hts := atoms_spec (ws := wsX1_decodeSingle) B.pre
  have hown : sS.vm.findClass RX1 = some mM.cls := findClass_of_methodNamed B.named
  have hlocks := B.notSynchronized
  have hl := lv_entry ([.ref qo, .int (nI i), .ref qb]) (n := 3) (Nat.le_of_ble_eq_true rfl)
  rw [lg_entry_eq]
  generalize (lg_sl ([.ref qo, .int (nI i), .ref qb]) ++ List.replicate (3 - (lg_sl ([.ref qo, .int (nI i), .ref qb])).length) Slot.unset).toArray = ls at hl ⊢
  have hl : lv_has ls 3 [(0, .ref qo), (1, .int (nI i)), (2, .ref qb)] := hl
  refine lv_aload_n hx hb dX1_decodeSingle_0 rfl (lv_at hl 2 rfl) ?_
  have hPc := hP.sub (ws' := [(qb, .inr (2, [.ref qba, .int (nI m)])), (qba, .inl (cyI, 450, .inl F))]) [2, 3] rfl
  have hKc := hK.sub (tys' := [(cyI, .int), (cyZ, .boolean)]) [0, 1] rfl
  refine vp_callSi (va_Run.run (va_runV (As := []) (rest := []) ⟨hx, hb, hml, hown, hts⟩ (c_X3_size l dC dI cyI cyZ qb qba F m) (cwV 0 hts gX1_decodeSingle_X3_size rfl rfl rfl (by decide +kernel) ⟨Nat.le_of_ble_eq_true rfl, Nat.le_of_ble_eq_true rfl⟩) ⟨zz_blR, va_recv hKc hPc (ci := 2) (q0 := 0) rfl rfl, fun U hU hW => ⟨rfl, by rw [hU]; exact hPc, va_K.moved hW.alike hKc⟩⟩ rfl rfl hl.1 rfl (lv_room (Nat.le_of_ble_eq_true rfl)) dX1_decodeSingle_1 ⟨Nat.zero_le _, Nat.zero_le _⟩)) (fun r_1 hr_1 => ?_)
  have hr_1 : nI m = r_1 := Eq.symm hr_1
  subst hr_1
  refine lv_iconst (v := nI 1) hx hb dX1_decodeSingle_4 (by decide) ?_
  refine lv_iadd hx hb dX1_decodeSingle_5 ?_
  refine zz_top (nI_add m 1) ?_
  refine lv_sipush (v := nI 400) hx hb dX1_decodeSingle_6 (by decide) ?_
  refine zn_icmp_le (tgt := 14) hx hb dX1_decodeSingle_9 (by decide) (by omega) (by omega) (fun c_9 => ?_) (fun c_9 => ?_)
  ·
    exfalso
    omega
  ·
    refine lv_iload_n hx hb dX1_decodeSingle_12 rfl (lv_at hl 1 rfl) ?_
    have hret : nI i = nI i := rfl
    refine zz_top hret ?_
    exact W.iret hx hb hr (fun tS ht hW => ⟨_, rfl, rfl, ht⟩) (fun _ h => nomatch h) dX1_decodeSingle_13
set_option maxHeartbeats 4000000 in
set_option maxRecDepth 100000 in
theorem c_X1_single_ok (l : Launch) (dC : Nat → ClassId) (dI : Nat → Nat → Nat) (cyI cyZ : ClassId) (qo qa qb qba : Nat) (sz : Nat) (t : Nat → Int32) (n : Nat) (F : Nat → Int32) (m i : Nat) (hn : n ≤ 450) (hi : i < n) (hz : ¬ 400 < m + 1) (ht : ∀ j, j < n → zO (t j)) : Met l yX1_decodeSingle wsX1_decodeSingle ({ frames := 1, cells := 0, slots := 0, locals := 21 }) (va_Pc [.ref qo, .int (nI i), .ref qb] (fun U => U.heap.size = sz ∧ va_P (dC, dI) vwCl [(qo, .inr (2, [.ref qa, .int (nI n)])), (qa, .inl (cyI, 450, .inl t)), (qb, .inr (2, [.ref qba, .int (nI m)])), (qba, .inl (cyI, 450, .inl F))] U.heap ∧ va_K (dC, dI) vwCl [(cyI, .int), (cyZ, .boolean)] U ∧ va_D (fun _ => True) [(qo, .inr (2, [.ref qa, .int (nI n)])), (qa, .inl (cyI, 450, .inl t)), (qb, .inr (2, [.ref qba, .int (nI m)])), (qba, .inl (cyI, 450, .inl F))])) (va_Qi (S := Unit) (fun (r : Int32) (_ : Unit) => r = (-1)) (fun (_ : Unit) tS => va_P (dC, dI) vwCl [(qo, .inr (2, [.ref qa, .int (nI n)])), (qa, .inl (cyI, 450, .inl t)), (qb, .inr (2, [.ref qba, .int (nI (m + 1))])), (qba, .inl (cyI, 450, .inl (upd F m (t i))))] tS.heap ∧ va_K (dC, dI) vwCl [(cyI, .int), (cyZ, .boolean)] tS ∧ va_D (va_A [(qo, .inr (2, [.ref qa, .int (nI n)])), (qa, .inl (cyI, 450, .inl t)), (qb, .inr (2, [.ref qba, .int (nI m)])), (qba, .inl (cyI, 450, .inl F))] sz) [(qo, .inr (2, [.ref qa, .int (nI n)])), (qa, .inl (cyI, 450, .inl t)), (qb, .inr (2, [.ref qba, .int (nI (m + 1))])), (qba, .inl (cyI, 450, .inl (upd F m (t i))))]) (va_A [(qo, .inr (2, [.ref qa, .int (nI n)])), (qa, .inl (cyI, 450, .inl t)), (qb, .inr (2, [.ref qba, .int (nI m)])), (qba, .inl (cyI, 450, .inl F))] sz)) 0 0 (va_A [(qo, .inr (2, [.ref qa, .int (nI n)])), (qa, .inl (cyI, 450, .inl t)), (qb, .inr (2, [.ref qba, .int (nI m)])), (qba, .inl (cyI, 450, .inl F))] sz) := by
  refine Met.ofW (cc := cX1_decodeSingle) (maxL := 3) (ret := (some .int)) (by decide) rfl ?_
  intro pz ez sS mM args below meth cC s₁ B hml hv
  obtain ⟨rfl, hsz, hP, hK, hD0⟩ := hv
  have hx := B.exec
  have hb := B.bytes
  have hr := B.returns
  have hts := atoms_spec (ws := wsX1_decodeSingle) B.pre
  have hown : sS.vm.findClass RX1 = some mM.cls := findClass_of_methodNamed B.named
  have hlocks := B.notSynchronized
  subst hsz
  have hD := hD0.self (sz := sS.heap.size)
  generalize hAe : va_A [(qo, .inr (2, [.ref qa, .int (nI n)])), (qa, .inl (cyI, 450, .inl t)), (qb, .inr (2, [.ref qba, .int (nI m)])), (qba, .inl (cyI, 450, .inl F))] sS.heap.size = A at hD ⊢
  have hA : ∀ q : Nat, sS.heap.size ≤ q → A q := fun q h => by rw [← hAe]; exact Or.inr h
  have hS : va_S A sS.heap sS.heap [] := va_S.rf
  have hP : va_P (dC, dI) vwCl [(qo, .inr (2, [.ref qa, .int (nI n)])), (qa, .inl (cyI, 450, .inl t)), (qb, .inr (2, [.ref qba, .int (nI m)])), (qba, .inl (cyI, 450, .inl F))] sS.heap := hP
  have hl := lv_entry ([.ref qo, .int (nI i), .ref qb]) (n := 3) (Nat.le_of_ble_eq_true rfl)
  rw [lg_entry_eq]
  generalize (lg_sl ([.ref qo, .int (nI i), .ref qb]) ++ List.replicate (3 - (lg_sl ([.ref qo, .int (nI i), .ref qb])).length) Slot.unset).toArray = ls at hl ⊢
  have hl : lv_has ls 3 [(0, .ref qo), (1, .int (nI i)), (2, .ref qb)] := hl
  refine lv_aload_n hx hb dX1_decodeSingle_0 rfl (lv_at hl 2 rfl) ?_
  have hPc := hP.sub (ws' := [(qb, .inr (2, [.ref qba, .int (nI m)])), (qba, .inl (cyI, 450, .inl F))]) [2, 3] rfl
  have hKc := hK.sub (tys' := [(cyI, .int), (cyZ, .boolean)]) [0, 1] rfl
  refine vp_callSi (va_Run.run (va_runV (As := []) (rest := []) ⟨hx, hb, hml, hown, hts⟩ (c_X3_size l dC dI cyI cyZ qb qba F m) (cwV 0 hts gX1_decodeSingle_X3_size rfl rfl rfl (by decide +kernel) ⟨Nat.le_of_ble_eq_true rfl, Nat.le_of_ble_eq_true rfl⟩) ⟨zz_blR, va_recv hKc hPc (ci := 2) (q0 := 0) rfl rfl, fun U hU hW => ⟨rfl, by rw [hU]; exact hPc, va_K.moved hW.alike hKc⟩⟩ rfl rfl hl.1 rfl (lv_room (Nat.le_of_ble_eq_true rfl)) dX1_decodeSingle_1 ⟨Nat.zero_le _, Nat.zero_le _⟩)) (fun r_1 hr_1 => ?_)
  have hr_1 : nI m = r_1 := Eq.symm hr_1
  subst hr_1
  refine lv_iconst (v := nI 1) hx hb dX1_decodeSingle_4 (by decide) ?_
  refine lv_iadd hx hb dX1_decodeSingle_5 ?_
  refine zz_top (nI_add m 1) ?_
  refine lv_sipush (v := nI 400) hx hb dX1_decodeSingle_6 (by decide) ?_
  refine zn_icmp_le (tgt := 14) hx hb dX1_decodeSingle_9 (by decide) (by omega) (by omega) (fun c_9 => ?_) (fun c_9 => ?_)
  ·
    refine lv_aload_n hx hb dX1_decodeSingle_14 rfl (lv_at hl 2 rfl) ?_
    refine lv_aload_n hx hb dX1_decodeSingle_15 rfl (lv_at hl 0 rfl) ?_
    refine lv_iload_n hx hb dX1_decodeSingle_16 rfl (lv_at hl 1 rfl) ?_
    have hPc := hP.sub (ws' := [(qo, .inr (2, [.ref qa, .int (nI n)])), (qa, .inl (cyI, 450, .inl t))]) [0, 1] rfl
    have hKc := hK.sub (tys' := [(cyI, .int), (cyZ, .boolean)]) [0, 1] rfl
    refine vp_callSi (va_Run.run (va_runV (As := [.int (nI i)]) (rest := [.ref qb]) ⟨hx, hb, hml, hown, hts⟩ (c_X3_at_in l dC dI cyI cyZ qo qa t n i (by omega) (by omega)) (cwV 1 hts gX1_decodeSingle_X3_at rfl rfl rfl (by decide +kernel) ⟨Nat.le_of_ble_eq_true rfl, Nat.le_of_ble_eq_true rfl⟩) ⟨zz_blR, va_recv hKc hPc (ci := 2) (q0 := 0) rfl rfl, fun U hU hW => ⟨rfl, by rw [hU]; exact hPc, va_K.moved hW.alike hKc⟩⟩ rfl rfl hl.1 rfl (lv_room (Nat.le_of_ble_eq_true rfl)) dX1_decodeSingle_17 ⟨Nat.zero_le _, Nat.zero_le _⟩)) (fun r_17 hr_17 => ?_)
    have hr_17 : t i = r_17 := Eq.symm hr_17
    subst hr_17
    have hPc := hP.sub (ws' := [(qb, .inr (2, [.ref qba, .int (nI m)])), (qba, .inl (cyI, 450, .inl F))]) [2, 3] rfl
    have hKc := hK.sub (tys' := [(cyI, .int), (cyZ, .boolean)]) [0, 1] rfl
    have hDc := hD.sub (ws' := [(qb, .inr (2, [.ref qba, .int (nI m)])), (qba, .inl (cyI, 450, .inl F))]) [2, 3] (by decide) rfl
    have hFc := va_free (wc := [(qb, .inr (2, [.ref qba, .int (nI m)])), (qba, .inl (cyI, 450, .inl F))]) hD hS hA [2, 3] rfl
    refine va_callv (va_runV (As := [.int (t i)]) (rest := []) ⟨hx, hb, hml, hown, hts⟩ (c_X3_append l dC dI cyI cyZ qb qba sS.heap.size F m (t i) (by omega)) (cwV 1 hts gX1_decodeSingle_X3_append rfl rfl rfl (by decide +kernel) ⟨Nat.le_of_ble_eq_true rfl, Nat.le_of_ble_eq_true rfl⟩) ⟨zz_blW, va_recv hKc hPc (ci := 2) (q0 := 0) rfl rfl, fun U hU hW => ⟨rfl, by rw [hU], by rw [hU]; exact hPc, va_K.moved hW.alike hKc, hDc.weaken (fun _ _ _ _ => trivial)⟩⟩ rfl rfl hl.1 rfl (lv_room (Nat.le_of_ble_eq_true rfl)) dX1_decodeSingle_20 ⟨Nat.zero_le _, Nat.zero_le _⟩) hS (fun q _ h => hFc q h) hFc (fun uU tS H1 locs ht9 hvm9 hw9 hB9 hz1 hk1 hS => ?_)
    obtain ⟨hP1, hK1, hD1⟩ := hB9
    rw [ht9] at hP1
    have hK1 := va_K.moved hvm9.symm hK1
    obtain ⟨hP, hD⟩ := va_join (wr := [(qo, .inr (2, [.ref qa, .int (nI n)])), (qa, .inl (cyI, 450, .inl t))]) (w1 := [(qb, .inr (2, [.ref qba, .int (nI (m + 1))])), (qba, .inl (cyI, 450, .inl (upd F m ((t i) &&& nI 255))))]) hP hD [2, 3] [0, 1] rfl rfl (by decide) (by decide) hk1 hFc hP1 hD1
    generalize H1 = H at hP hS ⊢
    have hP : va_P (dC, dI) vwCl [(qo, .inr (2, [.ref qa, .int (nI n)])), (qa, .inl (cyI, 450, .inl t)), (qb, .inr (2, [.ref qba, .int (nI (m + 1))])), (qba, .inl (cyI, 450, .inl (upd F m ((t i) &&& nI 255))))] H := hP
    have hD : va_D A [(qo, .inr (2, [.ref qa, .int (nI n)])), (qa, .inl (cyI, 450, .inl t)), (qb, .inr (2, [.ref qba, .int (nI (m + 1))])), (qba, .inl (cyI, 450, .inl (upd F m ((t i) &&& nI 255))))] := hD
    have eqm : (t i) &&& nI 255 = (t i) := zO_and (ht i hi)
    rw [eqm] at hP hD
    have hP : va_P (dC, dI) vwCl [(qo, .inr (2, [.ref qa, .int (nI n)])), (qa, .inl (cyI, 450, .inl t)), (qb, .inr (2, [.ref qba, .int (nI (m + 1))])), (qba, .inl (cyI, 450, .inl (upd F m (t i))))] H := hP
    have hD : va_D A [(qo, .inr (2, [.ref qa, .int (nI n)])), (qa, .inl (cyI, 450, .inl t)), (qb, .inr (2, [.ref qba, .int (nI (m + 1))])), (qba, .inl (cyI, 450, .inl (upd F m (t i))))] := hD
    refine lv_iconst (v := (-1)) hx hb dX1_decodeSingle_23 (by decide) ?_
    have hP9 := hP.sub (ws' := [(qo, .inr (2, [.ref qa, .int (nI n)])), (qa, .inl (cyI, 450, .inl t)), (qb, .inr (2, [.ref qba, .int (nI (m + 1))])), (qba, .inl (cyI, 450, .inl (upd F m (t i))))]) [0, 1, 2, 3] rfl
    have hD9 := hD.sub (ws' := [(qo, .inr (2, [.ref qa, .int (nI n)])), (qa, .inl (cyI, 450, .inl t)), (qb, .inr (2, [.ref qba, .int (nI (m + 1))])), (qba, .inl (cyI, 450, .inl (upd F m (t i))))]) [0, 1, 2, 3] (by decide) rfl
    have hK9 := hK.sub (tys' := [(cyI, .int), (cyZ, .boolean)]) [0, 1] rfl
    exact W.iret hx hb hr (fun tS ht hW => ⟨⟨_, (), rfl, rfl, by rw [ht]; exact hP9, va_K.moved hW.alike hK9, hD9⟩, hS.F ht⟩) hS.2.2 dX1_decodeSingle_24
  ·
    exfalso
    omega
set_option maxHeartbeats 4000000 in
set_option maxRecDepth 100000 in
theorem c_X1_row_half (l : Launch) (dC : Nat → ClassId) (dI : Nat → Nat → Nat) (cyI cyZ : ClassId) (qo qa qb qba : Nat) (t : Nat → Int32) (n : Nat) (F : Nat → Int32) (m i : Nat) (hn : n ≤ 450) (hi : i < n) (hz : n ≤ i + 1) : Met l yX1_decodeRow wsX1_decodeRow ({ frames := 2, cells := 0, slots := 0, locals := 44 }) (va_Pc [.ref qo, .int (nI i), .ref qb] (fun U => va_P (dC, dI) vwCl [(qo, .inr (2, [.ref qa, .int (nI n)])), (qa, .inl (cyI, 450, .inl t)), (qb, .inr (2, [.ref qba, .int (nI m)])), (qba, .inl (cyI, 450, .inl F))] U.heap ∧ va_K (dC, dI) vwCl [(cyI, .int), (cyZ, .boolean)] U)) (vp_Si (fun r => r = nI n)) 0 0 (fun _ => False) := by
  refine Met.ofW (cc := cX1_decodeRow) (maxL := 5) (ret := (some .int)) (by decide) rfl ?_
  intro pz ez sS mM args below meth cC s₁ B hml hv
  obtain ⟨rfl, hP, hK⟩ := hv
  have hx := B.exec
  have hb := B.bytes
  have hr := B.returns
  have hts := atoms_spec (ws := wsX1_decodeRow) B.pre
  have hown : sS.vm.findClass RX1 = some mM.cls := findClass_of_methodNamed B.named
  have hlocks := B.notSynchronized
  have hl := lv_entry ([.ref qo, .int (nI i), .ref qb]) (n := 5) (Nat.le_of_ble_eq_true rfl)
  rw [lg_entry_eq]
  generalize (lg_sl ([.ref qo, .int (nI i), .ref qb]) ++ List.replicate (5 - (lg_sl ([.ref qo, .int (nI i), .ref qb])).length) Slot.unset).toArray = ls at hl ⊢
  have hl : lv_has ls 5 [(0, .ref qo), (1, .int (nI i)), (2, .ref qb)] := hl
  refine lv_iload_n hx hb dX1_decodeRow_0 rfl (lv_at hl 1 rfl) ?_
  refine lv_iconst (v := nI 1) hx hb dX1_decodeRow_1 (by decide) ?_
  refine lv_iadd hx hb dX1_decodeRow_2 ?_
  refine zz_top (nI_add i 1) ?_
  refine lv_aload_n hx hb dX1_decodeRow_3 rfl (lv_at hl 0 rfl) ?_
  have hPc := hP.sub (ws' := [(qo, .inr (2, [.ref qa, .int (nI n)])), (qa, .inl (cyI, 450, .inl t))]) [0, 1] rfl
  have hKc := hK.sub (tys' := [(cyI, .int), (cyZ, .boolean)]) [0, 1] rfl
  refine vp_callSi (va_Run.run (va_runV (As := []) (rest := [.int (nI (i + 1))]) ⟨hx, hb, hml, hown, hts⟩ (c_X3_size l dC dI cyI cyZ qo qa t n) (cwV 0 hts gX1_decodeRow_X3_size rfl rfl rfl (by decide +kernel) ⟨Nat.le_of_ble_eq_true rfl, Nat.le_of_ble_eq_true rfl⟩) ⟨zz_blR, va_recv hKc hPc (ci := 2) (q0 := 0) rfl rfl, fun U hU hW => ⟨rfl, by rw [hU]; exact hPc, va_K.moved hW.alike hKc⟩⟩ rfl rfl hl.1 rfl (lv_room (Nat.le_of_ble_eq_true rfl)) dX1_decodeRow_4 ⟨Nat.zero_le _, Nat.zero_le _⟩)) (fun r_4 hr_4 => ?_)
  have hr_4 : nI n = r_4 := Eq.symm hr_4
  subst hr_4
  refine zn_icmp_lt (tgt := 15) hx hb dX1_decodeRow_7 (by decide) (by omega) (by omega) (fun c_7 => ?_) (fun c_7 => ?_)
  ·
    exfalso
    omega
  ·
    refine lv_aload_n hx hb dX1_decodeRow_10 rfl (lv_at hl 0 rfl) ?_
    have hPc := hP.sub (ws' := [(qo, .inr (2, [.ref qa, .int (nI n)])), (qa, .inl (cyI, 450, .inl t))]) [0, 1] rfl
    have hKc := hK.sub (tys' := [(cyI, .int), (cyZ, .boolean)]) [0, 1] rfl
    refine vp_callSi (va_Run.run (va_runV (As := []) (rest := []) ⟨hx, hb, hml, hown, hts⟩ (c_X3_size l dC dI cyI cyZ qo qa t n) (cwV 0 hts gX1_decodeRow_X3_size rfl rfl rfl (by decide +kernel) ⟨Nat.le_of_ble_eq_true rfl, Nat.le_of_ble_eq_true rfl⟩) ⟨zz_blR, va_recv hKc hPc (ci := 2) (q0 := 0) rfl rfl, fun U hU hW => ⟨rfl, by rw [hU]; exact hPc, va_K.moved hW.alike hKc⟩⟩ rfl rfl hl.1 rfl (lv_room (Nat.le_of_ble_eq_true rfl)) dX1_decodeRow_11 ⟨Nat.zero_le _, Nat.zero_le _⟩)) (fun r_11 hr_11 => ?_)
    have hr_11 : nI n = r_11 := Eq.symm hr_11
    subst hr_11
    have hret : nI n = nI n := rfl
    refine zz_top hret ?_
    exact W.iret hx hb hr (fun tS ht hW => ⟨_, rfl, rfl, ht⟩) (fun _ h => nomatch h) dX1_decodeRow_14
set_option maxHeartbeats 4000000 in
set_option maxRecDepth 100000 in
theorem c_X1_row_bad (l : Launch) (dC : Nat → ClassId) (dI : Nat → Nat → Nat) (cyI cyZ : ClassId) (qo qa qb qba : Nat) (t : Nat → Int32) (n : Nat) (F : Nat → Int32) (m i : Nat) (hn : n ≤ 450) (hi : i < n) (hm : m ≤ 400) (hz : ¬ n ≤ i + 1) (hz2 : m < vN (t i) + 1 ∨ 400 < m + (vN (t (i + 1)) + 3)) (ht : ∀ j, j < n → zO (t j)) : Met l yX1_decodeRow wsX1_decodeRow ({ frames := 2, cells := 0, slots := 0, locals := 44 }) (va_Pc [.ref qo, .int (nI i), .ref qb] (fun U => va_P (dC, dI) vwCl [(qo, .inr (2, [.ref qa, .int (nI n)])), (qa, .inl (cyI, 450, .inl t)), (qb, .inr (2, [.ref qba, .int (nI m)])), (qba, .inl (cyI, 450, .inl F))] U.heap ∧ va_K (dC, dI) vwCl [(cyI, .int), (cyZ, .boolean)] U)) (vp_Si (fun r => r = nI i)) 0 0 (fun _ => False) := by
  refine Met.ofW (cc := cX1_decodeRow) (maxL := 5) (ret := (some .int)) (by decide) rfl ?_
  intro pz ez sS mM args below meth cC s₁ B hml hv
  obtain ⟨rfl, hP, hK⟩ := hv
  have hx := B.exec
  have hb := B.bytes
  have hr := B.returns
  have hts := atoms_spec (ws := wsX1_decodeRow) B.pre
  have hown : sS.vm.findClass RX1 = some mM.cls := findClass_of_methodNamed B.named
  have hlocks := B.notSynchronized
  have hl := lv_entry ([.ref qo, .int (nI i), .ref qb]) (n := 5) (Nat.le_of_ble_eq_true rfl)
  rw [lg_entry_eq]
  generalize (lg_sl ([.ref qo, .int (nI i), .ref qb]) ++ List.replicate (5 - (lg_sl ([.ref qo, .int (nI i), .ref qb])).length) Slot.unset).toArray = ls at hl ⊢
  have hl : lv_has ls 5 [(0, .ref qo), (1, .int (nI i)), (2, .ref qb)] := hl
  have v1 := (zO_vN (ht i (by omega))).2
  have v2 := (zO_vN (ht (i + 1) (by omega))).2
  refine lv_iload_n hx hb dX1_decodeRow_0 rfl (lv_at hl 1 rfl) ?_
  refine lv_iconst (v := nI 1) hx hb dX1_decodeRow_1 (by decide) ?_
  refine lv_iadd hx hb dX1_decodeRow_2 ?_
  refine zz_top (nI_add i 1) ?_
  refine lv_aload_n hx hb dX1_decodeRow_3 rfl (lv_at hl 0 rfl) ?_
  have hPc := hP.sub (ws' := [(qo, .inr (2, [.ref qa, .int (nI n)])), (qa, .inl (cyI, 450, .inl t))]) [0, 1] rfl
  have hKc := hK.sub (tys' := [(cyI, .int), (cyZ, .boolean)]) [0, 1] rfl
  refine vp_callSi (va_Run.run (va_runV (As := []) (rest := [.int (nI (i + 1))]) ⟨hx, hb, hml, hown, hts⟩ (c_X3_size l dC dI cyI cyZ qo qa t n) (cwV 0 hts gX1_decodeRow_X3_size rfl rfl rfl (by decide +kernel) ⟨Nat.le_of_ble_eq_true rfl, Nat.le_of_ble_eq_true rfl⟩) ⟨zz_blR, va_recv hKc hPc (ci := 2) (q0 := 0) rfl rfl, fun U hU hW => ⟨rfl, by rw [hU]; exact hPc, va_K.moved hW.alike hKc⟩⟩ rfl rfl hl.1 rfl (lv_room (Nat.le_of_ble_eq_true rfl)) dX1_decodeRow_4 ⟨Nat.zero_le _, Nat.zero_le _⟩)) (fun r_4 hr_4 => ?_)
  have hr_4 : nI n = r_4 := Eq.symm hr_4
  subst hr_4
  refine zn_icmp_lt (tgt := 15) hx hb dX1_decodeRow_7 (by decide) (by omega) (by omega) (fun c_7 => ?_) (fun c_7 => ?_)
  ·
    refine lv_aload_n hx hb dX1_decodeRow_15 rfl (lv_at hl 0 rfl) ?_
    refine lv_iload_n hx hb dX1_decodeRow_16 rfl (lv_at hl 1 rfl) ?_
    have hPc := hP.sub (ws' := [(qo, .inr (2, [.ref qa, .int (nI n)])), (qa, .inl (cyI, 450, .inl t))]) [0, 1] rfl
    have hKc := hK.sub (tys' := [(cyI, .int), (cyZ, .boolean)]) [0, 1] rfl
    refine vp_callSi (va_Run.run (va_runV (As := [.int (nI i)]) (rest := []) ⟨hx, hb, hml, hown, hts⟩ (c_X3_at_in l dC dI cyI cyZ qo qa t n i (by omega) (by omega)) (cwV 1 hts gX1_decodeRow_X3_at rfl rfl rfl (by decide +kernel) ⟨Nat.le_of_ble_eq_true rfl, Nat.le_of_ble_eq_true rfl⟩) ⟨zz_blR, va_recv hKc hPc (ci := 2) (q0 := 0) rfl rfl, fun U hU hW => ⟨rfl, by rw [hU]; exact hPc, va_K.moved hW.alike hKc⟩⟩ rfl rfl hl.1 rfl (lv_room (Nat.le_of_ble_eq_true rfl)) dX1_decodeRow_17 ⟨Nat.zero_le _, Nat.zero_le _⟩)) (fun r_17 hr_17 => ?_)
    have hr_17 : t i = r_17 := Eq.symm hr_17
    subst hr_17
    refine zz_top ((zO_vN (ht i (by omega))).1) ?_
    refine lv_iconst (v := nI 1) hx hb dX1_decodeRow_20 (by decide) ?_
    refine lv_iadd hx hb dX1_decodeRow_21 ?_
    refine zz_top (nI_add (vN (t i)) 1) ?_
    refine lv_istore_n (lv' := [(3, .int (nI (vN (t i) + 1))), (0, .ref qo), (1, .int (nI i)), (2, .ref qb)]) hx hb dX1_decodeRow_22 rfl hl (by decide) rfl (fun ls hl => ?_)
    refine lv_aload_n hx hb dX1_decodeRow_23 rfl (lv_at hl 1 rfl) ?_
    refine lv_iload_n hx hb dX1_decodeRow_24 rfl (lv_at hl 2 rfl) ?_
    refine lv_iconst (v := nI 1) hx hb dX1_decodeRow_25 (by decide) ?_
    refine lv_iadd hx hb dX1_decodeRow_26 ?_
    refine zz_top (nI_add i 1) ?_
    have hPc := hP.sub (ws' := [(qo, .inr (2, [.ref qa, .int (nI n)])), (qa, .inl (cyI, 450, .inl t))]) [0, 1] rfl
    have hKc := hK.sub (tys' := [(cyI, .int), (cyZ, .boolean)]) [0, 1] rfl
    refine vp_callSi (va_Run.run (va_runV (As := [.int (nI (i + 1))]) (rest := []) ⟨hx, hb, hml, hown, hts⟩ (c_X3_at_in l dC dI cyI cyZ qo qa t n (i + 1) (by omega) (by omega)) (cwV 1 hts gX1_decodeRow_X3_at rfl rfl rfl (by decide +kernel) ⟨Nat.le_of_ble_eq_true rfl, Nat.le_of_ble_eq_true rfl⟩) ⟨zz_blR, va_recv hKc hPc (ci := 2) (q0 := 0) rfl rfl, fun U hU hW => ⟨rfl, by rw [hU]; exact hPc, va_K.moved hW.alike hKc⟩⟩ rfl rfl hl.1 rfl (lv_room (Nat.le_of_ble_eq_true rfl)) dX1_decodeRow_27 ⟨Nat.zero_le _, Nat.zero_le _⟩)) (fun r_27 hr_27 => ?_)
    have hr_27 : t (i + 1) = r_27 := Eq.symm hr_27
    subst hr_27
    refine zz_top ((zO_vN (ht (i + 1) (by omega))).1) ?_
    refine lv_iconst (v := nI 3) hx hb dX1_decodeRow_30 (by decide) ?_
    refine lv_iadd hx hb dX1_decodeRow_31 ?_
    refine zz_top (nI_add (vN (t (i + 1))) 3) ?_
    refine lv_istore (lv' := [(4, .int (nI (vN (t (i + 1)) + 3))), (3, .int (nI (vN (t i) + 1))), (0, .ref qo), (1, .int (nI i)), (2, .ref qb)]) hx hb dX1_decodeRow_32 hl (by decide) rfl (fun ls hl => ?_)
    refine lv_iload_n hx hb dX1_decodeRow_34 rfl (lv_at hl 1 rfl) ?_
    refine lv_aload_n hx hb dX1_decodeRow_35 rfl (lv_at hl 4 rfl) ?_
    have hPc := hP.sub (ws' := [(qb, .inr (2, [.ref qba, .int (nI m)])), (qba, .inl (cyI, 450, .inl F))]) [2, 3] rfl
    have hKc := hK.sub (tys' := [(cyI, .int), (cyZ, .boolean)]) [0, 1] rfl
    refine vp_callSi (va_Run.run (va_runV (As := []) (rest := [.int (nI (vN (t i) + 1))]) ⟨hx, hb, hml, hown, hts⟩ (c_X3_size l dC dI cyI cyZ qb qba F m) (cwV 0 hts gX1_decodeRow_X3_size rfl rfl rfl (by decide +kernel) ⟨Nat.le_of_ble_eq_true rfl, Nat.le_of_ble_eq_true rfl⟩) ⟨zz_blR, va_recv hKc hPc (ci := 2) (q0 := 0) rfl rfl, fun U hU hW => ⟨rfl, by rw [hU]; exact hPc, va_K.moved hW.alike hKc⟩⟩ rfl rfl hl.1 rfl (lv_room (Nat.le_of_ble_eq_true rfl)) dX1_decodeRow_36 ⟨Nat.zero_le _, Nat.zero_le _⟩)) (fun r_36 hr_36 => ?_)
    have hr_36 : nI m = r_36 := Eq.symm hr_36
    subst hr_36
    refine zn_icmp_gt (tgt := 55) hx hb dX1_decodeRow_39 (by decide) (by omega) (by omega) (fun c_39 => ?_) (fun c_39 => ?_)
    ·
      refine lv_iload_n hx hb dX1_decodeRow_55 rfl (lv_at hl 3 rfl) ?_
      have hret : nI i = nI i := rfl
      refine zz_top hret ?_
      exact W.iret hx hb hr (fun tS ht hW => ⟨_, rfl, rfl, ht⟩) (fun _ h => nomatch h) dX1_decodeRow_56
    ·
      refine lv_aload_n hx hb dX1_decodeRow_42 rfl (lv_at hl 4 rfl) ?_
      have hPc := hP.sub (ws' := [(qb, .inr (2, [.ref qba, .int (nI m)])), (qba, .inl (cyI, 450, .inl F))]) [2, 3] rfl
      have hKc := hK.sub (tys' := [(cyI, .int), (cyZ, .boolean)]) [0, 1] rfl
      refine vp_callSi (va_Run.run (va_runV (As := []) (rest := []) ⟨hx, hb, hml, hown, hts⟩ (c_X3_size l dC dI cyI cyZ qb qba F m) (cwV 0 hts gX1_decodeRow_X3_size rfl rfl rfl (by decide +kernel) ⟨Nat.le_of_ble_eq_true rfl, Nat.le_of_ble_eq_true rfl⟩) ⟨zz_blR, va_recv hKc hPc (ci := 2) (q0 := 0) rfl rfl, fun U hU hW => ⟨rfl, by rw [hU]; exact hPc, va_K.moved hW.alike hKc⟩⟩ rfl rfl hl.1 rfl (lv_room (Nat.le_of_ble_eq_true rfl)) dX1_decodeRow_43 ⟨Nat.zero_le _, Nat.zero_le _⟩)) (fun r_43 hr_43 => ?_)
      have hr_43 : nI m = r_43 := Eq.symm hr_43
      subst hr_43
      refine lv_iload hx hb dX1_decodeRow_46 (lv_at hl 0 rfl) ?_
      refine lv_iadd hx hb dX1_decodeRow_48 ?_
      refine zz_top (nI_add m (vN (t (i + 1)) + 3)) ?_
      refine lv_sipush (v := nI 400) hx hb dX1_decodeRow_49 (by decide) ?_
      refine zn_icmp_le (tgt := 57) hx hb dX1_decodeRow_52 (by decide) (by omega) (by omega) (fun c_52 => ?_) (fun c_52 => ?_)
      ·
        exfalso
        omega
      ·
        refine lv_iload_n hx hb dX1_decodeRow_55 rfl (lv_at hl 3 rfl) ?_
        have hret : nI i = nI i := rfl
        refine zz_top hret ?_
        exact W.iret hx hb hr (fun tS ht hW => ⟨_, rfl, rfl, ht⟩) (fun _ h => nomatch h) dX1_decodeRow_56
  ·
    exfalso
    omega
set_option maxHeartbeats 4000000 in
set_option maxRecDepth 100000 in
theorem c_X1_row_ok (l : Launch) (dC : Nat → ClassId) (dI : Nat → Nat → Nat) (cyI cyZ : ClassId) (qo qa qb qba : Nat) (sz : Nat) (t : Nat → Int32) (n : Nat) (F : Nat → Int32) (m i : Nat) (hn : n ≤ 450) (hi : i < n) (hz : ¬ n ≤ i + 1) (hz2 : ¬ (m < vN (t i) + 1 ∨ 400 < m + (vN (t (i + 1)) + 3))) (ht : ∀ j, j < n → zO (t j)) (hO : ∀ j, j < m → zO (F j)) : Met l yX1_decodeRow wsX1_decodeRow ({ frames := 2, cells := 0, slots := 0, locals := 44 }) (va_Pc [.ref qo, .int (nI i), .ref qb] (fun U => U.heap.size = sz ∧ va_P (dC, dI) vwCl [(qo, .inr (2, [.ref qa, .int (nI n)])), (qa, .inl (cyI, 450, .inl t)), (qb, .inr (2, [.ref qba, .int (nI m)])), (qba, .inl (cyI, 450, .inl F))] U.heap ∧ va_K (dC, dI) vwCl [(cyI, .int), (cyZ, .boolean)] U ∧ va_D (fun _ => True) [(qo, .inr (2, [.ref qa, .int (nI n)])), (qa, .inl (cyI, 450, .inl t)), (qb, .inr (2, [.ref qba, .int (nI m)])), (qba, .inl (cyI, 450, .inl F))])) (va_Qi (S := Unit) (fun (r : Int32) (_ : Unit) => r = (-1)) (fun (_ : Unit) tS => va_P (dC, dI) vwCl [(qo, .inr (2, [.ref qa, .int (nI n)])), (qa, .inl (cyI, 450, .inl t)), (qb, .inr (2, [.ref qba, .int (nI (m + (vN (t (i + 1)) + 3)))])), (qba, .inl (cyI, 450, .inl (zrep F m (vN (t i) + 1) (vN (t (i + 1)) + 3))))] tS.heap ∧ va_K (dC, dI) vwCl [(cyI, .int), (cyZ, .boolean)] tS ∧ va_D (va_A [(qo, .inr (2, [.ref qa, .int (nI n)])), (qa, .inl (cyI, 450, .inl t)), (qb, .inr (2, [.ref qba, .int (nI m)])), (qba, .inl (cyI, 450, .inl F))] sz) [(qo, .inr (2, [.ref qa, .int (nI n)])), (qa, .inl (cyI, 450, .inl t)), (qb, .inr (2, [.ref qba, .int (nI (m + (vN (t (i + 1)) + 3)))])), (qba, .inl (cyI, 450, .inl (zrep F m (vN (t i) + 1) (vN (t (i + 1)) + 3))))]) (va_A [(qo, .inr (2, [.ref qa, .int (nI n)])), (qa, .inl (cyI, 450, .inl t)), (qb, .inr (2, [.ref qba, .int (nI m)])), (qba, .inl (cyI, 450, .inl F))] sz)) 0 0 (va_A [(qo, .inr (2, [.ref qa, .int (nI n)])), (qa, .inl (cyI, 450, .inl t)), (qb, .inr (2, [.ref qba, .int (nI m)])), (qba, .inl (cyI, 450, .inl F))] sz) := by
  refine Met.ofW (cc := cX1_decodeRow) (maxL := 5) (ret := (some .int)) (by decide) rfl ?_
  intro pz ez sS mM args below meth cC s₁ B hml hv
  obtain ⟨rfl, hsz, hP, hK, hD0⟩ := hv
  have hx := B.exec
  have hb := B.bytes
  have hr := B.returns
  have hts := atoms_spec (ws := wsX1_decodeRow) B.pre
  have hown : sS.vm.findClass RX1 = some mM.cls := findClass_of_methodNamed B.named
  have hlocks := B.notSynchronized
  subst hsz
  have hD := hD0.self (sz := sS.heap.size)
  generalize hAe : va_A [(qo, .inr (2, [.ref qa, .int (nI n)])), (qa, .inl (cyI, 450, .inl t)), (qb, .inr (2, [.ref qba, .int (nI m)])), (qba, .inl (cyI, 450, .inl F))] sS.heap.size = A at hD ⊢
  have hA : ∀ q : Nat, sS.heap.size ≤ q → A q := fun q h => by rw [← hAe]; exact Or.inr h
  have hS : va_S A sS.heap sS.heap [] := va_S.rf
  have hP : va_P (dC, dI) vwCl [(qo, .inr (2, [.ref qa, .int (nI n)])), (qa, .inl (cyI, 450, .inl t)), (qb, .inr (2, [.ref qba, .int (nI m)])), (qba, .inl (cyI, 450, .inl F))] sS.heap := hP
  have hl := lv_entry ([.ref qo, .int (nI i), .ref qb]) (n := 5) (Nat.le_of_ble_eq_true rfl)
  rw [lg_entry_eq]
  generalize (lg_sl ([.ref qo, .int (nI i), .ref qb]) ++ List.replicate (5 - (lg_sl ([.ref qo, .int (nI i), .ref qb])).length) Slot.unset).toArray = ls at hl ⊢
  have hl : lv_has ls 5 [(0, .ref qo), (1, .int (nI i)), (2, .ref qb)] := hl
  have v1 := (zO_vN (ht i (by omega))).2
  have v2 := (zO_vN (ht (i + 1) (by omega))).2
  refine lv_iload_n hx hb dX1_decodeRow_0 rfl (lv_at hl 1 rfl) ?_
  refine lv_iconst (v := nI 1) hx hb dX1_decodeRow_1 (by decide) ?_
  refine lv_iadd hx hb dX1_decodeRow_2 ?_
  refine zz_top (nI_add i 1) ?_
  refine lv_aload_n hx hb dX1_decodeRow_3 rfl (lv_at hl 0 rfl) ?_
  have hPc := hP.sub (ws' := [(qo, .inr (2, [.ref qa, .int (nI n)])), (qa, .inl (cyI, 450, .inl t))]) [0, 1] rfl
  have hKc := hK.sub (tys' := [(cyI, .int), (cyZ, .boolean)]) [0, 1] rfl
  refine vp_callSi (va_Run.run (va_runV (As := []) (rest := [.int (nI (i + 1))]) ⟨hx, hb, hml, hown, hts⟩ (c_X3_size l dC dI cyI cyZ qo qa t n) (cwV 0 hts gX1_decodeRow_X3_size rfl rfl rfl (by decide +kernel) ⟨Nat.le_of_ble_eq_true rfl, Nat.le_of_ble_eq_true rfl⟩) ⟨zz_blR, va_recv hKc hPc (ci := 2) (q0 := 0) rfl rfl, fun U hU hW => ⟨rfl, by rw [hU]; exact hPc, va_K.moved hW.alike hKc⟩⟩ rfl rfl hl.1 rfl (lv_room (Nat.le_of_ble_eq_true rfl)) dX1_decodeRow_4 ⟨Nat.zero_le _, Nat.zero_le _⟩)) (fun r_4 hr_4 => ?_)
  have hr_4 : nI n = r_4 := Eq.symm hr_4
  subst hr_4
  refine zn_icmp_lt (tgt := 15) hx hb dX1_decodeRow_7 (by decide) (by omega) (by omega) (fun c_7 => ?_) (fun c_7 => ?_)
  ·
    refine lv_aload_n hx hb dX1_decodeRow_15 rfl (lv_at hl 0 rfl) ?_
    refine lv_iload_n hx hb dX1_decodeRow_16 rfl (lv_at hl 1 rfl) ?_
    have hPc := hP.sub (ws' := [(qo, .inr (2, [.ref qa, .int (nI n)])), (qa, .inl (cyI, 450, .inl t))]) [0, 1] rfl
    have hKc := hK.sub (tys' := [(cyI, .int), (cyZ, .boolean)]) [0, 1] rfl
    refine vp_callSi (va_Run.run (va_runV (As := [.int (nI i)]) (rest := []) ⟨hx, hb, hml, hown, hts⟩ (c_X3_at_in l dC dI cyI cyZ qo qa t n i (by omega) (by omega)) (cwV 1 hts gX1_decodeRow_X3_at rfl rfl rfl (by decide +kernel) ⟨Nat.le_of_ble_eq_true rfl, Nat.le_of_ble_eq_true rfl⟩) ⟨zz_blR, va_recv hKc hPc (ci := 2) (q0 := 0) rfl rfl, fun U hU hW => ⟨rfl, by rw [hU]; exact hPc, va_K.moved hW.alike hKc⟩⟩ rfl rfl hl.1 rfl (lv_room (Nat.le_of_ble_eq_true rfl)) dX1_decodeRow_17 ⟨Nat.zero_le _, Nat.zero_le _⟩)) (fun r_17 hr_17 => ?_)
    have hr_17 : t i = r_17 := Eq.symm hr_17
    subst hr_17
    refine zz_top ((zO_vN (ht i (by omega))).1) ?_
    refine lv_iconst (v := nI 1) hx hb dX1_decodeRow_20 (by decide) ?_
    refine lv_iadd hx hb dX1_decodeRow_21 ?_
    refine zz_top (nI_add (vN (t i)) 1) ?_
    refine lv_istore_n (lv' := [(3, .int (nI (vN (t i) + 1))), (0, .ref qo), (1, .int (nI i)), (2, .ref qb)]) hx hb dX1_decodeRow_22 rfl hl (by decide) rfl (fun ls hl => ?_)
    refine lv_aload_n hx hb dX1_decodeRow_23 rfl (lv_at hl 1 rfl) ?_
    refine lv_iload_n hx hb dX1_decodeRow_24 rfl (lv_at hl 2 rfl) ?_
    refine lv_iconst (v := nI 1) hx hb dX1_decodeRow_25 (by decide) ?_
    refine lv_iadd hx hb dX1_decodeRow_26 ?_
    refine zz_top (nI_add i 1) ?_
    have hPc := hP.sub (ws' := [(qo, .inr (2, [.ref qa, .int (nI n)])), (qa, .inl (cyI, 450, .inl t))]) [0, 1] rfl
    have hKc := hK.sub (tys' := [(cyI, .int), (cyZ, .boolean)]) [0, 1] rfl
    refine vp_callSi (va_Run.run (va_runV (As := [.int (nI (i + 1))]) (rest := []) ⟨hx, hb, hml, hown, hts⟩ (c_X3_at_in l dC dI cyI cyZ qo qa t n (i + 1) (by omega) (by omega)) (cwV 1 hts gX1_decodeRow_X3_at rfl rfl rfl (by decide +kernel) ⟨Nat.le_of_ble_eq_true rfl, Nat.le_of_ble_eq_true rfl⟩) ⟨zz_blR, va_recv hKc hPc (ci := 2) (q0 := 0) rfl rfl, fun U hU hW => ⟨rfl, by rw [hU]; exact hPc, va_K.moved hW.alike hKc⟩⟩ rfl rfl hl.1 rfl (lv_room (Nat.le_of_ble_eq_true rfl)) dX1_decodeRow_27 ⟨Nat.zero_le _, Nat.zero_le _⟩)) (fun r_27 hr_27 => ?_)
    have hr_27 : t (i + 1) = r_27 := Eq.symm hr_27
    subst hr_27
    refine zz_top ((zO_vN (ht (i + 1) (by omega))).1) ?_
    refine lv_iconst (v := nI 3) hx hb dX1_decodeRow_30 (by decide) ?_
    refine lv_iadd hx hb dX1_decodeRow_31 ?_
    refine zz_top (nI_add (vN (t (i + 1))) 3) ?_
    refine lv_istore (lv' := [(4, .int (nI (vN (t (i + 1)) + 3))), (3, .int (nI (vN (t i) + 1))), (0, .ref qo), (1, .int (nI i)), (2, .ref qb)]) hx hb dX1_decodeRow_32 hl (by decide) rfl (fun ls hl => ?_)
    refine lv_iload_n hx hb dX1_decodeRow_34 rfl (lv_at hl 1 rfl) ?_
    refine lv_aload_n hx hb dX1_decodeRow_35 rfl (lv_at hl 4 rfl) ?_
    have hPc := hP.sub (ws' := [(qb, .inr (2, [.ref qba, .int (nI m)])), (qba, .inl (cyI, 450, .inl F))]) [2, 3] rfl
    have hKc := hK.sub (tys' := [(cyI, .int), (cyZ, .boolean)]) [0, 1] rfl
    refine vp_callSi (va_Run.run (va_runV (As := []) (rest := [.int (nI (vN (t i) + 1))]) ⟨hx, hb, hml, hown, hts⟩ (c_X3_size l dC dI cyI cyZ qb qba F m) (cwV 0 hts gX1_decodeRow_X3_size rfl rfl rfl (by decide +kernel) ⟨Nat.le_of_ble_eq_true rfl, Nat.le_of_ble_eq_true rfl⟩) ⟨zz_blR, va_recv hKc hPc (ci := 2) (q0 := 0) rfl rfl, fun U hU hW => ⟨rfl, by rw [hU]; exact hPc, va_K.moved hW.alike hKc⟩⟩ rfl rfl hl.1 rfl (lv_room (Nat.le_of_ble_eq_true rfl)) dX1_decodeRow_36 ⟨Nat.zero_le _, Nat.zero_le _⟩)) (fun r_36 hr_36 => ?_)
    have hr_36 : nI m = r_36 := Eq.symm hr_36
    subst hr_36
    refine zn_icmp_gt (tgt := 55) hx hb dX1_decodeRow_39 (by decide) (by omega) (by omega) (fun c_39 => ?_) (fun c_39 => ?_)
    ·
      exfalso
      omega
    ·
      refine lv_aload_n hx hb dX1_decodeRow_42 rfl (lv_at hl 4 rfl) ?_
      have hPc := hP.sub (ws' := [(qb, .inr (2, [.ref qba, .int (nI m)])), (qba, .inl (cyI, 450, .inl F))]) [2, 3] rfl
      have hKc := hK.sub (tys' := [(cyI, .int), (cyZ, .boolean)]) [0, 1] rfl
      refine vp_callSi (va_Run.run (va_runV (As := []) (rest := []) ⟨hx, hb, hml, hown, hts⟩ (c_X3_size l dC dI cyI cyZ qb qba F m) (cwV 0 hts gX1_decodeRow_X3_size rfl rfl rfl (by decide +kernel) ⟨Nat.le_of_ble_eq_true rfl, Nat.le_of_ble_eq_true rfl⟩) ⟨zz_blR, va_recv hKc hPc (ci := 2) (q0 := 0) rfl rfl, fun U hU hW => ⟨rfl, by rw [hU]; exact hPc, va_K.moved hW.alike hKc⟩⟩ rfl rfl hl.1 rfl (lv_room (Nat.le_of_ble_eq_true rfl)) dX1_decodeRow_43 ⟨Nat.zero_le _, Nat.zero_le _⟩)) (fun r_43 hr_43 => ?_)
      have hr_43 : nI m = r_43 := Eq.symm hr_43
      subst hr_43
      refine lv_iload hx hb dX1_decodeRow_46 (lv_at hl 0 rfl) ?_
      refine lv_iadd hx hb dX1_decodeRow_48 ?_
      refine zz_top (nI_add m (vN (t (i + 1)) + 3)) ?_
      refine lv_sipush (v := nI 400) hx hb dX1_decodeRow_49 (by decide) ?_
      refine zn_icmp_le (tgt := 57) hx hb dX1_decodeRow_52 (by decide) (by omega) (by omega) (fun c_52 => ?_) (fun c_52 => ?_)
      ·
        refine lv_aload_n hx hb dX1_decodeRow_57 rfl (lv_at hl 4 rfl) ?_
        refine lv_iload_n hx hb dX1_decodeRow_58 rfl (lv_at hl 1 rfl) ?_
        refine lv_iload hx hb dX1_decodeRow_59 (lv_at hl 0 rfl) ?_
        have hPc := hP.sub (ws' := [(qb, .inr (2, [.ref qba, .int (nI m)])), (qba, .inl (cyI, 450, .inl F))]) [2, 3] rfl
        have hKc := hK.sub (tys' := [(cyI, .int), (cyZ, .boolean)]) [0, 1] rfl
        have hDc := hD.sub (ws' := [(qb, .inr (2, [.ref qba, .int (nI m)])), (qba, .inl (cyI, 450, .inl F))]) [2, 3] (by decide) rfl
        have hFc := va_free (wc := [(qb, .inr (2, [.ref qba, .int (nI m)])), (qba, .inl (cyI, 450, .inl F))]) hD hS hA [2, 3] rfl
        refine va_callv (va_runV (As := [.int (nI (vN (t i) + 1)), .int (nI (vN (t (i + 1)) + 3))]) (rest := []) ⟨hx, hb, hml, hown, hts⟩ (c_X3_repeat l dC dI cyI cyZ qb qba sS.heap.size F m (vN (t i) + 1) (vN (t (i + 1)) + 3) (by omega) (by omega) (by omega) (hO)) (cwV 2 hts gX1_decodeRow_X3_repeat rfl rfl rfl (by decide +kernel) ⟨Nat.le_of_ble_eq_true rfl, Nat.le_of_ble_eq_true rfl⟩) ⟨zz_blW, va_recv hKc hPc (ci := 2) (q0 := 0) rfl rfl, fun U hU hW => ⟨rfl, by rw [hU], by rw [hU]; exact hPc, va_K.moved hW.alike hKc, hDc.weaken (fun _ _ _ _ => trivial)⟩⟩ rfl rfl hl.1 rfl (lv_room (Nat.le_of_ble_eq_true rfl)) dX1_decodeRow_61 ⟨Nat.zero_le _, Nat.zero_le _⟩) hS (fun q _ h => hFc q h) hFc (fun uU tS H1 locs ht9 hvm9 hw9 hB9 hz1 hk1 hS => ?_)
        obtain ⟨hP1, hK1, hD1⟩ := hB9
        rw [ht9] at hP1
        have hK1 := va_K.moved hvm9.symm hK1
        obtain ⟨hP, hD⟩ := va_join (wr := [(qo, .inr (2, [.ref qa, .int (nI n)])), (qa, .inl (cyI, 450, .inl t))]) (w1 := [(qb, .inr (2, [.ref qba, .int (nI (m + (vN (t (i + 1)) + 3)))])), (qba, .inl (cyI, 450, .inl (zrep F m (vN (t i) + 1) (vN (t (i + 1)) + 3))))]) hP hD [2, 3] [0, 1] rfl rfl (by decide) (by decide) hk1 hFc hP1 hD1
        generalize H1 = H at hP hS ⊢
        have hP : va_P (dC, dI) vwCl [(qo, .inr (2, [.ref qa, .int (nI n)])), (qa, .inl (cyI, 450, .inl t)), (qb, .inr (2, [.ref qba, .int (nI (m + (vN (t (i + 1)) + 3)))])), (qba, .inl (cyI, 450, .inl (zrep F m (vN (t i) + 1) (vN (t (i + 1)) + 3))))] H := hP
        have hD : va_D A [(qo, .inr (2, [.ref qa, .int (nI n)])), (qa, .inl (cyI, 450, .inl t)), (qb, .inr (2, [.ref qba, .int (nI (m + (vN (t (i + 1)) + 3)))])), (qba, .inl (cyI, 450, .inl (zrep F m (vN (t i) + 1) (vN (t (i + 1)) + 3))))] := hD
        refine lv_iconst (v := (-1)) hx hb dX1_decodeRow_64 (by decide) ?_
        have hP9 := hP.sub (ws' := [(qo, .inr (2, [.ref qa, .int (nI n)])), (qa, .inl (cyI, 450, .inl t)), (qb, .inr (2, [.ref qba, .int (nI (m + (vN (t (i + 1)) + 3)))])), (qba, .inl (cyI, 450, .inl (zrep F m (vN (t i) + 1) (vN (t (i + 1)) + 3))))]) [0, 1, 2, 3] rfl
        have hD9 := hD.sub (ws' := [(qo, .inr (2, [.ref qa, .int (nI n)])), (qa, .inl (cyI, 450, .inl t)), (qb, .inr (2, [.ref qba, .int (nI (m + (vN (t (i + 1)) + 3)))])), (qba, .inl (cyI, 450, .inl (zrep F m (vN (t i) + 1) (vN (t (i + 1)) + 3))))]) [0, 1, 2, 3] (by decide) rfl
        have hK9 := hK.sub (tys' := [(cyI, .int), (cyZ, .boolean)]) [0, 1] rfl
        exact W.iret hx hb hr (fun tS ht hW => ⟨⟨_, (), rfl, rfl, by rw [ht]; exact hP9, va_K.moved hW.alike hK9, hD9⟩, hS.F ht⟩) hS.2.2 dX1_decodeRow_65
      ·
        exfalso
        omega
  ·
    exfalso
    omega
set_option maxHeartbeats 4000000 in
set_option maxRecDepth 100000 in
theorem c_X1_decode (l : Launch) (dC : Nat → ClassId) (dI : Nat → Nat → Nat) (cyI cyZ : ClassId) (qo qa qb qba : Nat) (sz : Nat) (t : Nat → Int32) (n : Nat) (F0 : Nat → Int32) (m0 : Nat) (hn : n ≤ 450) (ht : ∀ j, j < n → zO (t j)) : Met l yX1_decode wsX1_decode ({ frames := 3, cells := 0, slots := 0, locals := 68 }) (va_Pc [.ref qo, .ref qb] (fun U => U.heap.size = sz ∧ va_P (dC, dI) vwCl [(qo, .inr (2, [.ref qa, .int (nI n)])), (qa, .inl (cyI, 450, .inl t)), (qb, .inr (2, [.ref qba, .int (nI m0)])), (qba, .inl (cyI, 450, .inl F0))] U.heap ∧ va_K (dC, dI) vwCl [(cyI, .int), (cyZ, .boolean)] U ∧ va_D (fun _ => True) [(qo, .inr (2, [.ref qa, .int (nI n)])), (qa, .inl (cyI, 450, .inl t)), (qb, .inr (2, [.ref qba, .int (nI m0)])), (qba, .inl (cyI, 450, .inl F0))])) (va_Qi (S := Nat × (Nat → Int32)) (fun (r : Int32) (uU : Nat × (Nat → Int32)) => match uU with | (m1, F1) => r = zPl (zD t n).1 ∧ (m1 = (zD t n).2.1) ∧ (∀ j, j < m1 → F1 j = (zD t n).2.2 j) ∧ (∀ j, j < m1 → zO (F1 j)) ∧ (m1 ≤ 400)) (fun (uU : Nat × (Nat → Int32)) tS => match uU with | (m1, F1) => va_P (dC, dI) vwCl [(qo, .inr (2, [.ref qa, .int (nI n)])), (qa, .inl (cyI, 450, .inl t)), (qb, .inr (2, [.ref qba, .int (nI m1)])), (qba, .inl (cyI, 450, .inl F1))] tS.heap ∧ va_K (dC, dI) vwCl [(cyI, .int), (cyZ, .boolean)] tS ∧ va_D (va_A [(qo, .inr (2, [.ref qa, .int (nI n)])), (qa, .inl (cyI, 450, .inl t)), (qb, .inr (2, [.ref qba, .int (nI m0)])), (qba, .inl (cyI, 450, .inl F0))] sz) [(qo, .inr (2, [.ref qa, .int (nI n)])), (qa, .inl (cyI, 450, .inl t)), (qb, .inr (2, [.ref qba, .int (nI m1)])), (qba, .inl (cyI, 450, .inl F1))]) (va_A [(qo, .inr (2, [.ref qa, .int (nI n)])), (qa, .inl (cyI, 450, .inl t)), (qb, .inr (2, [.ref qba, .int (nI m0)])), (qba, .inl (cyI, 450, .inl F0))] sz)) 0 0 (va_A [(qo, .inr (2, [.ref qa, .int (nI n)])), (qa, .inl (cyI, 450, .inl t)), (qb, .inr (2, [.ref qba, .int (nI m0)])), (qba, .inl (cyI, 450, .inl F0))] sz) := by
  refine Met.ofW (cc := cX1_decode) (maxL := 8) (ret := (some .int)) (by decide) rfl ?_
  intro pz ez sS mM args below meth cC s₁ B hml hv
  obtain ⟨rfl, hsz, hP, hK, hD0⟩ := hv
  have hx := B.exec
  have hb := B.bytes
  have hr := B.returns
  have hts := atoms_spec (ws := wsX1_decode) B.pre
  have hown : sS.vm.findClass RX1 = some mM.cls := findClass_of_methodNamed B.named
  have hlocks := B.notSynchronized
  subst hsz
  have hD := hD0.self (sz := sS.heap.size)
  generalize hAe : va_A [(qo, .inr (2, [.ref qa, .int (nI n)])), (qa, .inl (cyI, 450, .inl t)), (qb, .inr (2, [.ref qba, .int (nI m0)])), (qba, .inl (cyI, 450, .inl F0))] sS.heap.size = A at hD ⊢
  have hA : ∀ q : Nat, sS.heap.size ≤ q → A q := fun q h => by rw [← hAe]; exact Or.inr h
  have hS : va_S A sS.heap sS.heap [] := va_S.rf
  have hP : va_P (dC, dI) vwCl [(qo, .inr (2, [.ref qa, .int (nI n)])), (qa, .inl (cyI, 450, .inl t)), (qb, .inr (2, [.ref qba, .int (nI m0)])), (qba, .inl (cyI, 450, .inl F0))] sS.heap := hP
  have hl := lv_entry ([.ref qo, .ref qb]) (n := 8) (Nat.le_of_ble_eq_true rfl)
  rw [lg_entry_eq]
  generalize (lg_sl ([.ref qo, .ref qb]) ++ List.replicate (8 - (lg_sl ([.ref qo, .ref qb])).length) Slot.unset).toArray = ls at hl ⊢
  have hl : lv_has ls 8 [(0, .ref qo), (1, .ref qb)] := hl
  refine lv_aload_n hx hb dX1_decode_0 rfl (lv_at hl 1 rfl) ?_
  have hPc := hP.sub (ws' := [(qb, .inr (2, [.ref qba, .int (nI m0)])), (qba, .inl (cyI, 450, .inl F0))]) [2, 3] rfl
  have hKc := hK.sub (tys' := [(cyI, .int), (cyZ, .boolean)]) [0, 1] rfl
  have hDc := hD.sub (ws' := [(qb, .inr (2, [.ref qba, .int (nI m0)])), (qba, .inl (cyI, 450, .inl F0))]) [2, 3] (by decide) rfl
  have hFc := va_free (wc := [(qb, .inr (2, [.ref qba, .int (nI m0)])), (qba, .inl (cyI, 450, .inl F0))]) hD hS hA [2, 3] rfl
  refine va_callv (va_runV (As := []) (rest := []) ⟨hx, hb, hml, hown, hts⟩ (c_X3_empty l dC dI cyI cyZ qb qba sS.heap.size F0 m0) (cwV 0 hts gX1_decode_X3_empty rfl rfl rfl (by decide +kernel) ⟨Nat.le_of_ble_eq_true rfl, Nat.le_of_ble_eq_true rfl⟩) ⟨zz_blW, va_recv hKc hPc (ci := 2) (q0 := 0) rfl rfl, fun U hU hW => ⟨rfl, by rw [hU], by rw [hU]; exact hPc, va_K.moved hW.alike hKc, hDc.weaken (fun _ _ _ _ => trivial)⟩⟩ rfl rfl hl.1 rfl (lv_room (Nat.le_of_ble_eq_true rfl)) dX1_decode_1 ⟨Nat.zero_le _, Nat.zero_le _⟩) hS (fun q _ h => hFc q h) hFc (fun uU tS H1 locs ht9 hvm9 hw9 hB9 hz1 hk1 hS => ?_)
  obtain ⟨hP1, hK1, hD1⟩ := hB9
  rw [ht9] at hP1
  have hK1 := va_K.moved hvm9.symm hK1
  obtain ⟨hP, hD⟩ := va_join (wr := [(qo, .inr (2, [.ref qa, .int (nI n)])), (qa, .inl (cyI, 450, .inl t))]) (w1 := [(qb, .inr (2, [.ref qba, .int (nI 0)])), (qba, .inl (cyI, 450, .inl F0))]) hP hD [2, 3] [0, 1] rfl rfl (by decide) (by decide) hk1 hFc hP1 hD1
  generalize H1 = H at hP hS ⊢
  have hP : va_P (dC, dI) vwCl [(qo, .inr (2, [.ref qa, .int (nI n)])), (qa, .inl (cyI, 450, .inl t)), (qb, .inr (2, [.ref qba, .int (nI 0)])), (qba, .inl (cyI, 450, .inl F0))] H := hP
  have hD : va_D A [(qo, .inr (2, [.ref qa, .int (nI n)])), (qa, .inl (cyI, 450, .inl t)), (qb, .inr (2, [.ref qba, .int (nI 0)])), (qba, .inl (cyI, 450, .inl F0))] := hD
  refine lv_iconst (v := nI 0) hx hb dX1_decode_4 (by decide) ?_
  refine lv_istore_n (lv' := [(2, .int (nI 0)), (0, .ref qo), (1, .ref qb)]) hx hb dX1_decode_5 rfl hl (by decide) rfl (fun ls hl => ?_)
  refine lv_bipush (v := nI 8) hx hb dX1_decode_6 (by decide) ?_
  refine lv_istore_n (lv' := [(3, .int (nI 8)), (2, .int (nI 0)), (0, .ref qo), (1, .ref qb)]) hx hb dX1_decode_8 rfl hl (by decide) rfl (fun ls hl => ?_)
  refine lv_iconst (v := nI 0) hx hb dX1_decode_9 (by decide) ?_
  refine lv_istore (lv' := [(4, .int (nI 0)), (3, .int (nI 8)), (2, .int (nI 0)), (0, .ref qo), (1, .ref qb)]) hx hb dX1_decode_10 hl (by decide) rfl (fun ls hl => ?_)
  refine lv_iconst (v := nI 0) hx hb dX1_decode_12 (by decide) ?_
  refine lv_istore (lv' := [(5, .int (nI 0)), (4, .int (nI 0)), (3, .int (nI 8)), (2, .int (nI 0)), (0, .ref qo), (1, .ref qb)]) hx hb dX1_decode_13 hl (by decide) rfl (fun ls hl => ?_)
  refine zz_loopW (pc := 15) (μ := fun (x : Nat × Nat × Nat × Nat × Nat × Nat × (Nat → Int32) × (Nat → Int32)) => match x with | (i, nx, m, g, b, f, o, F) => n - i) (Inv := fun (x : Nat × Nat × Nat × Nat × Nat × Nat × (Nat → Int32) × (Nat → Int32)) (H : Heap) (locs : List Loc) (ls : Array Slot) => match x with | (i, nx, m, g, b, f, o, F) => (i ≤ nx) ∧ (nx ≤ n) ∧ (n + 1 ≤ nx + f) ∧ (b ≤ 8) ∧ (m ≤ 400) ∧ (b < 8 → g < nx) ∧ (0 < n → g < n) ∧ (g ≤ n) ∧ (n = 0 → b = 8) ∧ (dF t n f nx b g m o = zD t n) ∧ (∀ j, j < m → F j = o j) ∧ (∀ j, j < m → zO (F j)) ∧ va_P (dC, dI) vwCl [(qo, .inr (2, [.ref qa, .int (nI n)])), (qa, .inl (cyI, 450, .inl t)), (qb, .inr (2, [.ref qba, .int (nI m)])), (qba, .inl (cyI, 450, .inl F))] H ∧ va_D A [(qo, .inr (2, [.ref qa, .int (nI n)])), (qa, .inl (cyI, 450, .inl t)), (qb, .inr (2, [.ref qba, .int (nI m)])), (qba, .inl (cyI, 450, .inl F))] ∧ va_S A sS.heap H locs ∧ lv_has ls 8 [(0, .ref qo), (1, .ref qb), (2, .int (nI g)), (3, .int (nI b)), (4, .int (nI nx)), (5, .int (nI i))]) (x0 := (0, 0, 0, 0, 8, n + 1, fun _ => nI 0, F0)) ⟨by omega, by omega, by omega, by omega, by omega, by omega, by omega, by omega, fun _ => rfl, rfl, no_lt0, no_lt0, hP, hD, hS, lv_sub hl [4, 5, 3, 2, 1, 0] rfl⟩ ?_
  intro ⟨i, nx, m, g, b, f, o, F⟩ H locs ls hI ih15
  obtain ⟨hi1, hi2, hf, hb8, hm, hg, hgn, hg9, hb80, hE, hF, hO, hP, hD, hS, hl⟩ := hI
  have hl : lv_has ls 8 [(0, .ref qo), (1, .ref qb), (2, .int (nI g)), (3, .int (nI b)), (4, .int (nI nx)), (5, .int (nI i))] := hl
  have hP : va_P (dC, dI) vwCl [(qo, .inr (2, [.ref qa, .int (nI n)])), (qa, .inl (cyI, 450, .inl t)), (qb, .inr (2, [.ref qba, .int (nI m)])), (qba, .inl (cyI, 450, .inl F))] H := hP
  have hD : va_D A [(qo, .inr (2, [.ref qa, .int (nI n)])), (qa, .inl (cyI, 450, .inl t)), (qb, .inr (2, [.ref qba, .int (nI m)])), (qba, .inl (cyI, 450, .inl F))] := hD
  have hi1 : i ≤ nx := hi1
  have hi2 : nx ≤ n := hi2
  have hf : n + 1 ≤ nx + f := hf
  have hb8 : b ≤ 8 := hb8
  have hm : m ≤ 400 := hm
  have hg : b < 8 → g < nx := hg
  have hgn : 0 < n → g < n := hgn
  have hg9 : g ≤ n := hg9
  have hb80 : n = 0 → b = 8 := hb80
  have hE : dF t n f nx b g m o = zD t n := hE
  have hF : ∀ j, j < m → F j = o j := hF
  have hO : ∀ j, j < m → zO (F j) := hO
  refine lv_iload hx hb dX1_decode_15 (lv_at hl 5 rfl) ?_
  refine lv_aload_n hx hb dX1_decode_17 rfl (lv_at hl 0 rfl) ?_
  have hPc := hP.sub (ws' := [(qo, .inr (2, [.ref qa, .int (nI n)])), (qa, .inl (cyI, 450, .inl t))]) [0, 1] rfl
  have hKc := hK.sub (tys' := [(cyI, .int), (cyZ, .boolean)]) [0, 1] rfl
  refine vp_callSi (va_Run.run (va_runV (As := []) (rest := [.int (nI i)]) ⟨hx, hb, hml, hown, hts⟩ (c_X3_size l dC dI cyI cyZ qo qa t n) (cwV 0 hts gX1_decode_X3_size rfl rfl rfl (by decide +kernel) ⟨Nat.le_of_ble_eq_true rfl, Nat.le_of_ble_eq_true rfl⟩) ⟨zz_blR, va_recv hKc hPc (ci := 2) (q0 := 0) rfl rfl, fun U hU hW => ⟨rfl, by rw [hU]; exact hPc, va_K.moved hW.alike hKc⟩⟩ rfl rfl hl.1 rfl (lv_room (Nat.le_of_ble_eq_true rfl)) dX1_decode_18 ⟨Nat.zero_le _, Nat.zero_le _⟩)) (fun r_18 hr_18 => ?_)
  have hr_18 : nI n = r_18 := Eq.symm hr_18
  subst hr_18
  refine zn_icmp_ge (tgt := 134) hx hb dX1_decode_21 (by decide) (by omega) (by omega) (fun c_21 => ?_) (fun c_21 => ?_)
  ·
    refine lv_iload_n hx hb dX1_decode_134 rfl (lv_at hl 3 rfl) ?_
    refine zn_if_ne (tgt := 145) hx hb dX1_decode_135 (by decide) (by omega) (fun c_135 => ?_) (fun c_135 => ?_)
    ·
      refine lv_aload_n hx hb dX1_decode_145 rfl (lv_at hl 0 rfl) ?_
      refine lv_iload_n hx hb dX1_decode_146 rfl (lv_at hl 2 rfl) ?_
      have hPc := hP.sub (ws' := [(qo, .inr (2, [.ref qa, .int (nI n)])), (qa, .inl (cyI, 450, .inl t))]) [0, 1] rfl
      have hKc := hK.sub (tys' := [(cyI, .int), (cyZ, .boolean)]) [0, 1] rfl
      refine vp_callSi (va_Run.run (va_runV (As := [.int (nI g)]) (rest := []) ⟨hx, hb, hml, hown, hts⟩ (c_X3_at l dC dI cyI cyZ qo qa t n g (by omega) (by omega)) (cwV 1 hts gX1_decode_X3_at rfl rfl rfl (by decide +kernel) ⟨Nat.le_of_ble_eq_true rfl, Nat.le_of_ble_eq_true rfl⟩) ⟨zz_blR, va_recv hKc hPc (ci := 2) (q0 := 0) rfl rfl, fun U hU hW => ⟨rfl, by rw [hU]; exact hPc, va_K.moved hW.alike hKc⟩⟩ rfl rfl hl.1 rfl (lv_room (Nat.le_of_ble_eq_true rfl)) dX1_decode_147 ⟨Nat.zero_le _, Nat.zero_le _⟩)) (fun r_147 hr_147 => ?_)
      have hr_147 : zat t n g = r_147 := Eq.symm hr_147
      subst hr_147
      refine lv_iload_n hx hb dX1_decode_150 rfl (lv_at hl 3 rfl) ?_
      refine lv_ishr hx hb dX1_decode_151 ?_
      refine lv_if_eq (tgt := 159) hx hb dX1_decode_152 (by decide) (fun c_152 => ?_) (fun c_152 => ?_)
      ·
        refine lv_iconst (v := nI 0) hx hb dX1_decode_159 (by decide) ?_
        refine lv_istore (lv' := [(5, .int (nI 0)), (0, .ref qo), (1, .ref qb), (2, .int (nI g)), (3, .int (nI b)), (4, .int (nI nx))]) hx hb dX1_decode_160 hl (by decide) rfl (fun ls hl => ?_)
        refine lv_iload hx hb dX1_decode_162 (lv_at hl 0 rfl) ?_
        refine lv_if_eq (tgt := 171) hx hb dX1_decode_164 (by decide) (fun c_164 => ?_) (fun c_164 => absurd (by decide) c_164)
        refine lv_iconst (v := (-1)) hx hb dX1_decode_171 (by decide) ?_
        have e172 : nx = n := by omega
        obtain ⟨f9, e9⟩ : ∃ f9, f = f9 + 1 := ⟨f - 1, by omega⟩
        subst e9
        have hE2 : zD t n = (0, m, o) := by
          rw [← hE]
          rcases Nat.eq_zero_or_pos n with q | q
          · subst q; exact dF_end0
          · rw [zat_in (hgn q)] at c_152
            exact dF_endG (by omega) (fun h => h.elim (fun h => by omega) (fun h => h c_152))
        have hP9 := hP.sub (ws' := [(qo, .inr (2, [.ref qa, .int (nI n)])), (qa, .inl (cyI, 450, .inl t)), (qb, .inr (2, [.ref qba, .int (nI m)])), (qba, .inl (cyI, 450, .inl F))]) [0, 1, 2, 3] rfl
        have hD9 := hD.sub (ws' := [(qo, .inr (2, [.ref qa, .int (nI n)])), (qa, .inl (cyI, 450, .inl t)), (qb, .inr (2, [.ref qba, .int (nI m)])), (qba, .inl (cyI, 450, .inl F))]) [0, 1, 2, 3] (by decide) rfl
        have hK9 := hK.sub (tys' := [(cyI, .int), (cyZ, .boolean)]) [0, 1] rfl
        have hret : (-1) = zPl (zD t n).1 := by rw [hE2]; rfl
        refine zz_top hret ?_
        exact W.iret hx hb hr (fun tS ht hW => ⟨⟨_, (m, F), rfl, ⟨rfl, by rw [hE2], by rw [hE2]; exact hF, hO, by omega⟩, by rw [ht]; exact hP9, va_K.moved hW.alike hK9, hD9⟩, hS.F ht⟩) hS.2.2 dX1_decode_172
      ·
        refine lv_iconst (v := nI 1) hx hb dX1_decode_155 (by decide) ?_
        refine lv_goto (tgt := 160) hx hb dX1_decode_156 (by decide) ?_
        refine lv_istore (lv' := [(5, .int (nI 1)), (0, .ref qo), (1, .ref qb), (2, .int (nI g)), (3, .int (nI b)), (4, .int (nI nx))]) hx hb dX1_decode_160 hl (by decide) rfl (fun ls hl => ?_)
        refine lv_iload hx hb dX1_decode_162 (lv_at hl 0 rfl) ?_
        refine lv_if_eq (tgt := 171) hx hb dX1_decode_164 (by decide) (fun c_164 => absurd c_164 (by decide)) (fun c_164 => ?_)
        refine lv_iload_n hx hb dX1_decode_167 rfl (lv_at hl 3 rfl) ?_
        refine lv_goto (tgt := 172) hx hb dX1_decode_168 (by decide) ?_
        have e172 : nx = n := by omega
        obtain ⟨f9, e9⟩ : ∃ f9, f = f9 + 1 := ⟨f - 1, by omega⟩
        subst e9
        have hn0 : 0 < n := by first | omega | (rcases Nat.eq_zero_or_pos n with q | q; (rw [zat_out (by omega)] at c_152; rw [hb80 q] at c_152; exact absurd (by decide) c_152); exact q)
        have hE2 : zD t n = (g + 1, m, o) := by
          rw [← hE]
          exact dF_endB (by omega) hn0 (by first | exact Or.inl (by omega) | (rw [zat_in (hgn hn0)] at c_152; exact Or.inr c_152))
        have hP9 := hP.sub (ws' := [(qo, .inr (2, [.ref qa, .int (nI n)])), (qa, .inl (cyI, 450, .inl t)), (qb, .inr (2, [.ref qba, .int (nI m)])), (qba, .inl (cyI, 450, .inl F))]) [0, 1, 2, 3] rfl
        have hD9 := hD.sub (ws' := [(qo, .inr (2, [.ref qa, .int (nI n)])), (qa, .inl (cyI, 450, .inl t)), (qb, .inr (2, [.ref qba, .int (nI m)])), (qba, .inl (cyI, 450, .inl F))]) [0, 1, 2, 3] (by decide) rfl
        have hK9 := hK.sub (tys' := [(cyI, .int), (cyZ, .boolean)]) [0, 1] rfl
        have hret : nI g = zPl (zD t n).1 := by rw [hE2]; exact (zPl_s _).symm
        refine zz_top hret ?_
        exact W.iret hx hb hr (fun tS ht hW => ⟨⟨_, (m, F), rfl, ⟨rfl, by rw [hE2], by rw [hE2]; exact hF, hO, by omega⟩, by rw [ht]; exact hP9, va_K.moved hW.alike hK9, hD9⟩, hS.F ht⟩) hS.2.2 dX1_decode_172
    ·
      refine lv_aload_n hx hb dX1_decode_138 rfl (lv_at hl 0 rfl) ?_
      have hPc := hP.sub (ws' := [(qo, .inr (2, [.ref qa, .int (nI n)])), (qa, .inl (cyI, 450, .inl t))]) [0, 1] rfl
      have hKc := hK.sub (tys' := [(cyI, .int), (cyZ, .boolean)]) [0, 1] rfl
      refine vp_callSi (va_Run.run (va_runV (As := []) (rest := []) ⟨hx, hb, hml, hown, hts⟩ (c_X3_size l dC dI cyI cyZ qo qa t n) (cwV 0 hts gX1_decode_X3_size rfl rfl rfl (by decide +kernel) ⟨Nat.le_of_ble_eq_true rfl, Nat.le_of_ble_eq_true rfl⟩) ⟨zz_blR, va_recv hKc hPc (ci := 2) (q0 := 0) rfl rfl, fun U hU hW => ⟨rfl, by rw [hU]; exact hPc, va_K.moved hW.alike hKc⟩⟩ rfl rfl hl.1 rfl (lv_room (Nat.le_of_ble_eq_true rfl)) dX1_decode_139 ⟨Nat.zero_le _, Nat.zero_le _⟩)) (fun r_139 hr_139 => ?_)
      have hr_139 : nI n = r_139 := Eq.symm hr_139
      subst hr_139
      refine zn_if_gt (tgt := 155) hx hb dX1_decode_142 (by decide) (by omega) (fun c_142 => ?_) (fun c_142 => ?_)
      ·
        refine lv_iconst (v := nI 1) hx hb dX1_decode_155 (by decide) ?_
        refine lv_goto (tgt := 160) hx hb dX1_decode_156 (by decide) ?_
        refine lv_istore (lv' := [(5, .int (nI 1)), (0, .ref qo), (1, .ref qb), (2, .int (nI g)), (3, .int (nI b)), (4, .int (nI nx))]) hx hb dX1_decode_160 hl (by decide) rfl (fun ls hl => ?_)
        refine lv_iload hx hb dX1_decode_162 (lv_at hl 0 rfl) ?_
        refine lv_if_eq (tgt := 171) hx hb dX1_decode_164 (by decide) (fun c_164 => absurd c_164 (by decide)) (fun c_164 => ?_)
        refine lv_iload_n hx hb dX1_decode_167 rfl (lv_at hl 3 rfl) ?_
        refine lv_goto (tgt := 172) hx hb dX1_decode_168 (by decide) ?_
        have e172 : nx = n := by omega
        obtain ⟨f9, e9⟩ : ∃ f9, f = f9 + 1 := ⟨f - 1, by omega⟩
        subst e9
        have hn0 : 0 < n := by first | omega | (rcases Nat.eq_zero_or_pos n with q | q; (rw [zat_out (by omega)] at c_152; rw [hb80 q] at c_152; exact absurd (by decide) c_152); exact q)
        have hE2 : zD t n = (g + 1, m, o) := by
          rw [← hE]
          exact dF_endB (by omega) hn0 (by first | exact Or.inl (by omega) | (rw [zat_in (hgn hn0)] at c_152; exact Or.inr c_152))
        have hP9 := hP.sub (ws' := [(qo, .inr (2, [.ref qa, .int (nI n)])), (qa, .inl (cyI, 450, .inl t)), (qb, .inr (2, [.ref qba, .int (nI m)])), (qba, .inl (cyI, 450, .inl F))]) [0, 1, 2, 3] rfl
        have hD9 := hD.sub (ws' := [(qo, .inr (2, [.ref qa, .int (nI n)])), (qa, .inl (cyI, 450, .inl t)), (qb, .inr (2, [.ref qba, .int (nI m)])), (qba, .inl (cyI, 450, .inl F))]) [0, 1, 2, 3] (by decide) rfl
        have hK9 := hK.sub (tys' := [(cyI, .int), (cyZ, .boolean)]) [0, 1] rfl
        have hret : nI g = zPl (zD t n).1 := by rw [hE2]; exact (zPl_s _).symm
        refine zz_top hret ?_
        exact W.iret hx hb hr (fun tS ht hW => ⟨⟨_, (m, F), rfl, ⟨rfl, by rw [hE2], by rw [hE2]; exact hF, hO, by omega⟩, by rw [ht]; exact hP9, va_K.moved hW.alike hK9, hD9⟩, hS.F ht⟩) hS.2.2 dX1_decode_172
      ·
        refine lv_aload_n hx hb dX1_decode_145 rfl (lv_at hl 0 rfl) ?_
        refine lv_iload_n hx hb dX1_decode_146 rfl (lv_at hl 2 rfl) ?_
        have hPc := hP.sub (ws' := [(qo, .inr (2, [.ref qa, .int (nI n)])), (qa, .inl (cyI, 450, .inl t))]) [0, 1] rfl
        have hKc := hK.sub (tys' := [(cyI, .int), (cyZ, .boolean)]) [0, 1] rfl
        refine vp_callSi (va_Run.run (va_runV (As := [.int (nI g)]) (rest := []) ⟨hx, hb, hml, hown, hts⟩ (c_X3_at l dC dI cyI cyZ qo qa t n g (by omega) (by omega)) (cwV 1 hts gX1_decode_X3_at rfl rfl rfl (by decide +kernel) ⟨Nat.le_of_ble_eq_true rfl, Nat.le_of_ble_eq_true rfl⟩) ⟨zz_blR, va_recv hKc hPc (ci := 2) (q0 := 0) rfl rfl, fun U hU hW => ⟨rfl, by rw [hU]; exact hPc, va_K.moved hW.alike hKc⟩⟩ rfl rfl hl.1 rfl (lv_room (Nat.le_of_ble_eq_true rfl)) dX1_decode_147 ⟨Nat.zero_le _, Nat.zero_le _⟩)) (fun r_147 hr_147 => ?_)
        have hr_147 : zat t n g = r_147 := Eq.symm hr_147
        subst hr_147
        refine lv_iload_n hx hb dX1_decode_150 rfl (lv_at hl 3 rfl) ?_
        refine lv_ishr hx hb dX1_decode_151 ?_
        refine lv_if_eq (tgt := 159) hx hb dX1_decode_152 (by decide) (fun c_152 => ?_) (fun c_152 => ?_)
        ·
          refine lv_iconst (v := nI 0) hx hb dX1_decode_159 (by decide) ?_
          refine lv_istore (lv' := [(5, .int (nI 0)), (0, .ref qo), (1, .ref qb), (2, .int (nI g)), (3, .int (nI b)), (4, .int (nI nx))]) hx hb dX1_decode_160 hl (by decide) rfl (fun ls hl => ?_)
          refine lv_iload hx hb dX1_decode_162 (lv_at hl 0 rfl) ?_
          refine lv_if_eq (tgt := 171) hx hb dX1_decode_164 (by decide) (fun c_164 => ?_) (fun c_164 => absurd (by decide) c_164)
          refine lv_iconst (v := (-1)) hx hb dX1_decode_171 (by decide) ?_
          have e172 : nx = n := by omega
          obtain ⟨f9, e9⟩ : ∃ f9, f = f9 + 1 := ⟨f - 1, by omega⟩
          subst e9
          have hE2 : zD t n = (0, m, o) := by
            rw [← hE]
            rcases Nat.eq_zero_or_pos n with q | q
            · subst q; exact dF_end0
            · rw [zat_in (hgn q)] at c_152
              exact dF_endG (by omega) (fun h => h.elim (fun h => by omega) (fun h => h c_152))
          have hP9 := hP.sub (ws' := [(qo, .inr (2, [.ref qa, .int (nI n)])), (qa, .inl (cyI, 450, .inl t)), (qb, .inr (2, [.ref qba, .int (nI m)])), (qba, .inl (cyI, 450, .inl F))]) [0, 1, 2, 3] rfl
          have hD9 := hD.sub (ws' := [(qo, .inr (2, [.ref qa, .int (nI n)])), (qa, .inl (cyI, 450, .inl t)), (qb, .inr (2, [.ref qba, .int (nI m)])), (qba, .inl (cyI, 450, .inl F))]) [0, 1, 2, 3] (by decide) rfl
          have hK9 := hK.sub (tys' := [(cyI, .int), (cyZ, .boolean)]) [0, 1] rfl
          have hret : (-1) = zPl (zD t n).1 := by rw [hE2]; rfl
          refine zz_top hret ?_
          exact W.iret hx hb hr (fun tS ht hW => ⟨⟨_, (m, F), rfl, ⟨rfl, by rw [hE2], by rw [hE2]; exact hF, hO, by omega⟩, by rw [ht]; exact hP9, va_K.moved hW.alike hK9, hD9⟩, hS.F ht⟩) hS.2.2 dX1_decode_172
        ·
          refine lv_iconst (v := nI 1) hx hb dX1_decode_155 (by decide) ?_
          refine lv_goto (tgt := 160) hx hb dX1_decode_156 (by decide) ?_
          refine lv_istore (lv' := [(5, .int (nI 1)), (0, .ref qo), (1, .ref qb), (2, .int (nI g)), (3, .int (nI b)), (4, .int (nI nx))]) hx hb dX1_decode_160 hl (by decide) rfl (fun ls hl => ?_)
          refine lv_iload hx hb dX1_decode_162 (lv_at hl 0 rfl) ?_
          refine lv_if_eq (tgt := 171) hx hb dX1_decode_164 (by decide) (fun c_164 => absurd c_164 (by decide)) (fun c_164 => ?_)
          refine lv_iload_n hx hb dX1_decode_167 rfl (lv_at hl 3 rfl) ?_
          refine lv_goto (tgt := 172) hx hb dX1_decode_168 (by decide) ?_
          have e172 : nx = n := by omega
          obtain ⟨f9, e9⟩ : ∃ f9, f = f9 + 1 := ⟨f - 1, by omega⟩
          subst e9
          have hn0 : 0 < n := by first | omega | (rcases Nat.eq_zero_or_pos n with q | q; (rw [zat_out (by omega)] at c_152; rw [hb80 q] at c_152; exact absurd (by decide) c_152); exact q)
          have hE2 : zD t n = (g + 1, m, o) := by
            rw [← hE]
            exact dF_endB (by omega) hn0 (by first | exact Or.inl (by omega) | (rw [zat_in (hgn hn0)] at c_152; exact Or.inr c_152))
          have hP9 := hP.sub (ws' := [(qo, .inr (2, [.ref qa, .int (nI n)])), (qa, .inl (cyI, 450, .inl t)), (qb, .inr (2, [.ref qba, .int (nI m)])), (qba, .inl (cyI, 450, .inl F))]) [0, 1, 2, 3] rfl
          have hD9 := hD.sub (ws' := [(qo, .inr (2, [.ref qa, .int (nI n)])), (qa, .inl (cyI, 450, .inl t)), (qb, .inr (2, [.ref qba, .int (nI m)])), (qba, .inl (cyI, 450, .inl F))]) [0, 1, 2, 3] (by decide) rfl
          have hK9 := hK.sub (tys' := [(cyI, .int), (cyZ, .boolean)]) [0, 1] rfl
          have hret : nI g = zPl (zD t n).1 := by rw [hE2]; exact (zPl_s _).symm
          refine zz_top hret ?_
          exact W.iret hx hb hr (fun tS ht hW => ⟨⟨_, (m, F), rfl, ⟨rfl, by rw [hE2], by rw [hE2]; exact hF, hO, by omega⟩, by rw [ht]; exact hP9, va_K.moved hW.alike hK9, hD9⟩, hS.F ht⟩) hS.2.2 dX1_decode_172
  ·
    refine lv_iload hx hb dX1_decode_24 (lv_at hl 5 rfl) ?_
    refine lv_iload hx hb dX1_decode_26 (lv_at hl 4 rfl) ?_
    refine zn_icmp_ge (tgt := 34) hx hb dX1_decode_28 (by decide) (by omega) (by omega) (fun c_28 => ?_) (fun c_28 => ?_)
    ·
      have e28 : i = nx := by omega
      subst e28
      have hi9 : i < n := by omega
      obtain ⟨f9, e9⟩ : ∃ f9, f = f9 + 1 := ⟨f - 1, by omega⟩
      subst e9
      refine lv_iload_n hx hb dX1_decode_34 rfl (lv_at hl 3 rfl) ?_
      refine lv_bipush (v := nI 8) hx hb dX1_decode_35 (by decide) ?_
      refine zn_icmp_ne (tgt := 54) hx hb dX1_decode_37 (by decide) (by omega) (by omega) (fun c_37 => ?_) (fun c_37 => ?_)
      ·
        have hg9 := hg (by omega)
        refine lv_aload_n hx hb dX1_decode_54 rfl (lv_at hl 0 rfl) ?_
        refine lv_iload_n hx hb dX1_decode_55 rfl (lv_at hl 2 rfl) ?_
        have hPc := hP.sub (ws' := [(qo, .inr (2, [.ref qa, .int (nI n)])), (qa, .inl (cyI, 450, .inl t))]) [0, 1] rfl
        have hKc := hK.sub (tys' := [(cyI, .int), (cyZ, .boolean)]) [0, 1] rfl
        refine vp_callSi (va_Run.run (va_runV (As := [.int (nI g)]) (rest := []) ⟨hx, hb, hml, hown, hts⟩ (c_X3_at_in l dC dI cyI cyZ qo qa t n g (by omega) (by omega)) (cwV 1 hts gX1_decode_X3_at rfl rfl rfl (by decide +kernel) ⟨Nat.le_of_ble_eq_true rfl, Nat.le_of_ble_eq_true rfl⟩) ⟨zz_blR, va_recv hKc hPc (ci := 2) (q0 := 0) rfl rfl, fun U hU hW => ⟨rfl, by rw [hU]; exact hPc, va_K.moved hW.alike hKc⟩⟩ rfl rfl hl.1 rfl (lv_room (Nat.le_of_ble_eq_true rfl)) dX1_decode_56 ⟨Nat.zero_le _, Nat.zero_le _⟩)) (fun r_56 hr_56 => ?_)
        have hr_56 : t g = r_56 := Eq.symm hr_56
        subst hr_56
        refine lv_iload_n hx hb dX1_decode_59 rfl (lv_at hl 3 rfl) ?_
        refine lv_ishr hx hb dX1_decode_60 ?_
        refine lv_iconst (v := nI 1) hx hb dX1_decode_61 (by decide) ?_
        refine lv_iand hx hb dX1_decode_62 ?_
        refine lv_iconst (v := nI 1) hx hb dX1_decode_63 (by decide) ?_
        refine lv_icmp_ne (tgt := 71) hx hb dX1_decode_64 (by decide) (fun c_64 => ?_) (fun c_64 => ?_)
        ·
          refine lv_iconst (v := nI 0) hx hb dX1_decode_71 (by decide) ?_
          refine lv_istore (lv' := [(6, .int (nI 0)), (0, .ref qo), (1, .ref qb), (2, .int (nI g)), (3, .int (nI b)), (4, .int (nI i)), (5, .int (nI i))]) hx hb dX1_decode_72 hl (by decide) rfl (fun ls hl => ?_)
          refine lv_iload hx hb dX1_decode_74 (lv_at hl 0 rfl) ?_
          refine lv_if_eq (tgt := 89) hx hb dX1_decode_76 (by decide) (fun c_76 => ?_) (fun c_76 => absurd (by decide) c_76)
          refine lv_aload_n hx hb dX1_decode_89 rfl (lv_at hl 1 rfl) ?_
          refine lv_iload hx hb dX1_decode_90 (lv_at hl 6 rfl) ?_
          refine lv_aload_n hx hb dX1_decode_92 rfl (lv_at hl 2 rfl) ?_
          by_cases q1 : n ≤ i + 1
          ·
            have hPc := hP.sub (ws' := [(qo, .inr (2, [.ref qa, .int (nI n)])), (qa, .inl (cyI, 450, .inl t)), (qb, .inr (2, [.ref qba, .int (nI m)])), (qba, .inl (cyI, 450, .inl F))]) [0, 1, 2, 3] rfl
            have hKc := hK.sub (tys' := [(cyI, .int), (cyZ, .boolean)]) [0, 1] rfl
            refine vp_callSi (va_Run.run (va_runS (As := [.ref qo, .int (nI i), .ref qb]) (rest := []) ⟨hx, hb, hml, hown, hts⟩ (c_X1_row_half l dC dI cyI cyZ qo qa qb qba t n F m i (by omega) (by omega) (q1)) (va_cwS 3 hts gX1_decode_X1_decodeRow rfl rfl rfl (by decide +kernel) ⟨Nat.le_of_ble_eq_true rfl, Nat.le_of_ble_eq_true rfl⟩) ⟨zz_blR, fun U hU hW => ⟨rfl, by rw [hU]; exact hPc, va_K.moved hW.alike hKc⟩⟩ rfl rfl hl.1 rfl (lv_room (Nat.le_of_ble_eq_true rfl)) dX1_decode_93 ⟨Nat.zero_le _, Nat.zero_le _⟩)) (fun r_93 hr_93 => ?_)
            have hr_93 : nI n = r_93 := Eq.symm hr_93
            subst hr_93
            refine lv_istore (lv' := [(7, .int (nI n)), (6, .int (nI 0)), (0, .ref qo), (1, .ref qb), (2, .int (nI g)), (3, .int (nI b)), (4, .int (nI i)), (5, .int (nI i))]) hx hb dX1_decode_96 hl (by decide) rfl (fun ls hl => ?_)
            refine lv_iload hx hb dX1_decode_98 (lv_at hl 0 rfl) ?_
            refine lv_iconst (v := (-1)) hx hb dX1_decode_100 (by decide) ?_
            refine lv_icmp_eq (tgt := 107) hx hb dX1_decode_101 (by decide) (fun c_101 => absurd c_101 (nI_nm1 (by omega))) (fun c_101 => ?_)
            refine lv_iload hx hb dX1_decode_104 (lv_at hl 0 rfl) ?_
            have hE2 : zD t n = (n + 1, m, o) := by
              rw [← hE]
              first | exact dF_oneB hi9 c_37 c_64 q3 | exact dF_half hi9 c_37 c_64 q1 | exact dF_rowB hi9 c_37 c_64 q1 q2
            have hP9 := hP.sub (ws' := [(qo, .inr (2, [.ref qa, .int (nI n)])), (qa, .inl (cyI, 450, .inl t)), (qb, .inr (2, [.ref qba, .int (nI m)])), (qba, .inl (cyI, 450, .inl F))]) [0, 1, 2, 3] rfl
            have hD9 := hD.sub (ws' := [(qo, .inr (2, [.ref qa, .int (nI n)])), (qa, .inl (cyI, 450, .inl t)), (qb, .inr (2, [.ref qba, .int (nI m)])), (qba, .inl (cyI, 450, .inl F))]) [0, 1, 2, 3] (by decide) rfl
            have hK9 := hK.sub (tys' := [(cyI, .int), (cyZ, .boolean)]) [0, 1] rfl
            have hret : nI n = zPl (zD t n).1 := by rw [hE2]; exact (zPl_s _).symm
            refine zz_top hret ?_
            exact W.iret hx hb hr (fun tS ht hW => ⟨⟨_, (m, F), rfl, ⟨rfl, by rw [hE2], by rw [hE2]; exact hF, hO, by omega⟩, by rw [ht]; exact hP9, va_K.moved hW.alike hK9, hD9⟩, hS.F ht⟩) hS.2.2 dX1_decode_106
          ·
            have v1 := (zO_vN (ht i (by omega))).2
            have v2 := (zO_vN (ht (i + 1) (by omega))).2
            by_cases q2 : m < vN (t i) + 1 ∨ 400 < m + (vN (t (i + 1)) + 3)
            ·
              have hPc := hP.sub (ws' := [(qo, .inr (2, [.ref qa, .int (nI n)])), (qa, .inl (cyI, 450, .inl t)), (qb, .inr (2, [.ref qba, .int (nI m)])), (qba, .inl (cyI, 450, .inl F))]) [0, 1, 2, 3] rfl
              have hKc := hK.sub (tys' := [(cyI, .int), (cyZ, .boolean)]) [0, 1] rfl
              refine vp_callSi (va_Run.run (va_runS (As := [.ref qo, .int (nI i), .ref qb]) (rest := []) ⟨hx, hb, hml, hown, hts⟩ (c_X1_row_bad l dC dI cyI cyZ qo qa qb qba t n F m i (by omega) (by omega) (by omega) (q1) (q2) (ht)) (va_cwS 3 hts gX1_decode_X1_decodeRow rfl rfl rfl (by decide +kernel) ⟨Nat.le_of_ble_eq_true rfl, Nat.le_of_ble_eq_true rfl⟩) ⟨zz_blR, fun U hU hW => ⟨rfl, by rw [hU]; exact hPc, va_K.moved hW.alike hKc⟩⟩ rfl rfl hl.1 rfl (lv_room (Nat.le_of_ble_eq_true rfl)) dX1_decode_93 ⟨Nat.zero_le _, Nat.zero_le _⟩)) (fun r_93 hr_93 => ?_)
              have hr_93 : nI i = r_93 := Eq.symm hr_93
              subst hr_93
              refine lv_istore (lv' := [(7, .int (nI i)), (6, .int (nI 0)), (0, .ref qo), (1, .ref qb), (2, .int (nI g)), (3, .int (nI b)), (4, .int (nI i)), (5, .int (nI i))]) hx hb dX1_decode_96 hl (by decide) rfl (fun ls hl => ?_)
              refine lv_iload hx hb dX1_decode_98 (lv_at hl 0 rfl) ?_
              refine lv_iconst (v := (-1)) hx hb dX1_decode_100 (by decide) ?_
              refine lv_icmp_eq (tgt := 107) hx hb dX1_decode_101 (by decide) (fun c_101 => absurd c_101 (nI_nm1 (by omega))) (fun c_101 => ?_)
              refine lv_iload hx hb dX1_decode_104 (lv_at hl 0 rfl) ?_
              have hE2 : zD t n = (i + 1, m, o) := by
                rw [← hE]
                first | exact dF_oneB hi9 c_37 c_64 q3 | exact dF_half hi9 c_37 c_64 q1 | exact dF_rowB hi9 c_37 c_64 q1 q2
              have hP9 := hP.sub (ws' := [(qo, .inr (2, [.ref qa, .int (nI n)])), (qa, .inl (cyI, 450, .inl t)), (qb, .inr (2, [.ref qba, .int (nI m)])), (qba, .inl (cyI, 450, .inl F))]) [0, 1, 2, 3] rfl
              have hD9 := hD.sub (ws' := [(qo, .inr (2, [.ref qa, .int (nI n)])), (qa, .inl (cyI, 450, .inl t)), (qb, .inr (2, [.ref qba, .int (nI m)])), (qba, .inl (cyI, 450, .inl F))]) [0, 1, 2, 3] (by decide) rfl
              have hK9 := hK.sub (tys' := [(cyI, .int), (cyZ, .boolean)]) [0, 1] rfl
              have hret : nI i = zPl (zD t n).1 := by rw [hE2]; exact (zPl_s _).symm
              refine zz_top hret ?_
              exact W.iret hx hb hr (fun tS ht hW => ⟨⟨_, (m, F), rfl, ⟨rfl, by rw [hE2], by rw [hE2]; exact hF, hO, by omega⟩, by rw [ht]; exact hP9, va_K.moved hW.alike hK9, hD9⟩, hS.F ht⟩) hS.2.2 dX1_decode_106
            ·
              have hPc := hP.sub (ws' := [(qo, .inr (2, [.ref qa, .int (nI n)])), (qa, .inl (cyI, 450, .inl t)), (qb, .inr (2, [.ref qba, .int (nI m)])), (qba, .inl (cyI, 450, .inl F))]) [0, 1, 2, 3] rfl
              have hKc := hK.sub (tys' := [(cyI, .int), (cyZ, .boolean)]) [0, 1] rfl
              have hDc := hD.sub (ws' := [(qo, .inr (2, [.ref qa, .int (nI n)])), (qa, .inl (cyI, 450, .inl t)), (qb, .inr (2, [.ref qba, .int (nI m)])), (qba, .inl (cyI, 450, .inl F))]) [0, 1, 2, 3] (by decide) rfl
              have hFc := va_free (wc := [(qo, .inr (2, [.ref qa, .int (nI n)])), (qa, .inl (cyI, 450, .inl t)), (qb, .inr (2, [.ref qba, .int (nI m)])), (qba, .inl (cyI, 450, .inl F))]) hD hS hA [0, 1, 2, 3] rfl
              refine va_calli (va_runS (As := [.ref qo, .int (nI i), .ref qb]) (rest := []) ⟨hx, hb, hml, hown, hts⟩ (c_X1_row_ok l dC dI cyI cyZ qo qa qb qba H.size t n F m i (by omega) (by omega) (q1) (q2) (ht) (hO)) (va_cwS 3 hts gX1_decode_X1_decodeRow rfl rfl rfl (by decide +kernel) ⟨Nat.le_of_ble_eq_true rfl, Nat.le_of_ble_eq_true rfl⟩) ⟨zz_blW, fun U hU hW => ⟨rfl, by rw [hU], by rw [hU]; exact hPc, va_K.moved hW.alike hKc, hDc.weaken (fun _ _ _ _ => trivial)⟩⟩ rfl rfl hl.1 rfl (lv_room (Nat.le_of_ble_eq_true rfl)) dX1_decode_93 ⟨Nat.zero_le _, Nat.zero_le _⟩) hS (fun q _ h => hFc q h) hFc (fun r_93 uU tS H1 locs ht9 hvm9 hw9 hB9 hz1 hk1 hS => ?_)
              obtain ⟨hP1, hK1, hD1⟩ := hB9
              have hw9 : (r_93 = (-1)) := hw9
              have hr_93 := hw9
              have hr_93 := Eq.symm hr_93
              subst hr_93
              rw [ht9] at hP1
              have hK1 := va_K.moved hvm9.symm hK1
              obtain ⟨hP, hD⟩ := va_join (wr := []) (w1 := [(qo, .inr (2, [.ref qa, .int (nI n)])), (qa, .inl (cyI, 450, .inl t)), (qb, .inr (2, [.ref qba, .int (nI (m + (vN (t (i + 1)) + 3)))])), (qba, .inl (cyI, 450, .inl (zrep F m (vN (t i) + 1) (vN (t (i + 1)) + 3))))]) hP hD [0, 1, 2, 3] [] rfl rfl (by decide) (by decide) hk1 hFc hP1 hD1
              generalize H1 = H at hP hS ⊢
              have hP : va_P (dC, dI) vwCl [(qo, .inr (2, [.ref qa, .int (nI n)])), (qa, .inl (cyI, 450, .inl t)), (qb, .inr (2, [.ref qba, .int (nI (m + (vN (t (i + 1)) + 3)))])), (qba, .inl (cyI, 450, .inl (zrep F m (vN (t i) + 1) (vN (t (i + 1)) + 3))))] H := hP
              have hD : va_D A [(qo, .inr (2, [.ref qa, .int (nI n)])), (qa, .inl (cyI, 450, .inl t)), (qb, .inr (2, [.ref qba, .int (nI (m + (vN (t (i + 1)) + 3)))])), (qba, .inl (cyI, 450, .inl (zrep F m (vN (t i) + 1) (vN (t (i + 1)) + 3))))] := hD
              refine lv_istore (lv' := [(7, .int (-1)), (6, .int (nI 0)), (0, .ref qo), (1, .ref qb), (2, .int (nI g)), (3, .int (nI b)), (4, .int (nI i)), (5, .int (nI i))]) hx hb dX1_decode_96 hl (by decide) rfl (fun ls hl => ?_)
              refine lv_iload hx hb dX1_decode_98 (lv_at hl 0 rfl) ?_
              refine lv_iconst (v := (-1)) hx hb dX1_decode_100 (by decide) ?_
              refine lv_icmp_eq (tgt := 107) hx hb dX1_decode_101 (by decide) (fun c_101 => ?_) (fun c_101 => absurd rfl c_101)
              refine lv_iload hx hb dX1_decode_107 (lv_at hl 1 rfl) ?_
              refine lv_if_eq (tgt := 119) hx hb dX1_decode_109 (by decide) (fun c_109 => ?_) (fun c_109 => absurd (by decide) c_109)
              refine lv_iload hx hb dX1_decode_119 (lv_at hl 7 rfl) ?_
              refine lv_iconst (v := nI 2) hx hb dX1_decode_121 (by decide) ?_
              refine lv_iadd hx hb dX1_decode_122 ?_
              refine zz_top (nI_add i 2) ?_
              refine lv_istore (lv' := [(4, .int (nI (i + 2))), (7, .int (-1)), (6, .int (nI 0)), (0, .ref qo), (1, .ref qb), (2, .int (nI g)), (3, .int (nI b)), (5, .int (nI i))]) hx hb dX1_decode_123 hl (by decide) rfl (fun ls hl => ?_)
              refine lv_iinc (v := nI (b + 1)) (lv' := [(3, .int (nI (b + 1))), (4, .int (nI (i + 2))), (7, .int (-1)), (6, .int (nI 0)), (0, .ref qo), (1, .ref qb), (2, .int (nI g)), (5, .int (nI i))]) hx hb dX1_decode_125 hl (k := 6) rfl (nI_add b 1) (by decide) rfl (fun ls hl => ?_)
              refine lv_iinc (v := nI (i + 1)) (lv' := [(5, .int (nI (i + 1))), (3, .int (nI (b + 1))), (4, .int (nI (i + 2))), (7, .int (-1)), (6, .int (nI 0)), (0, .ref qo), (1, .ref qb), (2, .int (nI g))]) hx hb dX1_decode_128 hl (k := 7) rfl (nI_add i 1) (by decide) rfl (fun ls hl => ?_)
              refine lv_goto (tgt := 15) hx hb dX1_decode_131 (by decide) ?_
              exact ih15 (i + 1, i + 2, m + (vN (t (i + 1)) + 3), g, b + 1, f9, zrep o m (vN (t i) + 1) (vN (t (i + 1)) + 3), zrep F m (vN (t i) + 1) (vN (t (i + 1)) + 3)) _ _ _ ⟨by omega, by omega, by omega, by omega, by omega, fun _ => by have := hg (by omega); omega, by omega, by omega, by omega, (dF_row hi9 c_37 c_64 q1 q2).symm.trans hE, zrep_cong (by omega) (by omega) hF _, zrep_O F (by omega) (by omega) hO _, hP, hD, hS, lv_sub hl [5, 6, 7, 1, 2, 0] rfl⟩ (by first | omega | (dsimp only; omega))
        ·
          refine lv_iconst (v := nI 1) hx hb dX1_decode_67 (by decide) ?_
          refine lv_goto (tgt := 72) hx hb dX1_decode_68 (by decide) ?_
          refine lv_istore (lv' := [(6, .int (nI 1)), (0, .ref qo), (1, .ref qb), (2, .int (nI g)), (3, .int (nI b)), (4, .int (nI i)), (5, .int (nI i))]) hx hb dX1_decode_72 hl (by decide) rfl (fun ls hl => ?_)
          refine lv_iload hx hb dX1_decode_74 (lv_at hl 0 rfl) ?_
          refine lv_if_eq (tgt := 89) hx hb dX1_decode_76 (by decide) (fun c_76 => absurd c_76 (by decide)) (fun c_76 => ?_)
          refine lv_aload_n hx hb dX1_decode_79 rfl (lv_at hl 1 rfl) ?_
          refine lv_iload hx hb dX1_decode_80 (lv_at hl 6 rfl) ?_
          refine lv_aload_n hx hb dX1_decode_82 rfl (lv_at hl 2 rfl) ?_
          by_cases q3 : 400 < m + 1
          ·
            have hPc := hP.sub (ws' := [(qo, .inr (2, [.ref qa, .int (nI n)])), (qa, .inl (cyI, 450, .inl t)), (qb, .inr (2, [.ref qba, .int (nI m)])), (qba, .inl (cyI, 450, .inl F))]) [0, 1, 2, 3] rfl
            have hKc := hK.sub (tys' := [(cyI, .int), (cyZ, .boolean)]) [0, 1] rfl
            refine vp_callSi (va_Run.run (va_runS (As := [.ref qo, .int (nI i), .ref qb]) (rest := []) ⟨hx, hb, hml, hown, hts⟩ (c_X1_single_bad l dC dI cyI cyZ qo qa qb qba t n F m i (by omega) (by omega) (by omega) (q3)) (va_cwS 3 hts gX1_decode_X1_decodeSingle rfl rfl rfl (by decide +kernel) ⟨Nat.le_of_ble_eq_true rfl, Nat.le_of_ble_eq_true rfl⟩) ⟨zz_blR, fun U hU hW => ⟨rfl, by rw [hU]; exact hPc, va_K.moved hW.alike hKc⟩⟩ rfl rfl hl.1 rfl (lv_room (Nat.le_of_ble_eq_true rfl)) dX1_decode_83 ⟨Nat.zero_le _, Nat.zero_le _⟩)) (fun r_83 hr_83 => ?_)
            have hr_83 : nI i = r_83 := Eq.symm hr_83
            subst hr_83
            refine lv_goto (tgt := 96) hx hb dX1_decode_86 (by decide) ?_
            refine lv_istore (lv' := [(7, .int (nI i)), (6, .int (nI 1)), (0, .ref qo), (1, .ref qb), (2, .int (nI g)), (3, .int (nI b)), (4, .int (nI i)), (5, .int (nI i))]) hx hb dX1_decode_96 hl (by decide) rfl (fun ls hl => ?_)
            refine lv_iload hx hb dX1_decode_98 (lv_at hl 0 rfl) ?_
            refine lv_iconst (v := (-1)) hx hb dX1_decode_100 (by decide) ?_
            refine lv_icmp_eq (tgt := 107) hx hb dX1_decode_101 (by decide) (fun c_101 => absurd c_101 (nI_nm1 (by omega))) (fun c_101 => ?_)
            refine lv_iload hx hb dX1_decode_104 (lv_at hl 0 rfl) ?_
            have hE2 : zD t n = (i + 1, m, o) := by
              rw [← hE]
              first | exact dF_oneB hi9 c_37 c_64 q3 | exact dF_half hi9 c_37 c_64 q1 | exact dF_rowB hi9 c_37 c_64 q1 q2
            have hP9 := hP.sub (ws' := [(qo, .inr (2, [.ref qa, .int (nI n)])), (qa, .inl (cyI, 450, .inl t)), (qb, .inr (2, [.ref qba, .int (nI m)])), (qba, .inl (cyI, 450, .inl F))]) [0, 1, 2, 3] rfl
            have hD9 := hD.sub (ws' := [(qo, .inr (2, [.ref qa, .int (nI n)])), (qa, .inl (cyI, 450, .inl t)), (qb, .inr (2, [.ref qba, .int (nI m)])), (qba, .inl (cyI, 450, .inl F))]) [0, 1, 2, 3] (by decide) rfl
            have hK9 := hK.sub (tys' := [(cyI, .int), (cyZ, .boolean)]) [0, 1] rfl
            have hret : nI i = zPl (zD t n).1 := by rw [hE2]; exact (zPl_s _).symm
            refine zz_top hret ?_
            exact W.iret hx hb hr (fun tS ht hW => ⟨⟨_, (m, F), rfl, ⟨rfl, by rw [hE2], by rw [hE2]; exact hF, hO, by omega⟩, by rw [ht]; exact hP9, va_K.moved hW.alike hK9, hD9⟩, hS.F ht⟩) hS.2.2 dX1_decode_106
          ·
            have hPc := hP.sub (ws' := [(qo, .inr (2, [.ref qa, .int (nI n)])), (qa, .inl (cyI, 450, .inl t)), (qb, .inr (2, [.ref qba, .int (nI m)])), (qba, .inl (cyI, 450, .inl F))]) [0, 1, 2, 3] rfl
            have hKc := hK.sub (tys' := [(cyI, .int), (cyZ, .boolean)]) [0, 1] rfl
            have hDc := hD.sub (ws' := [(qo, .inr (2, [.ref qa, .int (nI n)])), (qa, .inl (cyI, 450, .inl t)), (qb, .inr (2, [.ref qba, .int (nI m)])), (qba, .inl (cyI, 450, .inl F))]) [0, 1, 2, 3] (by decide) rfl
            have hFc := va_free (wc := [(qo, .inr (2, [.ref qa, .int (nI n)])), (qa, .inl (cyI, 450, .inl t)), (qb, .inr (2, [.ref qba, .int (nI m)])), (qba, .inl (cyI, 450, .inl F))]) hD hS hA [0, 1, 2, 3] rfl
            refine va_calli (va_runS (As := [.ref qo, .int (nI i), .ref qb]) (rest := []) ⟨hx, hb, hml, hown, hts⟩ (c_X1_single_ok l dC dI cyI cyZ qo qa qb qba H.size t n F m i (by omega) (by omega) (q3) (ht)) (va_cwS 3 hts gX1_decode_X1_decodeSingle rfl rfl rfl (by decide +kernel) ⟨Nat.le_of_ble_eq_true rfl, Nat.le_of_ble_eq_true rfl⟩) ⟨zz_blW, fun U hU hW => ⟨rfl, by rw [hU], by rw [hU]; exact hPc, va_K.moved hW.alike hKc, hDc.weaken (fun _ _ _ _ => trivial)⟩⟩ rfl rfl hl.1 rfl (lv_room (Nat.le_of_ble_eq_true rfl)) dX1_decode_83 ⟨Nat.zero_le _, Nat.zero_le _⟩) hS (fun q _ h => hFc q h) hFc (fun r_83 uU tS H1 locs ht9 hvm9 hw9 hB9 hz1 hk1 hS => ?_)
            obtain ⟨hP1, hK1, hD1⟩ := hB9
            have hw9 : (r_83 = (-1)) := hw9
            have hr_83 := hw9
            have hr_83 := Eq.symm hr_83
            subst hr_83
            rw [ht9] at hP1
            have hK1 := va_K.moved hvm9.symm hK1
            obtain ⟨hP, hD⟩ := va_join (wr := []) (w1 := [(qo, .inr (2, [.ref qa, .int (nI n)])), (qa, .inl (cyI, 450, .inl t)), (qb, .inr (2, [.ref qba, .int (nI (m + 1))])), (qba, .inl (cyI, 450, .inl (upd F m (t i))))]) hP hD [0, 1, 2, 3] [] rfl rfl (by decide) (by decide) hk1 hFc hP1 hD1
            generalize H1 = H at hP hS ⊢
            have hP : va_P (dC, dI) vwCl [(qo, .inr (2, [.ref qa, .int (nI n)])), (qa, .inl (cyI, 450, .inl t)), (qb, .inr (2, [.ref qba, .int (nI (m + 1))])), (qba, .inl (cyI, 450, .inl (upd F m (t i))))] H := hP
            have hD : va_D A [(qo, .inr (2, [.ref qa, .int (nI n)])), (qa, .inl (cyI, 450, .inl t)), (qb, .inr (2, [.ref qba, .int (nI (m + 1))])), (qba, .inl (cyI, 450, .inl (upd F m (t i))))] := hD
            refine lv_goto (tgt := 96) hx hb dX1_decode_86 (by decide) ?_
            refine lv_istore (lv' := [(7, .int (-1)), (6, .int (nI 1)), (0, .ref qo), (1, .ref qb), (2, .int (nI g)), (3, .int (nI b)), (4, .int (nI i)), (5, .int (nI i))]) hx hb dX1_decode_96 hl (by decide) rfl (fun ls hl => ?_)
            refine lv_iload hx hb dX1_decode_98 (lv_at hl 0 rfl) ?_
            refine lv_iconst (v := (-1)) hx hb dX1_decode_100 (by decide) ?_
            refine lv_icmp_eq (tgt := 107) hx hb dX1_decode_101 (by decide) (fun c_101 => ?_) (fun c_101 => absurd rfl c_101)
            refine lv_iload hx hb dX1_decode_107 (lv_at hl 1 rfl) ?_
            refine lv_if_eq (tgt := 119) hx hb dX1_decode_109 (by decide) (fun c_109 => absurd c_109 (by decide)) (fun c_109 => ?_)
            refine lv_iload hx hb dX1_decode_112 (lv_at hl 7 rfl) ?_
            refine lv_iconst (v := nI 1) hx hb dX1_decode_114 (by decide) ?_
            refine lv_iadd hx hb dX1_decode_115 ?_
            refine zz_top (nI_add i 1) ?_
            refine lv_goto (tgt := 123) hx hb dX1_decode_116 (by decide) ?_
            refine lv_istore (lv' := [(4, .int (nI (i + 1))), (7, .int (-1)), (6, .int (nI 1)), (0, .ref qo), (1, .ref qb), (2, .int (nI g)), (3, .int (nI b)), (5, .int (nI i))]) hx hb dX1_decode_123 hl (by decide) rfl (fun ls hl => ?_)
            refine lv_iinc (v := nI (b + 1)) (lv' := [(3, .int (nI (b + 1))), (4, .int (nI (i + 1))), (7, .int (-1)), (6, .int (nI 1)), (0, .ref qo), (1, .ref qb), (2, .int (nI g)), (5, .int (nI i))]) hx hb dX1_decode_125 hl (k := 6) rfl (nI_add b 1) (by decide) rfl (fun ls hl => ?_)
            refine lv_iinc (v := nI (i + 1)) (lv' := [(5, .int (nI (i + 1))), (3, .int (nI (b + 1))), (4, .int (nI (i + 1))), (7, .int (-1)), (6, .int (nI 1)), (0, .ref qo), (1, .ref qb), (2, .int (nI g))]) hx hb dX1_decode_128 hl (k := 7) rfl (nI_add i 1) (by decide) rfl (fun ls hl => ?_)
            refine lv_goto (tgt := 15) hx hb dX1_decode_131 (by decide) ?_
            exact ih15 (i + 1, i + 1, m + 1, g, b + 1, f9, upd o m (t i), upd F m (t i)) _ _ _ ⟨by omega, by omega, by omega, by omega, by omega, fun _ => by have := hg (by omega); omega, by omega, by omega, by omega, (dF_one hi9 c_37 c_64 q3).symm.trans hE, upd_new hF rfl, arr_O hO (ht i hi9), hP, hD, hS, lv_sub hl [5, 6, 7, 1, 2, 0] rfl⟩ (by first | omega | (dsimp only; omega))
      ·
        subst c_37
        refine lv_iload hx hb dX1_decode_40 (lv_at hl 5 rfl) ?_
        refine lv_istore_n (lv' := [(2, .int (nI i)), (0, .ref qo), (1, .ref qb), (3, .int (nI 8)), (4, .int (nI i)), (5, .int (nI i))]) hx hb dX1_decode_42 rfl hl (by decide) rfl (fun ls hl => ?_)
        refine lv_iconst (v := nI 0) hx hb dX1_decode_43 (by decide) ?_
        refine lv_istore_n (lv' := [(3, .int (nI 0)), (2, .int (nI i)), (0, .ref qo), (1, .ref qb), (4, .int (nI i)), (5, .int (nI i))]) hx hb dX1_decode_44 rfl hl (by decide) rfl (fun ls hl => ?_)
        refine lv_iload hx hb dX1_decode_45 (lv_at hl 5 rfl) ?_
        refine lv_iconst (v := nI 1) hx hb dX1_decode_47 (by decide) ?_
        refine lv_iadd hx hb dX1_decode_48 ?_
        refine zz_top (nI_add i 1) ?_
        refine lv_istore (lv' := [(4, .int (nI (i + 1))), (3, .int (nI 0)), (2, .int (nI i)), (0, .ref qo), (1, .ref qb), (5, .int (nI i))]) hx hb dX1_decode_49 hl (by decide) rfl (fun ls hl => ?_)
        refine lv_goto (tgt := 128) hx hb dX1_decode_51 (by decide) ?_
        refine lv_iinc (v := nI (i + 1)) (lv' := [(5, .int (nI (i + 1))), (4, .int (nI (i + 1))), (3, .int (nI 0)), (2, .int (nI i)), (0, .ref qo), (1, .ref qb)]) hx hb dX1_decode_128 hl (k := 5) rfl (nI_add i 1) (by decide) rfl (fun ls hl => ?_)
        refine lv_goto (tgt := 15) hx hb dX1_decode_131 (by decide) ?_
        exact ih15 (i + 1, i + 1, m, i, 0, f9, o, F) _ _ _ ⟨by omega, by omega, by omega, by omega, by omega, fun _ => by omega, by omega, by omega, by omega, (dF_flag hi9).symm.trans hE, hF, hO, hP, hD, hS, lv_sub hl [4, 5, 3, 2, 1, 0] rfl⟩ (by first | omega | (dsimp only; omega))
    ·
      refine lv_goto (tgt := 128) hx hb dX1_decode_31 (by decide) ?_
      refine lv_iinc (v := nI (i + 1)) (lv' := [(5, .int (nI (i + 1))), (0, .ref qo), (1, .ref qb), (2, .int (nI g)), (3, .int (nI b)), (4, .int (nI nx))]) hx hb dX1_decode_128 hl (k := 5) rfl (nI_add i 1) (by decide) rfl (fun ls hl => ?_)
      refine lv_goto (tgt := 15) hx hb dX1_decode_131 (by decide) ?_
      exact ih15 (i + 1, nx, m, g, b, f, o, F) _ _ _ ⟨by omega, by omega, by omega, by omega, by omega, hg, by omega, by omega, by omega, hE, hF, hO, hP, hD, hS, lv_sub hl [1, 2, 3, 4, 5, 0] rfl⟩ (by first | omega | (dsimp only; omega))
