set_option maxHeartbeats 4000000 in
set_option maxRecDepth 100000 in
theorem c_X0_hasAllParts (l : Launch) (dC : Nat → ClassId) (dI : Nat → Nat → Nat) (cyI cyZ : ClassId) (qc qwh qlv qd qw : Nat) (WH LV : Nat → Int32) (sa : Int32) (w : Nat → Int32) (on : Bool) (lf : Int32) (dn : Nat) (b : Nat) (hb9 : b < 64) : Met l yX0_hasAllParts wsX0_hasAllParts ({ frames := 2, cells := 0, slots := 0, locals := 43 }) (va_Pc [.ref qc, .int (nI b)] (fun U => va_P (dC, dI) vwCl [(qc, .inr (0, [.ref qd, .ref qwh, .ref qlv, .int sa])), (qwh, .inl (cyZ, 64, .inl WH)), (qlv, .inl (cyZ, 64, .inl LV)), (qd, .inr (1, [.ref qw, .int (bI on), .int lf, .int (nI dn)])), (qw, .inl (cyI, 512, .inl w))] U.heap ∧ va_K (dC, dI) vwCl [(cyI, .int), (cyZ, .boolean)] U)) (vp_Si (fun r => r = bI (kAll w b))) 0 0 (fun _ => False) := by
  refine Met.ofW (cc := cX0_hasAllParts) (maxL := 4) (ret := (some .boolean)) (by decide) rfl ?_
  intro pz ez sS mM args below meth cC s₁ B hml hv
  obtain ⟨rfl, hP, hK⟩ := hv
  have hx := B.exec
  have hb := B.bytes
  have hr := B.returns
  have hts := atoms_spec (ws := wsX0_hasAllParts) B.pre
  have hown : sS.vm.findClass RX0 = some mM.cls := findClass_of_methodNamed B.named
  have hlocks := B.notSynchronized
  have iwX0 : ∀ w ∈ wsX00, w ∈ wsX0_hasAllParts := by decide +kernel
  have fk22 := hts (.fieldLink RX0 22 "CodedStore$Catalog" "disk" "LCodedStore$Disk;") (by decide +kernel)
  have hl := lv_entry ([.ref qc, .int (nI b)]) (n := 4) (Nat.le_of_ble_eq_true rfl)
  rw [lg_entry_eq]
  generalize (lg_sl ([.ref qc, .int (nI b)]) ++ List.replicate (4 - (lg_sl ([.ref qc, .int (nI b)])).length) Slot.unset).toArray = ls at hl ⊢
  have hl : lv_has ls 4 [(0, .ref qc), (1, .int (nI b))] := hl
  refine lv_iconst (v := nI 0) hx hb dX0_hasAllParts_0 (by decide) ?_
  refine lv_istore_n (lv' := [(2, .int (nI 0)), (0, .ref qc), (1, .int (nI b))]) hx hb dX0_hasAllParts_1 rfl hl (by decide) rfl (fun ls hl => ?_)
  refine lv_iconst (v := nI 0) hx hb dX0_hasAllParts_2 (by decide) ?_
  refine lv_istore_n (lv' := [(3, .int (nI 0)), (2, .int (nI 0)), (0, .ref qc), (1, .int (nI b))]) hx hb dX0_hasAllParts_3 rfl hl (by decide) rfl (fun ls hl => ?_)
  refine zz_loopR (pc := 4) (μ := fun (k : Nat) => 64 - k) (Inv := fun (k : Nat) (ls : Array Slot) => (k ≤ 64) ∧ lv_has ls 4 [(0, .ref qc), (1, .int (nI b)), (2, .int (nI (fb_ct (kSame w b) k))), (3, .int (nI k))]) (x0 := (0)) ⟨by omega, lv_sub hl [2, 3, 1, 0] rfl⟩ ?_
  intro k ls hI ih4
  obtain ⟨hk, hl⟩ := hI
  have hl : lv_has ls 4 [(0, .ref qc), (1, .int (nI b)), (2, .int (nI (fb_ct (kSame w b) k))), (3, .int (nI k))] := hl
  have hk : k ≤ 64 := hk
  refine lv_iload_n hx hb dX0_hasAllParts_4 rfl (lv_at hl 3 rfl) ?_
  refine lv_bipush (v := nI 64) hx hb dX0_hasAllParts_5 (by decide) ?_
  refine zn_icmp_ge (tgt := 38) hx hb dX0_hasAllParts_7 (by decide) (by omega) (by omega) (fun c_7 => ?_) (fun c_7 => ?_)
  ·
    refine lv_iload_n hx hb dX0_hasAllParts_38 rfl (lv_at hl 2 rfl) ?_
    refine lv_aload_n hx hb dX0_hasAllParts_39 rfl (lv_at hl 0 rfl) ?_
    refine va_get (D := (dC, dI)) (ci := 0) (v := .ref qd) (C := RX0) (T := TX0) (N := 4) hx hb hts iwX0 hown hK hP 0 rfl rfl 0 (by decide) fk22 (fun _ h9 => h9) rfl dX0_hasAllParts_40 ?_
    refine lv_iload_n hx hb dX0_hasAllParts_43 rfl (lv_at hl 1 rfl) ?_
    have hPc := hP.sub (ws' := [(qd, .inr (1, [.ref qw, .int (bI on), .int lf, .int (nI dn)])), (qw, .inl (cyI, 512, .inl w))]) [3, 4] rfl
    have hKc := hK.sub (tys' := [(cyI, .int), (cyZ, .boolean)]) [0, 1] rfl
    refine vp_callSi (va_Run.run (va_runV (As := [.int (nI b)]) (rest := [.int (nI (fb_ct (kSame w b) k))]) ⟨hx, hb, hml, hown, hts⟩ (c_X2_partsOf l dC dI cyI cyZ qd qw w on lf dn b (by omega)) (cwV 1 hts gX0_hasAllParts_X2_partsOf rfl rfl rfl (by decide +kernel) ⟨Nat.le_of_ble_eq_true rfl, Nat.le_of_ble_eq_true rfl⟩) ⟨zz_blR, va_recv hKc hPc (ci := 1) (q0 := 0) rfl rfl, fun U hU hW => ⟨rfl, by rw [hU]; exact hPc, va_K.moved hW.alike hKc⟩⟩ rfl rfl hl.1 rfl (lv_room (Nat.le_of_ble_eq_true rfl)) dX0_hasAllParts_44 ⟨Nat.zero_le _, Nat.zero_le _⟩)) (fun r_44 hr_44 => ?_)
    have hr_44 : kParts w b = r_44 := Eq.symm hr_44
    subst hr_44
    refine lv_icmp_ne (tgt := 54) hx hb dX0_hasAllParts_47 (by decide) (fun c_47 => ?_) (fun c_47 => ?_)
    ·
      rw [show k = 64 by omega] at c_47
      refine lv_iconst (v := nI 0) hx hb dX0_hasAllParts_54 (by decide) ?_
      have hret : nI 0 = bI (kAll w b) := bI_n c_47
      refine zz_top hret ?_
      exact W.zret hx hb hr (zz_narZ (by first | exact zz_zb _ | exact zz_z0 | exact zz_z1)) (fun tS ht hW => ⟨_, rfl, rfl, ht⟩) (fun _ h => nomatch h) dX0_hasAllParts_55
    ·
      rw [show k = 64 by omega] at c_47
      refine lv_iconst (v := nI 1) hx hb dX0_hasAllParts_50 (by decide) ?_
      refine lv_goto (tgt := 55) hx hb dX0_hasAllParts_51 (by decide) ?_
      have hret : nI 1 = bI (kAll w b) := bI_d c_47
      refine zz_top hret ?_
      exact W.zret hx hb hr (zz_narZ (by first | exact zz_zb _ | exact zz_z0 | exact zz_z1)) (fun tS ht hW => ⟨_, rfl, rfl, ht⟩) (fun _ h => nomatch h) dX0_hasAllParts_55
  ·
    refine lv_aload_n hx hb dX0_hasAllParts_10 rfl (lv_at hl 0 rfl) ?_
    refine va_get (D := (dC, dI)) (ci := 0) (v := .ref qd) (C := RX0) (T := TX0) (N := 4) hx hb hts iwX0 hown hK hP 0 rfl rfl 0 (by decide) fk22 (fun _ h9 => h9) rfl dX0_hasAllParts_11 ?_
    refine lv_iload_n hx hb dX0_hasAllParts_14 rfl (lv_at hl 3 rfl) ?_
    have hPc := hP.sub (ws' := [(qd, .inr (1, [.ref qw, .int (bI on), .int lf, .int (nI dn)])), (qw, .inl (cyI, 512, .inl w))]) [3, 4] rfl
    have hKc := hK.sub (tys' := [(cyI, .int), (cyZ, .boolean)]) [0, 1] rfl
    refine vp_callSi (va_Run.run (va_runV (As := [.int (nI k)]) (rest := []) ⟨hx, hb, hml, hown, hts⟩ (c_X2_numberOf l dC dI cyI cyZ qd qw w on lf dn k (by omega)) (cwV 1 hts gX0_hasAllParts_X2_numberOf rfl rfl rfl (by decide +kernel) ⟨Nat.le_of_ble_eq_true rfl, Nat.le_of_ble_eq_true rfl⟩) ⟨zz_blR, va_recv hKc hPc (ci := 1) (q0 := 0) rfl rfl, fun U hU hW => ⟨rfl, by rw [hU]; exact hPc, va_K.moved hW.alike hKc⟩⟩ rfl rfl hl.1 rfl (lv_room (Nat.le_of_ble_eq_true rfl)) dX0_hasAllParts_15 ⟨Nat.zero_le _, Nat.zero_le _⟩)) (fun r_15 hr_15 => ?_)
    have hr_15 : kNum w k = r_15 := Eq.symm hr_15
    subst hr_15
    refine lv_aload_n hx hb dX0_hasAllParts_18 rfl (lv_at hl 0 rfl) ?_
    refine va_get (D := (dC, dI)) (ci := 0) (v := .ref qd) (C := RX0) (T := TX0) (N := 4) hx hb hts iwX0 hown hK hP 0 rfl rfl 0 (by decide) fk22 (fun _ h9 => h9) rfl dX0_hasAllParts_19 ?_
    refine lv_iload_n hx hb dX0_hasAllParts_22 rfl (lv_at hl 1 rfl) ?_
    have hPc := hP.sub (ws' := [(qd, .inr (1, [.ref qw, .int (bI on), .int lf, .int (nI dn)])), (qw, .inl (cyI, 512, .inl w))]) [3, 4] rfl
    have hKc := hK.sub (tys' := [(cyI, .int), (cyZ, .boolean)]) [0, 1] rfl
    refine vp_callSi (va_Run.run (va_runV (As := [.int (nI b)]) (rest := [.int (kNum w k)]) ⟨hx, hb, hml, hown, hts⟩ (c_X2_numberOf l dC dI cyI cyZ qd qw w on lf dn b (by omega)) (cwV 1 hts gX0_hasAllParts_X2_numberOf rfl rfl rfl (by decide +kernel) ⟨Nat.le_of_ble_eq_true rfl, Nat.le_of_ble_eq_true rfl⟩) ⟨zz_blR, va_recv hKc hPc (ci := 1) (q0 := 0) rfl rfl, fun U hU hW => ⟨rfl, by rw [hU]; exact hPc, va_K.moved hW.alike hKc⟩⟩ rfl rfl hl.1 rfl (lv_room (Nat.le_of_ble_eq_true rfl)) dX0_hasAllParts_23 ⟨Nat.zero_le _, Nat.zero_le _⟩)) (fun r_23 hr_23 => ?_)
    have hr_23 : kNum w b = r_23 := Eq.symm hr_23
    subst hr_23
    refine lv_icmp_ne (tgt := 32) hx hb dX0_hasAllParts_26 (by decide) (fun c_26 => ?_) (fun c_26 => ?_)
    ·
      refine lv_iinc (v := nI (k + 1)) (lv' := [(3, .int (nI (k + 1))), (0, .ref qc), (1, .int (nI b)), (2, .int (nI (fb_ct (kSame w b) k)))]) hx hb dX0_hasAllParts_32 hl (k := 3) rfl (nI_add k 1) (by decide) rfl (fun ls hl => ?_)
      refine lv_goto (tgt := 4) hx hb dX0_hasAllParts_35 (by decide) ?_
      rw [kct_n (q := kSame w b) (k := k) (d_f c_26)] at hl
      -- local 2: .int (nI (fb_ct (kSame w b) k)) ~ .int (nI (fb_ct (kSame w b) (k + 1)))
      exact ih4 (k + 1) _ ⟨by omega, lv_sub hl [1, 2, 3, 0] rfl⟩ (by first | omega | (dsimp only; omega))
    ·
      refine lv_iinc (v := nI (fb_ct (kSame w b) k + 1)) (lv' := [(2, .int (nI (fb_ct (kSame w b) k + 1))), (0, .ref qc), (1, .int (nI b)), (3, .int (nI k))]) hx hb dX0_hasAllParts_29 hl (k := 2) rfl (nI_add (fb_ct (kSame w b) k) 1) (by decide) rfl (fun ls hl => ?_)
      refine lv_iinc (v := nI (k + 1)) (lv' := [(3, .int (nI (k + 1))), (2, .int (nI (fb_ct (kSame w b) k + 1))), (0, .ref qc), (1, .int (nI b))]) hx hb dX0_hasAllParts_32 hl (k := 3) rfl (nI_add k 1) (by decide) rfl (fun ls hl => ?_)
      refine lv_goto (tgt := 4) hx hb dX0_hasAllParts_35 (by decide) ?_
      rw [kct_y (q := kSame w b) (k := k) (d_t c_26)] at hl
      -- local 2: .int (nI (fb_ct (kSame w b) k + 1)) ~ .int (nI (fb_ct (kSame w b) (k + 1)))
      exact ih4 (k + 1) _ ⟨by omega, lv_sub hl [2, 3, 1, 0] rfl⟩ (by first | omega | (dsimp only; omega))
set_option maxHeartbeats 4000000 in
set_option maxRecDepth 100000 in
theorem c_X0_isOutdone (l : Launch) (dC : Nat → ClassId) (dI : Nat → Nat → Nat) (cyI cyZ : ClassId) (qc qwh qlv qd qw : Nat) (WH LV : Nat → Int32) (sa : Int32) (w : Nat → Int32) (on : Bool) (lf : Int32) (dn : Nat) (b : Nat) (hb9 : b < 64) (HWH : ∀ j, j < 64 → WH j = bI (kWh w j)) : Met l yX0_isOutdone wsX0_isOutdone ({ frames := 2, cells := 0, slots := 0, locals := 43 }) (va_Pc [.ref qc, .int (nI b)] (fun U => va_P (dC, dI) vwCl [(qc, .inr (0, [.ref qd, .ref qwh, .ref qlv, .int sa])), (qwh, .inl (cyZ, 64, .inl WH)), (qlv, .inl (cyZ, 64, .inl LV)), (qd, .inr (1, [.ref qw, .int (bI on), .int lf, .int (nI dn)])), (qw, .inl (cyI, 512, .inl w))] U.heap ∧ va_K (dC, dI) vwCl [(cyI, .int), (cyZ, .boolean)] U)) (vp_Si (fun r => r = bI (kOut w b))) 0 0 (fun _ => False) := by
  refine Met.ofW (cc := cX0_isOutdone) (maxL := 3) (ret := (some .boolean)) (by decide) rfl ?_
  intro pz ez sS mM args below meth cC s₁ B hml hv
  obtain ⟨rfl, hP, hK⟩ := hv
  have hx := B.exec
  have hb := B.bytes
  have hr := B.returns
  have hts := atoms_spec (ws := wsX0_isOutdone) B.pre
  have hown : sS.vm.findClass RX0 = some mM.cls := findClass_of_methodNamed B.named
  have hlocks := B.notSynchronized
  have iwX0 : ∀ w ∈ wsX00, w ∈ wsX0_isOutdone := by decide +kernel
  have fk9 := hts (.fieldLink RX0 9 "CodedStore$Catalog" "whole" "[Z") (by decide +kernel)
  have fk22 := hts (.fieldLink RX0 22 "CodedStore$Catalog" "disk" "LCodedStore$Disk;") (by decide +kernel)
  have hl := lv_entry ([.ref qc, .int (nI b)]) (n := 3) (Nat.le_of_ble_eq_true rfl)
  rw [lg_entry_eq]
  generalize (lg_sl ([.ref qc, .int (nI b)]) ++ List.replicate (3 - (lg_sl ([.ref qc, .int (nI b)])).length) Slot.unset).toArray = ls at hl ⊢
  have hl : lv_has ls 3 [(0, .ref qc), (1, .int (nI b))] := hl
  refine lv_iconst (v := nI 0) hx hb dX0_isOutdone_0 (by decide) ?_
  refine lv_istore_n (lv' := [(2, .int (nI 0)), (0, .ref qc), (1, .int (nI b))]) hx hb dX0_isOutdone_1 rfl hl (by decide) rfl (fun ls hl => ?_)
  refine zz_loopR (pc := 2) (μ := fun (k : Nat) => 64 - k) (Inv := fun (k : Nat) (ls : Array Slot) => (k ≤ 64) ∧ (∀ j, j < k → kOd w b j = false) ∧ lv_has ls 3 [(0, .ref qc), (1, .int (nI b)), (2, .int (nI k))]) (x0 := (0)) ⟨by omega, no_lt0, lv_sub hl [1, 2, 0] rfl⟩ ?_
  intro k ls hI ih2
  obtain ⟨hk, hj, hl⟩ := hI
  have hl : lv_has ls 3 [(0, .ref qc), (1, .int (nI b)), (2, .int (nI k))] := hl
  have hk : k ≤ 64 := hk
  have hj : ∀ j, j < k → kOd w b j = false := hj
  refine lv_iload_n hx hb dX0_isOutdone_2 rfl (lv_at hl 2 rfl) ?_
  refine lv_bipush (v := nI 64) hx hb dX0_isOutdone_3 (by decide) ?_
  refine zn_icmp_ge (tgt := 63) hx hb dX0_isOutdone_5 (by decide) (by omega) (by omega) (fun c_5 => ?_) (fun c_5 => ?_)
  ·
    refine lv_iconst (v := nI 0) hx hb dX0_isOutdone_63 (by decide) ?_
    have hret : nI 0 = bI (kOut w b) := bI_0 (zAny_f (fun j h => hj j (by omega)))
    refine zz_top hret ?_
    exact W.zret hx hb hr (zz_narZ (by first | exact zz_zb _ | exact zz_z0 | exact zz_z1)) (fun tS ht hW => ⟨_, rfl, rfl, ht⟩) (fun _ h => nomatch h) dX0_isOutdone_64
  ·
    refine lv_aload_n hx hb dX0_isOutdone_8 rfl (lv_at hl 0 rfl) ?_
    refine va_get (D := (dC, dI)) (ci := 0) (v := .ref qwh) (C := RX0) (T := TX0) (N := 4) hx hb hts iwX0 hown hK hP 0 rfl rfl 1 (by decide) fk9 (fun _ h9 => h9) rfl dX0_isOutdone_9 ?_
    refine lv_iload_n hx hb dX0_isOutdone_12 rfl (lv_at hl 2 rfl) ?_
    refine va_zald hx hb hK hP 1 1 rfl rfl (vp_in_nI (n := k) (by omega) (by decide)) dX0_isOutdone_13 ?_
    refine zz_top (congrArg WH (nI_clamp (n := k) (by omega))) ?_
    refine zz_top (HWH k (by omega)) ?_
    refine zb_if_eq (tgt := 57) hx hb dX0_isOutdone_14 (by decide) (fun c_14 => ?_) (fun c_14 => ?_)
    ·
      refine lv_iinc (v := nI (k + 1)) (lv' := [(2, .int (nI (k + 1))), (0, .ref qc), (1, .int (nI b))]) hx hb dX0_isOutdone_57 hl (k := 2) rfl (nI_add k 1) (by decide) rfl (fun ls hl => ?_)
      refine lv_goto (tgt := 2) hx hb dX0_isOutdone_60 (by decide) ?_
      exact ih2 (k + 1) _ ⟨by omega, lt_step hj (by first | exact b_and_f1 c_14 | exact b_and_f2 (b_and_f1 (d_f c_33)) | exact b_and_f2 (b_and_f2 (d_f (Int32.not_lt.mpr c_52)))), lv_sub hl [1, 2, 0] rfl⟩ (by first | omega | (dsimp only; omega))
    ·
      refine lv_aload_n hx hb dX0_isOutdone_17 rfl (lv_at hl 0 rfl) ?_
      refine va_get (D := (dC, dI)) (ci := 0) (v := .ref qd) (C := RX0) (T := TX0) (N := 4) hx hb hts iwX0 hown hK hP 0 rfl rfl 0 (by decide) fk22 (fun _ h9 => h9) rfl dX0_isOutdone_18 ?_
      refine lv_iload_n hx hb dX0_isOutdone_21 rfl (lv_at hl 2 rfl) ?_
      have hPc := hP.sub (ws' := [(qd, .inr (1, [.ref qw, .int (bI on), .int lf, .int (nI dn)])), (qw, .inl (cyI, 512, .inl w))]) [3, 4] rfl
      have hKc := hK.sub (tys' := [(cyI, .int), (cyZ, .boolean)]) [0, 1] rfl
      refine vp_callSi (va_Run.run (va_runV (As := [.int (nI k)]) (rest := []) ⟨hx, hb, hml, hown, hts⟩ (c_X2_keyOf l dC dI cyI cyZ qd qw w on lf dn k (by omega)) (cwV 1 hts gX0_isOutdone_X2_keyOf rfl rfl rfl (by decide +kernel) ⟨Nat.le_of_ble_eq_true rfl, Nat.le_of_ble_eq_true rfl⟩) ⟨zz_blR, va_recv hKc hPc (ci := 1) (q0 := 0) rfl rfl, fun U hU hW => ⟨rfl, by rw [hU]; exact hPc, va_K.moved hW.alike hKc⟩⟩ rfl rfl hl.1 rfl (lv_room (Nat.le_of_ble_eq_true rfl)) dX0_isOutdone_22 ⟨Nat.zero_le _, Nat.zero_le _⟩)) (fun r_22 hr_22 => ?_)
      have hr_22 : kKey w k = r_22 := Eq.symm hr_22
      subst hr_22
      refine lv_aload_n hx hb dX0_isOutdone_25 rfl (lv_at hl 0 rfl) ?_
      refine va_get (D := (dC, dI)) (ci := 0) (v := .ref qd) (C := RX0) (T := TX0) (N := 4) hx hb hts iwX0 hown hK hP 0 rfl rfl 0 (by decide) fk22 (fun _ h9 => h9) rfl dX0_isOutdone_26 ?_
      refine lv_iload_n hx hb dX0_isOutdone_29 rfl (lv_at hl 1 rfl) ?_
      have hPc := hP.sub (ws' := [(qd, .inr (1, [.ref qw, .int (bI on), .int lf, .int (nI dn)])), (qw, .inl (cyI, 512, .inl w))]) [3, 4] rfl
      have hKc := hK.sub (tys' := [(cyI, .int), (cyZ, .boolean)]) [0, 1] rfl
      refine vp_callSi (va_Run.run (va_runV (As := [.int (nI b)]) (rest := [.int (kKey w k)]) ⟨hx, hb, hml, hown, hts⟩ (c_X2_keyOf l dC dI cyI cyZ qd qw w on lf dn b (by omega)) (cwV 1 hts gX0_isOutdone_X2_keyOf rfl rfl rfl (by decide +kernel) ⟨Nat.le_of_ble_eq_true rfl, Nat.le_of_ble_eq_true rfl⟩) ⟨zz_blR, va_recv hKc hPc (ci := 1) (q0 := 0) rfl rfl, fun U hU hW => ⟨rfl, by rw [hU]; exact hPc, va_K.moved hW.alike hKc⟩⟩ rfl rfl hl.1 rfl (lv_room (Nat.le_of_ble_eq_true rfl)) dX0_isOutdone_30 ⟨Nat.zero_le _, Nat.zero_le _⟩)) (fun r_30 hr_30 => ?_)
      have hr_30 : kKey w b = r_30 := Eq.symm hr_30
      subst hr_30
      refine lv_icmp_ne (tgt := 57) hx hb dX0_isOutdone_33 (by decide) (fun c_33 => ?_) (fun c_33 => ?_)
      ·
        refine lv_iinc (v := nI (k + 1)) (lv' := [(2, .int (nI (k + 1))), (0, .ref qc), (1, .int (nI b))]) hx hb dX0_isOutdone_57 hl (k := 2) rfl (nI_add k 1) (by decide) rfl (fun ls hl => ?_)
        refine lv_goto (tgt := 2) hx hb dX0_isOutdone_60 (by decide) ?_
        exact ih2 (k + 1) _ ⟨by omega, lt_step hj (by first | exact b_and_f1 c_14 | exact b_and_f2 (b_and_f1 (d_f c_33)) | exact b_and_f2 (b_and_f2 (d_f (Int32.not_lt.mpr c_52)))), lv_sub hl [1, 2, 0] rfl⟩ (by first | omega | (dsimp only; omega))
      ·
        refine lv_aload_n hx hb dX0_isOutdone_36 rfl (lv_at hl 0 rfl) ?_
        refine va_get (D := (dC, dI)) (ci := 0) (v := .ref qd) (C := RX0) (T := TX0) (N := 4) hx hb hts iwX0 hown hK hP 0 rfl rfl 0 (by decide) fk22 (fun _ h9 => h9) rfl dX0_isOutdone_37 ?_
        refine lv_iload_n hx hb dX0_isOutdone_40 rfl (lv_at hl 2 rfl) ?_
        have hPc := hP.sub (ws' := [(qd, .inr (1, [.ref qw, .int (bI on), .int lf, .int (nI dn)])), (qw, .inl (cyI, 512, .inl w))]) [3, 4] rfl
        have hKc := hK.sub (tys' := [(cyI, .int), (cyZ, .boolean)]) [0, 1] rfl
        refine vp_callSi (va_Run.run (va_runV (As := [.int (nI k)]) (rest := []) ⟨hx, hb, hml, hown, hts⟩ (c_X2_numberOf l dC dI cyI cyZ qd qw w on lf dn k (by omega)) (cwV 1 hts gX0_isOutdone_X2_numberOf rfl rfl rfl (by decide +kernel) ⟨Nat.le_of_ble_eq_true rfl, Nat.le_of_ble_eq_true rfl⟩) ⟨zz_blR, va_recv hKc hPc (ci := 1) (q0 := 0) rfl rfl, fun U hU hW => ⟨rfl, by rw [hU]; exact hPc, va_K.moved hW.alike hKc⟩⟩ rfl rfl hl.1 rfl (lv_room (Nat.le_of_ble_eq_true rfl)) dX0_isOutdone_41 ⟨Nat.zero_le _, Nat.zero_le _⟩)) (fun r_41 hr_41 => ?_)
        have hr_41 : kNum w k = r_41 := Eq.symm hr_41
        subst hr_41
        refine lv_aload_n hx hb dX0_isOutdone_44 rfl (lv_at hl 0 rfl) ?_
        refine va_get (D := (dC, dI)) (ci := 0) (v := .ref qd) (C := RX0) (T := TX0) (N := 4) hx hb hts iwX0 hown hK hP 0 rfl rfl 0 (by decide) fk22 (fun _ h9 => h9) rfl dX0_isOutdone_45 ?_
        refine lv_iload_n hx hb dX0_isOutdone_48 rfl (lv_at hl 1 rfl) ?_
        have hPc := hP.sub (ws' := [(qd, .inr (1, [.ref qw, .int (bI on), .int lf, .int (nI dn)])), (qw, .inl (cyI, 512, .inl w))]) [3, 4] rfl
        have hKc := hK.sub (tys' := [(cyI, .int), (cyZ, .boolean)]) [0, 1] rfl
        refine vp_callSi (va_Run.run (va_runV (As := [.int (nI b)]) (rest := [.int (kNum w k)]) ⟨hx, hb, hml, hown, hts⟩ (c_X2_numberOf l dC dI cyI cyZ qd qw w on lf dn b (by omega)) (cwV 1 hts gX0_isOutdone_X2_numberOf rfl rfl rfl (by decide +kernel) ⟨Nat.le_of_ble_eq_true rfl, Nat.le_of_ble_eq_true rfl⟩) ⟨zz_blR, va_recv hKc hPc (ci := 1) (q0 := 0) rfl rfl, fun U hU hW => ⟨rfl, by rw [hU]; exact hPc, va_K.moved hW.alike hKc⟩⟩ rfl rfl hl.1 rfl (lv_room (Nat.le_of_ble_eq_true rfl)) dX0_isOutdone_49 ⟨Nat.zero_le _, Nat.zero_le _⟩)) (fun r_49 hr_49 => ?_)
        have hr_49 : kNum w b = r_49 := Eq.symm hr_49
        subst hr_49
        refine lv_icmp_le (tgt := 57) hx hb dX0_isOutdone_52 (by decide) (fun c_52 => ?_) (fun c_52 => ?_)
        ·
          refine lv_iinc (v := nI (k + 1)) (lv' := [(2, .int (nI (k + 1))), (0, .ref qc), (1, .int (nI b))]) hx hb dX0_isOutdone_57 hl (k := 2) rfl (nI_add k 1) (by decide) rfl (fun ls hl => ?_)
          refine lv_goto (tgt := 2) hx hb dX0_isOutdone_60 (by decide) ?_
          exact ih2 (k + 1) _ ⟨by omega, lt_step hj (by first | exact b_and_f1 c_14 | exact b_and_f2 (b_and_f1 (d_f c_33)) | exact b_and_f2 (b_and_f2 (d_f (Int32.not_lt.mpr c_52)))), lv_sub hl [1, 2, 0] rfl⟩ (by first | omega | (dsimp only; omega))
        ·
          refine lv_iconst (v := nI 1) hx hb dX0_isOutdone_55 (by decide) ?_
          have hret : nI 1 = bI (kOut w b) := bI_1 (zAny_t.mpr ⟨k, by omega, b_and_t c_14 (b_and_t (d_t c_33) (d_t (Int32.not_le.mp c_52)))⟩)
          refine zz_top hret ?_
          exact W.zret hx hb hr (zz_narZ (by first | exact zz_zb _ | exact zz_z0 | exact zz_z1)) (fun tS ht hW => ⟨_, rfl, rfl, ht⟩) (fun _ h => nomatch h) dX0_isOutdone_56
set_option maxHeartbeats 4000000 in
set_option maxRecDepth 100000 in
theorem c_X0_survey (l : Launch) (dC : Nat → ClassId) (dI : Nat → Nat → Nat) (cyI cyZ : ClassId) (qc qwh qlv qd qw : Nat) (sz : Nat) (WH LV : Nat → Int32) (sa : Int32) (w : Nat → Int32) (on : Bool) (lf : Int32) (dn : Nat) (HS : sa = nI dn → ∀ j, j < 64 → LV j = bI (kLive w j)) : Met l yX0_survey wsX0_survey ({ frames := 3, cells := 0, slots := 0, locals := 66 }) (va_Pc [.ref qc] (fun U => U.heap.size = sz ∧ va_P (dC, dI) vwCl [(qc, .inr (0, [.ref qd, .ref qwh, .ref qlv, .int sa])), (qwh, .inl (cyZ, 64, .inl WH)), (qlv, .inl (cyZ, 64, .inl LV)), (qd, .inr (1, [.ref qw, .int (bI on), .int lf, .int (nI dn)])), (qw, .inl (cyI, 512, .inl w))] U.heap ∧ va_K (dC, dI) vwCl [(cyI, .int), (cyZ, .boolean)] U ∧ va_D (fun _ => True) [(qc, .inr (0, [.ref qd, .ref qwh, .ref qlv, .int sa])), (qwh, .inl (cyZ, 64, .inl WH)), (qlv, .inl (cyZ, 64, .inl LV)), (qd, .inr (1, [.ref qw, .int (bI on), .int lf, .int (nI dn)])), (qw, .inl (cyI, 512, .inl w))])) (va_Qv (S := (Nat → Int32) × (Nat → Int32)) (fun (uU : (Nat → Int32) × (Nat → Int32)) => match uU with | (WH1, LV1) => (∀ j, j < 64 → LV1 j = bI (kLive w j))) (fun (uU : (Nat → Int32) × (Nat → Int32)) tS => match uU with | (WH1, LV1) => va_P (dC, dI) vwCl [(qc, .inr (0, [.ref qd, .ref qwh, .ref qlv, .int (nI dn)])), (qwh, .inl (cyZ, 64, .inl WH1)), (qlv, .inl (cyZ, 64, .inl LV1)), (qd, .inr (1, [.ref qw, .int (bI on), .int lf, .int (nI dn)])), (qw, .inl (cyI, 512, .inl w))] tS.heap ∧ va_K (dC, dI) vwCl [(cyI, .int), (cyZ, .boolean)] tS ∧ va_D (va_A [(qc, .inr (0, [.ref qd, .ref qwh, .ref qlv, .int sa])), (qwh, .inl (cyZ, 64, .inl WH)), (qlv, .inl (cyZ, 64, .inl LV)), (qd, .inr (1, [.ref qw, .int (bI on), .int lf, .int (nI dn)])), (qw, .inl (cyI, 512, .inl w))] sz) [(qc, .inr (0, [.ref qd, .ref qwh, .ref qlv, .int (nI dn)])), (qwh, .inl (cyZ, 64, .inl WH1)), (qlv, .inl (cyZ, 64, .inl LV1)), (qd, .inr (1, [.ref qw, .int (bI on), .int lf, .int (nI dn)])), (qw, .inl (cyI, 512, .inl w))]) (va_A [(qc, .inr (0, [.ref qd, .ref qwh, .ref qlv, .int sa])), (qwh, .inl (cyZ, 64, .inl WH)), (qlv, .inl (cyZ, 64, .inl LV)), (qd, .inr (1, [.ref qw, .int (bI on), .int lf, .int (nI dn)])), (qw, .inl (cyI, 512, .inl w))] sz)) 0 0 (va_A [(qc, .inr (0, [.ref qd, .ref qwh, .ref qlv, .int sa])), (qwh, .inl (cyZ, 64, .inl WH)), (qlv, .inl (cyZ, 64, .inl LV)), (qd, .inr (1, [.ref qw, .int (bI on), .int lf, .int (nI dn)])), (qw, .inl (cyI, 512, .inl w))] sz) := by
  refine Met.ofW (cc := cX0_survey) (maxL := 2) (ret := none) (by decide) rfl ?_
  intro pz ez sS mM args below meth cC s₁ B hml hv
  obtain ⟨rfl, hsz, hP, hK, hD0⟩ := hv
  have hx := B.exec
  have hb := B.bytes
  have hr := B.returns
  have hts := atoms_spec (ws := wsX0_survey) B.pre
  have hown : sS.vm.findClass RX0 = some mM.cls := findClass_of_methodNamed B.named
  have hlocks := B.notSynchronized
  subst hsz
  have hD := hD0.self (sz := sS.heap.size)
  generalize hAe : va_A [(qc, .inr (0, [.ref qd, .ref qwh, .ref qlv, .int sa])), (qwh, .inl (cyZ, 64, .inl WH)), (qlv, .inl (cyZ, 64, .inl LV)), (qd, .inr (1, [.ref qw, .int (bI on), .int lf, .int (nI dn)])), (qw, .inl (cyI, 512, .inl w))] sS.heap.size = A at hD ⊢
  have hA : ∀ q : Nat, sS.heap.size ≤ q → A q := fun q h => by rw [← hAe]; exact Or.inr h
  have hS : va_S A sS.heap sS.heap [] := va_S.rf
  have hP : va_P (dC, dI) vwCl [(qc, .inr (0, [.ref qd, .ref qwh, .ref qlv, .int sa])), (qwh, .inl (cyZ, 64, .inl WH)), (qlv, .inl (cyZ, 64, .inl LV)), (qd, .inr (1, [.ref qw, .int (bI on), .int lf, .int (nI dn)])), (qw, .inl (cyI, 512, .inl w))] sS.heap := hP
  have iwX0 : ∀ w ∈ wsX00, w ∈ wsX0_survey := by decide +kernel
  have fk9 := hts (.fieldLink RX0 9 "CodedStore$Catalog" "whole" "[Z") (by decide +kernel)
  have fk15 := hts (.fieldLink RX0 15 "CodedStore$Catalog" "live" "[Z") (by decide +kernel)
  have fk18 := hts (.fieldLink RX0 18 "CodedStore$Catalog" "surveyedAt" "I") (by decide +kernel)
  have fk22 := hts (.fieldLink RX0 22 "CodedStore$Catalog" "disk" "LCodedStore$Disk;") (by decide +kernel)
  have hl := lv_entry ([.ref qc]) (n := 2) (Nat.le_of_ble_eq_true rfl)
  rw [lg_entry_eq]
  generalize (lg_sl ([.ref qc]) ++ List.replicate (2 - (lg_sl ([.ref qc])).length) Slot.unset).toArray = ls at hl ⊢
  have hl : lv_has ls 2 [(0, .ref qc)] := hl
  refine lv_aload_n hx hb dX0_survey_0 rfl (lv_at hl 0 rfl) ?_
  refine va_get (D := (dC, dI)) (ci := 0) (v := .int sa) (C := RX0) (T := TX0) (N := 4) hx hb hts iwX0 hown hK hP 0 rfl rfl 3 (by decide) fk18 (fun _ h9 => h9) rfl dX0_survey_1 ?_
  refine lv_aload_n hx hb dX0_survey_4 rfl (lv_at hl 0 rfl) ?_
  refine va_get (D := (dC, dI)) (ci := 0) (v := .ref qd) (C := RX0) (T := TX0) (N := 4) hx hb hts iwX0 hown hK hP 0 rfl rfl 0 (by decide) fk22 (fun _ h9 => h9) rfl dX0_survey_5 ?_
  have hPc := hP.sub (ws' := [(qd, .inr (1, [.ref qw, .int (bI on), .int lf, .int (nI dn)])), (qw, .inl (cyI, 512, .inl w))]) [3, 4] rfl
  have hKc := hK.sub (tys' := [(cyI, .int), (cyZ, .boolean)]) [0, 1] rfl
  refine vp_callSi (va_Run.run (va_runV (As := []) (rest := [.int sa]) ⟨hx, hb, hml, hown, hts⟩ (c_X2_writesDone l dC dI cyI cyZ qd qw w on lf dn) (cwV 0 hts gX0_survey_X2_writesDone rfl rfl rfl (by decide +kernel) ⟨Nat.le_of_ble_eq_true rfl, Nat.le_of_ble_eq_true rfl⟩) ⟨zz_blR, va_recv hKc hPc (ci := 1) (q0 := 0) rfl rfl, fun U hU hW => ⟨rfl, by rw [hU]; exact hPc, va_K.moved hW.alike hKc⟩⟩ rfl rfl hl.1 rfl (lv_room (Nat.le_of_ble_eq_true rfl)) dX0_survey_8 ⟨Nat.zero_le _, Nat.zero_le _⟩)) (fun r_8 hr_8 => ?_)
  have hr_8 : nI dn = r_8 := Eq.symm hr_8
  subst hr_8
  refine lv_icmp_ne (tgt := 15) hx hb dX0_survey_11 (by decide) (fun c_11 => ?_) (fun c_11 => ?_)
  ·
    refine lv_iconst (v := nI 0) hx hb dX0_survey_15 (by decide) ?_
    refine lv_istore_n (lv' := [(1, .int (nI 0)), (0, .ref qc)]) hx hb dX0_survey_16 rfl hl (by decide) rfl (fun ls hl => ?_)
    refine zz_loopW (pc := 17) (μ := fun (x : Nat × (Nat → Int32)) => match x with | (k, WH1) => 64 - k) (Inv := fun (x : Nat × (Nat → Int32)) (H : Heap) (locs : List Loc) (ls : Array Slot) => match x with | (k, WH1) => (k ≤ 64) ∧ (∀ j, j < k → WH1 j = bI (kWh w j)) ∧ va_P (dC, dI) vwCl [(qc, .inr (0, [.ref qd, .ref qwh, .ref qlv, .int sa])), (qwh, .inl (cyZ, 64, .inl WH1)), (qlv, .inl (cyZ, 64, .inl LV)), (qd, .inr (1, [.ref qw, .int (bI on), .int lf, .int (nI dn)])), (qw, .inl (cyI, 512, .inl w))] H ∧ va_D A [(qc, .inr (0, [.ref qd, .ref qwh, .ref qlv, .int sa])), (qwh, .inl (cyZ, 64, .inl WH1)), (qlv, .inl (cyZ, 64, .inl LV)), (qd, .inr (1, [.ref qw, .int (bI on), .int lf, .int (nI dn)])), (qw, .inl (cyI, 512, .inl w))] ∧ va_S A sS.heap H locs ∧ lv_has ls 2 [(0, .ref qc), (1, .int (nI k))]) (x0 := (0, WH)) ⟨by omega, no_lt0, hP, hD, hS, lv_sub hl [1, 0] rfl⟩ ?_
    intro ⟨k, WH1⟩ H locs ls hI ih17
    obtain ⟨hk, hWH, hP, hD, hS, hl⟩ := hI
    have hl : lv_has ls 2 [(0, .ref qc), (1, .int (nI k))] := hl
    have hP : va_P (dC, dI) vwCl [(qc, .inr (0, [.ref qd, .ref qwh, .ref qlv, .int sa])), (qwh, .inl (cyZ, 64, .inl WH1)), (qlv, .inl (cyZ, 64, .inl LV)), (qd, .inr (1, [.ref qw, .int (bI on), .int lf, .int (nI dn)])), (qw, .inl (cyI, 512, .inl w))] H := hP
    have hD : va_D A [(qc, .inr (0, [.ref qd, .ref qwh, .ref qlv, .int sa])), (qwh, .inl (cyZ, 64, .inl WH1)), (qlv, .inl (cyZ, 64, .inl LV)), (qd, .inr (1, [.ref qw, .int (bI on), .int lf, .int (nI dn)])), (qw, .inl (cyI, 512, .inl w))] := hD
    have hk : k ≤ 64 := hk
    have hWH : ∀ j, j < k → WH1 j = bI (kWh w j) := hWH
    refine lv_iload_n hx hb dX0_survey_17 rfl (lv_at hl 1 rfl) ?_
    refine lv_bipush (v := nI 64) hx hb dX0_survey_18 (by decide) ?_
    refine zn_icmp_ge (tgt := 59) hx hb dX0_survey_20 (by decide) (by omega) (by omega) (fun c_20 => ?_) (fun c_20 => ?_)
    ·
      refine lv_iconst (v := nI 0) hx hb dX0_survey_59 (by decide) ?_
      refine lv_istore_n (lv' := [(1, .int (nI 0)), (0, .ref qc)]) hx hb dX0_survey_60 rfl hl (by decide) rfl (fun ls hl => ?_)
      have HWH : ∀ j, j < 64 → WH1 j = bI (kWh w j) := fun j h => hWH j (by omega)
      refine zz_loopW (pc := 61) (μ := fun (x : Nat × (Nat → Int32)) => match x with | (k, LV1) => 64 - k) (Inv := fun (x : Nat × (Nat → Int32)) (H : Heap) (locs : List Loc) (ls : Array Slot) => match x with | (k, LV1) => (k ≤ 64) ∧ (∀ j, j < k → LV1 j = bI (kLive w j)) ∧ va_P (dC, dI) vwCl [(qc, .inr (0, [.ref qd, .ref qwh, .ref qlv, .int sa])), (qwh, .inl (cyZ, 64, .inl WH1)), (qlv, .inl (cyZ, 64, .inl LV1)), (qd, .inr (1, [.ref qw, .int (bI on), .int lf, .int (nI dn)])), (qw, .inl (cyI, 512, .inl w))] H ∧ va_D A [(qc, .inr (0, [.ref qd, .ref qwh, .ref qlv, .int sa])), (qwh, .inl (cyZ, 64, .inl WH1)), (qlv, .inl (cyZ, 64, .inl LV1)), (qd, .inr (1, [.ref qw, .int (bI on), .int lf, .int (nI dn)])), (qw, .inl (cyI, 512, .inl w))] ∧ va_S A sS.heap H locs ∧ lv_has ls 2 [(0, .ref qc), (1, .int (nI k))]) (x0 := (0, LV)) ⟨by omega, no_lt0, hP, hD, hS, lv_sub hl [1, 0] rfl⟩ ?_
      intro ⟨k, LV1⟩ H locs ls hI ih61
      obtain ⟨hk, hLV, hP, hD, hS, hl⟩ := hI
      have hl : lv_has ls 2 [(0, .ref qc), (1, .int (nI k))] := hl
      have hP : va_P (dC, dI) vwCl [(qc, .inr (0, [.ref qd, .ref qwh, .ref qlv, .int sa])), (qwh, .inl (cyZ, 64, .inl WH1)), (qlv, .inl (cyZ, 64, .inl LV1)), (qd, .inr (1, [.ref qw, .int (bI on), .int lf, .int (nI dn)])), (qw, .inl (cyI, 512, .inl w))] H := hP
      have hD : va_D A [(qc, .inr (0, [.ref qd, .ref qwh, .ref qlv, .int sa])), (qwh, .inl (cyZ, 64, .inl WH1)), (qlv, .inl (cyZ, 64, .inl LV1)), (qd, .inr (1, [.ref qw, .int (bI on), .int lf, .int (nI dn)])), (qw, .inl (cyI, 512, .inl w))] := hD
      have hk : k ≤ 64 := hk
      have hLV : ∀ j, j < k → LV1 j = bI (kLive w j) := hLV
      refine lv_iload_n hx hb dX0_survey_61 rfl (lv_at hl 1 rfl) ?_
      refine lv_bipush (v := nI 64) hx hb dX0_survey_62 (by decide) ?_
      refine zn_icmp_ge (tgt := 101) hx hb dX0_survey_64 (by decide) (by omega) (by omega) (fun c_64 => ?_) (fun c_64 => ?_)
      ·
        refine lv_aload_n hx hb dX0_survey_101 rfl (lv_at hl 0 rfl) ?_
        refine lv_aload_n hx hb dX0_survey_102 rfl (lv_at hl 0 rfl) ?_
        refine va_get (D := (dC, dI)) (ci := 0) (v := .ref qd) (C := RX0) (T := TX0) (N := 4) hx hb hts iwX0 hown hK hP 0 rfl rfl 0 (by decide) fk22 (fun _ h9 => h9) rfl dX0_survey_103 ?_
        have hPc := hP.sub (ws' := [(qd, .inr (1, [.ref qw, .int (bI on), .int lf, .int (nI dn)])), (qw, .inl (cyI, 512, .inl w))]) [3, 4] rfl
        have hKc := hK.sub (tys' := [(cyI, .int), (cyZ, .boolean)]) [0, 1] rfl
        refine vp_callSi (va_Run.run (va_runV (As := []) (rest := [.ref qc]) ⟨hx, hb, hml, hown, hts⟩ (c_X2_writesDone l dC dI cyI cyZ qd qw w on lf dn) (cwV 0 hts gX0_survey_X2_writesDone rfl rfl rfl (by decide +kernel) ⟨Nat.le_of_ble_eq_true rfl, Nat.le_of_ble_eq_true rfl⟩) ⟨zz_blR, va_recv hKc hPc (ci := 1) (q0 := 0) rfl rfl, fun U hU hW => ⟨rfl, by rw [hU]; exact hPc, va_K.moved hW.alike hKc⟩⟩ rfl rfl hl.1 rfl (lv_room (Nat.le_of_ble_eq_true rfl)) dX0_survey_106 ⟨Nat.zero_le _, Nat.zero_le _⟩)) (fun r_106 hr_106 => ?_)
        have hr_106 : nI dn = r_106 := Eq.symm hr_106
        subst hr_106
        refine va_put (D := (dC, dI)) (ci := 0) (v := .int (nI dn)) (ty := .int) (C := RX0) (T := TX0) (N := 4) hx hb hts iwX0 tyX0 tyX0_ok nmX0 hown hK hP hD hS 0 rfl rfl 3 (by decide) fk18 (fun _ h9 => h9) rfl (by decide +kernel) rfl rfl (Nat.le_of_ble_eq_true rfl) dX0_survey_109 (fun H locs hP hD hS => ?_)
        have hP : va_P (dC, dI) vwCl [(qc, .inr (0, [.ref qd, .ref qwh, .ref qlv, .int (nI dn)])), (qwh, .inl (cyZ, 64, .inl WH1)), (qlv, .inl (cyZ, 64, .inl LV1)), (qd, .inr (1, [.ref qw, .int (bI on), .int lf, .int (nI dn)])), (qw, .inl (cyI, 512, .inl w))] H := hP
        have hD : va_D A [(qc, .inr (0, [.ref qd, .ref qwh, .ref qlv, .int (nI dn)])), (qwh, .inl (cyZ, 64, .inl WH1)), (qlv, .inl (cyZ, 64, .inl LV1)), (qd, .inr (1, [.ref qw, .int (bI on), .int lf, .int (nI dn)])), (qw, .inl (cyI, 512, .inl w))] := hD
        have hP9 := hP.sub (ws' := [(qc, .inr (0, [.ref qd, .ref qwh, .ref qlv, .int (nI dn)])), (qwh, .inl (cyZ, 64, .inl WH1)), (qlv, .inl (cyZ, 64, .inl LV1)), (qd, .inr (1, [.ref qw, .int (bI on), .int lf, .int (nI dn)])), (qw, .inl (cyI, 512, .inl w))]) [0, 1, 2, 3, 4] rfl
        have hD9 := hD.sub (ws' := [(qc, .inr (0, [.ref qd, .ref qwh, .ref qlv, .int (nI dn)])), (qwh, .inl (cyZ, 64, .inl WH1)), (qlv, .inl (cyZ, 64, .inl LV1)), (qd, .inr (1, [.ref qw, .int (bI on), .int lf, .int (nI dn)])), (qw, .inl (cyI, 512, .inl w))]) [0, 1, 2, 3, 4] (by decide) rfl
        have hK9 := hK.sub (tys' := [(cyI, .int), (cyZ, .boolean)]) [0, 1] rfl
        exact W.vret hx hb hr (fun tS ht hW => ⟨⟨(WH1, LV1), rfl, fun j h => hLV j (by omega), by rw [ht]; exact hP9, va_K.moved hW.alike hK9, hD9⟩, hS.F ht⟩) hS.2.2 dX0_survey_112
      ·
        refine lv_aload_n hx hb dX0_survey_67 rfl (lv_at hl 0 rfl) ?_
        refine va_get (D := (dC, dI)) (ci := 0) (v := .ref qlv) (C := RX0) (T := TX0) (N := 4) hx hb hts iwX0 hown hK hP 0 rfl rfl 2 (by decide) fk15 (fun _ h9 => h9) rfl dX0_survey_68 ?_
        refine lv_iload_n hx hb dX0_survey_71 rfl (lv_at hl 1 rfl) ?_
        refine lv_aload_n hx hb dX0_survey_72 rfl (lv_at hl 0 rfl) ?_
        refine va_get (D := (dC, dI)) (ci := 0) (v := .ref qwh) (C := RX0) (T := TX0) (N := 4) hx hb hts iwX0 hown hK hP 0 rfl rfl 1 (by decide) fk9 (fun _ h9 => h9) rfl dX0_survey_73 ?_
        refine lv_iload_n hx hb dX0_survey_76 rfl (lv_at hl 1 rfl) ?_
        refine va_zald hx hb hK hP 1 1 rfl rfl (vp_in_nI (n := k) (by omega) (by decide)) dX0_survey_77 ?_
        refine zz_top (congrArg WH1 (nI_clamp (n := k) (by omega))) ?_
        refine zz_top (HWH k (by omega)) ?_
        refine zb_if_eq (tgt := 93) hx hb dX0_survey_78 (by decide) (fun c_78 => ?_) (fun c_78 => ?_)
        ·
          refine lv_iconst (v := nI 0) hx hb dX0_survey_93 (by decide) ?_
          refine va_zast hx hb hK hP hD hS 2 1 rfl rfl (vp_in_nI (n := k) (by omega) (by decide)) dX0_survey_94 (fun H locs hP hD hS => ?_)
          rw [nI_clamp (n := k) (by omega)] at hP hD
          rw [zz_nar_0] at hP hD
          have hP : va_P (dC, dI) vwCl [(qc, .inr (0, [.ref qd, .ref qwh, .ref qlv, .int sa])), (qwh, .inl (cyZ, 64, .inl WH1)), (qlv, .inl (cyZ, 64, .inl (upd LV1 k (nI 0)))), (qd, .inr (1, [.ref qw, .int (bI on), .int lf, .int (nI dn)])), (qw, .inl (cyI, 512, .inl w))] H := hP
          have hD : va_D A [(qc, .inr (0, [.ref qd, .ref qwh, .ref qlv, .int sa])), (qwh, .inl (cyZ, 64, .inl WH1)), (qlv, .inl (cyZ, 64, .inl (upd LV1 k (nI 0)))), (qd, .inr (1, [.ref qw, .int (bI on), .int lf, .int (nI dn)])), (qw, .inl (cyI, 512, .inl w))] := hD
          refine lv_iinc (v := nI (k + 1)) (lv' := [(1, .int (nI (k + 1))), (0, .ref qc)]) hx hb dX0_survey_95 hl (k := 1) rfl (nI_add k 1) (by decide) rfl (fun ls hl => ?_)
          refine lv_goto (tgt := 61) hx hb dX0_survey_98 (by decide) ?_
          exact ih61 (k + 1, upd LV1 k (nI 0)) _ _ _ ⟨by omega, arr_step hLV (by first | exact bI_0 (b_and_f1 c_78) | exact bI_0 (b_and_f2 (n_f c_86)) | exact bI_1 (b_and_t c_78 (n_t c_86))), hP, hD, hS, lv_sub hl [1, 0] rfl⟩ (by first | omega | (dsimp only; omega))
        ·
          refine lv_aload_n hx hb dX0_survey_81 rfl (lv_at hl 0 rfl) ?_
          refine lv_iload_n hx hb dX0_survey_82 rfl (lv_at hl 1 rfl) ?_
          have hPc := hP.sub (ws' := [(qc, .inr (0, [.ref qd, .ref qwh, .ref qlv, .int sa])), (qwh, .inl (cyZ, 64, .inl WH1)), (qlv, .inl (cyZ, 64, .inl LV1)), (qd, .inr (1, [.ref qw, .int (bI on), .int lf, .int (nI dn)])), (qw, .inl (cyI, 512, .inl w))]) [0, 1, 2, 3, 4] rfl
          have hKc := hK.sub (tys' := [(cyI, .int), (cyZ, .boolean)]) [0, 1] rfl
          refine vp_callSi (va_Run.run (va_runV (As := [.int (nI k)]) (rest := [.int (nI k), .ref qlv]) ⟨hx, hb, hml, hown, hts⟩ (c_X0_isOutdone l dC dI cyI cyZ qc qwh qlv qd qw WH1 LV1 sa w on lf dn k (by omega) (HWH)) (cwV 1 hts gX0_survey_X0_isOutdone rfl rfl rfl (by decide +kernel) ⟨Nat.le_of_ble_eq_true rfl, Nat.le_of_ble_eq_true rfl⟩) ⟨zz_blR, va_recv hKc hPc (ci := 0) (q0 := 0) rfl rfl, fun U hU hW => ⟨rfl, by rw [hU]; exact hPc, va_K.moved hW.alike hKc⟩⟩ rfl rfl hl.1 rfl (lv_room (Nat.le_of_ble_eq_true rfl)) dX0_survey_83 ⟨Nat.zero_le _, Nat.zero_le _⟩)) (fun r_83 hr_83 => ?_)
          have hr_83 : bI (kOut w k) = r_83 := Eq.symm hr_83
          subst hr_83
          refine zb_if_ne (tgt := 93) hx hb dX0_survey_86 (by decide) (fun c_86 => ?_) (fun c_86 => ?_)
          ·
            refine lv_iconst (v := nI 0) hx hb dX0_survey_93 (by decide) ?_
            refine va_zast hx hb hK hP hD hS 2 1 rfl rfl (vp_in_nI (n := k) (by omega) (by decide)) dX0_survey_94 (fun H locs hP hD hS => ?_)
            rw [nI_clamp (n := k) (by omega)] at hP hD
            rw [zz_nar_0] at hP hD
            have hP : va_P (dC, dI) vwCl [(qc, .inr (0, [.ref qd, .ref qwh, .ref qlv, .int sa])), (qwh, .inl (cyZ, 64, .inl WH1)), (qlv, .inl (cyZ, 64, .inl (upd LV1 k (nI 0)))), (qd, .inr (1, [.ref qw, .int (bI on), .int lf, .int (nI dn)])), (qw, .inl (cyI, 512, .inl w))] H := hP
            have hD : va_D A [(qc, .inr (0, [.ref qd, .ref qwh, .ref qlv, .int sa])), (qwh, .inl (cyZ, 64, .inl WH1)), (qlv, .inl (cyZ, 64, .inl (upd LV1 k (nI 0)))), (qd, .inr (1, [.ref qw, .int (bI on), .int lf, .int (nI dn)])), (qw, .inl (cyI, 512, .inl w))] := hD
            refine lv_iinc (v := nI (k + 1)) (lv' := [(1, .int (nI (k + 1))), (0, .ref qc)]) hx hb dX0_survey_95 hl (k := 1) rfl (nI_add k 1) (by decide) rfl (fun ls hl => ?_)
            refine lv_goto (tgt := 61) hx hb dX0_survey_98 (by decide) ?_
            exact ih61 (k + 1, upd LV1 k (nI 0)) _ _ _ ⟨by omega, arr_step hLV (by first | exact bI_0 (b_and_f1 c_78) | exact bI_0 (b_and_f2 (n_f c_86)) | exact bI_1 (b_and_t c_78 (n_t c_86))), hP, hD, hS, lv_sub hl [1, 0] rfl⟩ (by first | omega | (dsimp only; omega))
          ·
            refine lv_iconst (v := nI 1) hx hb dX0_survey_89 (by decide) ?_
            refine lv_goto (tgt := 94) hx hb dX0_survey_90 (by decide) ?_
            refine va_zast hx hb hK hP hD hS 2 1 rfl rfl (vp_in_nI (n := k) (by omega) (by decide)) dX0_survey_94 (fun H locs hP hD hS => ?_)
            rw [nI_clamp (n := k) (by omega)] at hP hD
            rw [zz_nar_1] at hP hD
            have hP : va_P (dC, dI) vwCl [(qc, .inr (0, [.ref qd, .ref qwh, .ref qlv, .int sa])), (qwh, .inl (cyZ, 64, .inl WH1)), (qlv, .inl (cyZ, 64, .inl (upd LV1 k (nI 1)))), (qd, .inr (1, [.ref qw, .int (bI on), .int lf, .int (nI dn)])), (qw, .inl (cyI, 512, .inl w))] H := hP
            have hD : va_D A [(qc, .inr (0, [.ref qd, .ref qwh, .ref qlv, .int sa])), (qwh, .inl (cyZ, 64, .inl WH1)), (qlv, .inl (cyZ, 64, .inl (upd LV1 k (nI 1)))), (qd, .inr (1, [.ref qw, .int (bI on), .int lf, .int (nI dn)])), (qw, .inl (cyI, 512, .inl w))] := hD
            refine lv_iinc (v := nI (k + 1)) (lv' := [(1, .int (nI (k + 1))), (0, .ref qc)]) hx hb dX0_survey_95 hl (k := 1) rfl (nI_add k 1) (by decide) rfl (fun ls hl => ?_)
            refine lv_goto (tgt := 61) hx hb dX0_survey_98 (by decide) ?_
            exact ih61 (k + 1, upd LV1 k (nI 1)) _ _ _ ⟨by omega, arr_step hLV (by first | exact bI_0 (b_and_f1 c_78) | exact bI_0 (b_and_f2 (n_f c_86)) | exact bI_1 (b_and_t c_78 (n_t c_86))), hP, hD, hS, lv_sub hl [1, 0] rfl⟩ (by first | omega | (dsimp only; omega))
    ·
      refine lv_aload_n hx hb dX0_survey_23 rfl (lv_at hl 0 rfl) ?_
      refine va_get (D := (dC, dI)) (ci := 0) (v := .ref qwh) (C := RX0) (T := TX0) (N := 4) hx hb hts iwX0 hown hK hP 0 rfl rfl 1 (by decide) fk9 (fun _ h9 => h9) rfl dX0_survey_24 ?_
      refine lv_iload_n hx hb dX0_survey_27 rfl (lv_at hl 1 rfl) ?_
      refine lv_aload_n hx hb dX0_survey_28 rfl (lv_at hl 0 rfl) ?_
      refine va_get (D := (dC, dI)) (ci := 0) (v := .ref qd) (C := RX0) (T := TX0) (N := 4) hx hb hts iwX0 hown hK hP 0 rfl rfl 0 (by decide) fk22 (fun _ h9 => h9) rfl dX0_survey_29 ?_
      refine lv_iload_n hx hb dX0_survey_32 rfl (lv_at hl 1 rfl) ?_
      have hPc := hP.sub (ws' := [(qd, .inr (1, [.ref qw, .int (bI on), .int lf, .int (nI dn)])), (qw, .inl (cyI, 512, .inl w))]) [3, 4] rfl
      have hKc := hK.sub (tys' := [(cyI, .int), (cyZ, .boolean)]) [0, 1] rfl
      refine vp_callSi (va_Run.run (va_runV (As := [.int (nI k)]) (rest := [.int (nI k), .ref qwh]) ⟨hx, hb, hml, hown, hts⟩ (c_X2_numberOf l dC dI cyI cyZ qd qw w on lf dn k (by omega)) (cwV 1 hts gX0_survey_X2_numberOf rfl rfl rfl (by decide +kernel) ⟨Nat.le_of_ble_eq_true rfl, Nat.le_of_ble_eq_true rfl⟩) ⟨zz_blR, va_recv hKc hPc (ci := 1) (q0 := 0) rfl rfl, fun U hU hW => ⟨rfl, by rw [hU]; exact hPc, va_K.moved hW.alike hKc⟩⟩ rfl rfl hl.1 rfl (lv_room (Nat.le_of_ble_eq_true rfl)) dX0_survey_33 ⟨Nat.zero_le _, Nat.zero_le _⟩)) (fun r_33 hr_33 => ?_)
      have hr_33 : kNum w k = r_33 := Eq.symm hr_33
      subst hr_33
      refine lv_if_eq (tgt := 51) hx hb dX0_survey_36 (by decide) (fun c_36 => ?_) (fun c_36 => ?_)
      ·
        refine lv_iconst (v := nI 0) hx hb dX0_survey_51 (by decide) ?_
        refine va_zast hx hb hK hP hD hS 1 1 rfl rfl (vp_in_nI (n := k) (by omega) (by decide)) dX0_survey_52 (fun H locs hP hD hS => ?_)
        rw [nI_clamp (n := k) (by omega)] at hP hD
        rw [zz_nar_0] at hP hD
        have hP : va_P (dC, dI) vwCl [(qc, .inr (0, [.ref qd, .ref qwh, .ref qlv, .int sa])), (qwh, .inl (cyZ, 64, .inl (upd WH1 k (nI 0)))), (qlv, .inl (cyZ, 64, .inl LV)), (qd, .inr (1, [.ref qw, .int (bI on), .int lf, .int (nI dn)])), (qw, .inl (cyI, 512, .inl w))] H := hP
        have hD : va_D A [(qc, .inr (0, [.ref qd, .ref qwh, .ref qlv, .int sa])), (qwh, .inl (cyZ, 64, .inl (upd WH1 k (nI 0)))), (qlv, .inl (cyZ, 64, .inl LV)), (qd, .inr (1, [.ref qw, .int (bI on), .int lf, .int (nI dn)])), (qw, .inl (cyI, 512, .inl w))] := hD
        refine lv_iinc (v := nI (k + 1)) (lv' := [(1, .int (nI (k + 1))), (0, .ref qc)]) hx hb dX0_survey_53 hl (k := 1) rfl (nI_add k 1) (by decide) rfl (fun ls hl => ?_)
        refine lv_goto (tgt := 17) hx hb dX0_survey_56 (by decide) ?_
        exact ih17 (k + 1, upd WH1 k (nI 0)) _ _ _ ⟨by omega, arr_step hWH (by first | exact bI_0 (b_and_f1 (nd_f c_36)) | exact bI_0 (b_and_f2 c_44) | exact bI_1 (b_and_t (nd_t c_36) c_44)), hP, hD, hS, lv_sub hl [1, 0] rfl⟩ (by first | omega | (dsimp only; omega))
      ·
        refine lv_aload_n hx hb dX0_survey_39 rfl (lv_at hl 0 rfl) ?_
        refine lv_iload_n hx hb dX0_survey_40 rfl (lv_at hl 1 rfl) ?_
        have hPc := hP.sub (ws' := [(qc, .inr (0, [.ref qd, .ref qwh, .ref qlv, .int sa])), (qwh, .inl (cyZ, 64, .inl WH1)), (qlv, .inl (cyZ, 64, .inl LV)), (qd, .inr (1, [.ref qw, .int (bI on), .int lf, .int (nI dn)])), (qw, .inl (cyI, 512, .inl w))]) [0, 1, 2, 3, 4] rfl
        have hKc := hK.sub (tys' := [(cyI, .int), (cyZ, .boolean)]) [0, 1] rfl
        refine vp_callSi (va_Run.run (va_runV (As := [.int (nI k)]) (rest := [.int (nI k), .ref qwh]) ⟨hx, hb, hml, hown, hts⟩ (c_X0_hasAllParts l dC dI cyI cyZ qc qwh qlv qd qw WH1 LV sa w on lf dn k (by omega)) (cwV 1 hts gX0_survey_X0_hasAllParts rfl rfl rfl (by decide +kernel) ⟨Nat.le_of_ble_eq_true rfl, Nat.le_of_ble_eq_true rfl⟩) ⟨zz_blR, va_recv hKc hPc (ci := 0) (q0 := 0) rfl rfl, fun U hU hW => ⟨rfl, by rw [hU]; exact hPc, va_K.moved hW.alike hKc⟩⟩ rfl rfl hl.1 rfl (lv_room (Nat.le_of_ble_eq_true rfl)) dX0_survey_41 ⟨Nat.zero_le _, Nat.zero_le _⟩)) (fun r_41 hr_41 => ?_)
        have hr_41 : bI (kAll w k) = r_41 := Eq.symm hr_41
        subst hr_41
        refine zb_if_eq (tgt := 51) hx hb dX0_survey_44 (by decide) (fun c_44 => ?_) (fun c_44 => ?_)
        ·
          refine lv_iconst (v := nI 0) hx hb dX0_survey_51 (by decide) ?_
          refine va_zast hx hb hK hP hD hS 1 1 rfl rfl (vp_in_nI (n := k) (by omega) (by decide)) dX0_survey_52 (fun H locs hP hD hS => ?_)
          rw [nI_clamp (n := k) (by omega)] at hP hD
          rw [zz_nar_0] at hP hD
          have hP : va_P (dC, dI) vwCl [(qc, .inr (0, [.ref qd, .ref qwh, .ref qlv, .int sa])), (qwh, .inl (cyZ, 64, .inl (upd WH1 k (nI 0)))), (qlv, .inl (cyZ, 64, .inl LV)), (qd, .inr (1, [.ref qw, .int (bI on), .int lf, .int (nI dn)])), (qw, .inl (cyI, 512, .inl w))] H := hP
          have hD : va_D A [(qc, .inr (0, [.ref qd, .ref qwh, .ref qlv, .int sa])), (qwh, .inl (cyZ, 64, .inl (upd WH1 k (nI 0)))), (qlv, .inl (cyZ, 64, .inl LV)), (qd, .inr (1, [.ref qw, .int (bI on), .int lf, .int (nI dn)])), (qw, .inl (cyI, 512, .inl w))] := hD
          refine lv_iinc (v := nI (k + 1)) (lv' := [(1, .int (nI (k + 1))), (0, .ref qc)]) hx hb dX0_survey_53 hl (k := 1) rfl (nI_add k 1) (by decide) rfl (fun ls hl => ?_)
          refine lv_goto (tgt := 17) hx hb dX0_survey_56 (by decide) ?_
          exact ih17 (k + 1, upd WH1 k (nI 0)) _ _ _ ⟨by omega, arr_step hWH (by first | exact bI_0 (b_and_f1 (nd_f c_36)) | exact bI_0 (b_and_f2 c_44) | exact bI_1 (b_and_t (nd_t c_36) c_44)), hP, hD, hS, lv_sub hl [1, 0] rfl⟩ (by first | omega | (dsimp only; omega))
        ·
          refine lv_iconst (v := nI 1) hx hb dX0_survey_47 (by decide) ?_
          refine lv_goto (tgt := 52) hx hb dX0_survey_48 (by decide) ?_
          refine va_zast hx hb hK hP hD hS 1 1 rfl rfl (vp_in_nI (n := k) (by omega) (by decide)) dX0_survey_52 (fun H locs hP hD hS => ?_)
          rw [nI_clamp (n := k) (by omega)] at hP hD
          rw [zz_nar_1] at hP hD
          have hP : va_P (dC, dI) vwCl [(qc, .inr (0, [.ref qd, .ref qwh, .ref qlv, .int sa])), (qwh, .inl (cyZ, 64, .inl (upd WH1 k (nI 1)))), (qlv, .inl (cyZ, 64, .inl LV)), (qd, .inr (1, [.ref qw, .int (bI on), .int lf, .int (nI dn)])), (qw, .inl (cyI, 512, .inl w))] H := hP
          have hD : va_D A [(qc, .inr (0, [.ref qd, .ref qwh, .ref qlv, .int sa])), (qwh, .inl (cyZ, 64, .inl (upd WH1 k (nI 1)))), (qlv, .inl (cyZ, 64, .inl LV)), (qd, .inr (1, [.ref qw, .int (bI on), .int lf, .int (nI dn)])), (qw, .inl (cyI, 512, .inl w))] := hD
          refine lv_iinc (v := nI (k + 1)) (lv' := [(1, .int (nI (k + 1))), (0, .ref qc)]) hx hb dX0_survey_53 hl (k := 1) rfl (nI_add k 1) (by decide) rfl (fun ls hl => ?_)
          refine lv_goto (tgt := 17) hx hb dX0_survey_56 (by decide) ?_
          exact ih17 (k + 1, upd WH1 k (nI 1)) _ _ _ ⟨by omega, arr_step hWH (by first | exact bI_0 (b_and_f1 (nd_f c_36)) | exact bI_0 (b_and_f2 c_44) | exact bI_1 (b_and_t (nd_t c_36) c_44)), hP, hD, hS, lv_sub hl [1, 0] rfl⟩ (by first | omega | (dsimp only; omega))
  ·
    subst c_11
    have hP9 := hP.sub (ws' := [(qc, .inr (0, [.ref qd, .ref qwh, .ref qlv, .int (nI dn)])), (qwh, .inl (cyZ, 64, .inl WH)), (qlv, .inl (cyZ, 64, .inl LV)), (qd, .inr (1, [.ref qw, .int (bI on), .int lf, .int (nI dn)])), (qw, .inl (cyI, 512, .inl w))]) [0, 1, 2, 3, 4] rfl
    have hD9 := hD.sub (ws' := [(qc, .inr (0, [.ref qd, .ref qwh, .ref qlv, .int (nI dn)])), (qwh, .inl (cyZ, 64, .inl WH)), (qlv, .inl (cyZ, 64, .inl LV)), (qd, .inr (1, [.ref qw, .int (bI on), .int lf, .int (nI dn)])), (qw, .inl (cyI, 512, .inl w))]) [0, 1, 2, 3, 4] (by decide) rfl
    have hK9 := hK.sub (tys' := [(cyI, .int), (cyZ, .boolean)]) [0, 1] rfl
    exact W.vret hx hb hr (fun tS ht hW => ⟨⟨(WH, LV), rfl, HS rfl, by rw [ht]; exact hP9, va_K.moved hW.alike hK9, hD9⟩, hS.F ht⟩) hS.2.2 dX0_survey_14
set_option maxHeartbeats 4000000 in
set_option maxRecDepth 100000 in
theorem c_X0_isLive (l : Launch) (dC : Nat → ClassId) (dI : Nat → Nat → Nat) (cyI cyZ : ClassId) (qc qwh qlv qd : Nat) (WH LV : Nat → Int32) (sa : Int32) (L : Nat → Bool) (b : Nat) (hb9 : b < 64) (HL : ∀ j, j < 64 → LV j = bI (L j)) : Met l yX0_isLive wsX0_isLive ({ frames := 0, cells := 0, slots := 0, locals := 0 }) (va_Pc [.ref qc, .int (nI b)] (fun U => va_P (dC, dI) vwCl [(qc, .inr (0, [.ref qd, .ref qwh, .ref qlv, .int sa])), (qwh, .inl (cyZ, 64, .inl WH)), (qlv, .inl (cyZ, 64, .inl LV))] U.heap ∧ va_K (dC, dI) vwCl [(cyI, .int), (cyZ, .boolean)] U)) (vp_Si (fun r => r = bI (L b))) 0 0 (fun _ => False) := by
  refine Met.ofW (cc := cX0_isLive) (maxL := 2) (ret := (some .boolean)) (by decide) rfl ?_
  intro pz ez sS mM args below meth cC s₁ B hml hv
  obtain ⟨rfl, hP, hK⟩ := hv
  have hx := B.exec
  have hb := B.bytes
  have hr := B.returns
  have hts := atoms_spec (ws := wsX0_isLive) B.pre
  have hown : sS.vm.findClass RX0 = some mM.cls := findClass_of_methodNamed B.named
  have hlocks := B.notSynchronized
  have iwX0 : ∀ w ∈ wsX00, w ∈ wsX0_isLive := by decide +kernel
  have fk15 := hts (.fieldLink RX0 15 "CodedStore$Catalog" "live" "[Z") (by decide +kernel)
  have hl := lv_entry ([.ref qc, .int (nI b)]) (n := 2) (Nat.le_of_ble_eq_true rfl)
  rw [lg_entry_eq]
  generalize (lg_sl ([.ref qc, .int (nI b)]) ++ List.replicate (2 - (lg_sl ([.ref qc, .int (nI b)])).length) Slot.unset).toArray = ls at hl ⊢
  have hl : lv_has ls 2 [(0, .ref qc), (1, .int (nI b))] := hl
  refine lv_iload_n hx hb dX0_isLive_0 rfl (lv_at hl 1 rfl) ?_
  refine zn_if_lt (tgt := 23) hx hb dX0_isLive_1 (by decide) (by omega) ?_
  refine lv_iload_n hx hb dX0_isLive_4 rfl (lv_at hl 1 rfl) ?_
  refine lv_bipush (v := nI 64) hx hb dX0_isLive_5 (by decide) ?_
  refine zn_icmp_ge (tgt := 23) hx hb dX0_isLive_7 (by decide) (by omega) (by omega) (fun c_7 => ?_) (fun c_7 => ?_)
  ·
    exfalso
    omega
  ·
    refine lv_aload_n hx hb dX0_isLive_10 rfl (lv_at hl 0 rfl) ?_
    refine va_get (D := (dC, dI)) (ci := 0) (v := .ref qlv) (C := RX0) (T := TX0) (N := 4) hx hb hts iwX0 hown hK hP 0 rfl rfl 2 (by decide) fk15 (fun _ h9 => h9) rfl dX0_isLive_11 ?_
    refine lv_iload_n hx hb dX0_isLive_14 rfl (lv_at hl 1 rfl) ?_
    refine va_zald hx hb hK hP 2 1 rfl rfl (vp_in_nI (n := b) (by omega) (by decide)) dX0_isLive_15 ?_
    refine zz_top (congrArg LV (nI_clamp (n := b) (by omega))) ?_
    refine zz_top (HL b hb9) ?_
    refine zb_if_eq (tgt := 23) hx hb dX0_isLive_16 (by decide) (fun c_16 => ?_) (fun c_16 => ?_)
    ·
      refine lv_iconst (v := nI 0) hx hb dX0_isLive_23 (by decide) ?_
      have hret : nI 0 = bI (L b) := bI_0 c_16
      refine zz_top hret ?_
      exact W.zret hx hb hr (zz_narZ (by first | exact zz_zb _ | exact zz_z0 | exact zz_z1)) (fun tS ht hW => ⟨_, rfl, rfl, ht⟩) (fun _ h => nomatch h) dX0_isLive_24
    ·
      refine lv_iconst (v := nI 1) hx hb dX0_isLive_19 (by decide) ?_
      refine lv_goto (tgt := 24) hx hb dX0_isLive_20 (by decide) ?_
      have hret : nI 1 = bI (L b) := bI_1 c_16
      refine zz_top hret ?_
      exact W.zret hx hb hr (zz_narZ (by first | exact zz_zb _ | exact zz_z0 | exact zz_z1)) (fun tS ht hW => ⟨_, rfl, rfl, ht⟩) (fun _ h => nomatch h) dX0_isLive_24
set_option maxHeartbeats 4000000 in
set_option maxRecDepth 100000 in
theorem c_X0_isLive_m (l : Launch) (dC : Nat → ClassId) (dI : Nat → Nat → Nat) (cyI cyZ : ClassId) (qc qwh qlv qd : Nat) (WH LV : Nat → Int32) (sa : Int32)  : Met l yX0_isLive wsX0_isLive ({ frames := 0, cells := 0, slots := 0, locals := 0 }) (va_Pc [.ref qc, .int (-1)] (fun U => va_P (dC, dI) vwCl [(qc, .inr (0, [.ref qd, .ref qwh, .ref qlv, .int sa])), (qwh, .inl (cyZ, 64, .inl WH)), (qlv, .inl (cyZ, 64, .inl LV))] U.heap ∧ va_K (dC, dI) vwCl [(cyI, .int), (cyZ, .boolean)] U)) (vp_Si (fun r => r = bI false)) 0 0 (fun _ => False) := by
  refine Met.ofW (cc := cX0_isLive) (maxL := 2) (ret := (some .boolean)) (by decide) rfl ?_
  intro pz ez sS mM args below meth cC s₁ B hml hv
  obtain ⟨rfl, hP, hK⟩ := hv
  have hx := B.exec
  have hb := B.bytes
  have hr := B.returns
  have hts := atoms_spec (ws := wsX0_isLive) B.pre
  have hown : sS.vm.findClass RX0 = some mM.cls := findClass_of_methodNamed B.named
  have hlocks := B.notSynchronized
  have hl := lv_entry ([.ref qc, .int (-1)]) (n := 2) (Nat.le_of_ble_eq_true rfl)
  rw [lg_entry_eq]
  generalize (lg_sl ([.ref qc, .int (-1)]) ++ List.replicate (2 - (lg_sl ([.ref qc, .int (-1)])).length) Slot.unset).toArray = ls at hl ⊢
  have hl : lv_has ls 2 [(0, .ref qc), (1, .int (-1))] := hl
  refine lv_iload_n hx hb dX0_isLive_0 rfl (lv_at hl 1 rfl) ?_
  refine lv_if_lt (tgt := 23) hx hb dX0_isLive_1 (by decide) (fun c_1 => ?_) (fun c_1 => absurd (by decide) c_1)
  refine lv_iconst (v := nI 0) hx hb dX0_isLive_23 (by decide) ?_
  have hret : nI 0 = bI false := rfl
  refine zz_top hret ?_
  exact W.zret hx hb hr (zz_narZ (by first | exact zz_zb _ | exact zz_z0 | exact zz_z1)) (fun tS ht hW => ⟨_, rfl, rfl, ht⟩) (fun _ h => nomatch h) dX0_isLive_24
set_option maxHeartbeats 4000000 in
set_option maxRecDepth 100000 in
theorem c_X0_isLeftOver (l : Launch) (dC : Nat → ClassId) (dI : Nat → Nat → Nat) (cyI cyZ : ClassId) (qc qwh qlv qd qw : Nat) (WH LV : Nat → Int32) (sa : Int32) (w : Nat → Int32) (on : Bool) (lf : Int32) (dn : Nat) (L : Nat → Bool) (b : Nat) (hb9 : b < 64) (HL : ∀ j, j < 64 → LV j = bI (L j)) : Met l yX0_isLeftOver wsX0_isLeftOver ({ frames := 2, cells := 0, slots := 0, locals := 43 }) (va_Pc [.ref qc, .int (nI b)] (fun U => va_P (dC, dI) vwCl [(qc, .inr (0, [.ref qd, .ref qwh, .ref qlv, .int sa])), (qwh, .inl (cyZ, 64, .inl WH)), (qlv, .inl (cyZ, 64, .inl LV)), (qd, .inr (1, [.ref qw, .int (bI on), .int lf, .int (nI dn)])), (qw, .inl (cyI, 512, .inl w))] U.heap ∧ va_K (dC, dI) vwCl [(cyI, .int), (cyZ, .boolean)] U)) (vp_Si (fun r => r = bI (kLeft L w b))) 0 0 (fun _ => False) := by
  refine Met.ofW (cc := cX0_isLeftOver) (maxL := 2) (ret := (some .boolean)) (by decide) rfl ?_
  intro pz ez sS mM args below meth cC s₁ B hml hv
  obtain ⟨rfl, hP, hK⟩ := hv
  have hx := B.exec
  have hb := B.bytes
  have hr := B.returns
  have hts := atoms_spec (ws := wsX0_isLeftOver) B.pre
  have hown : sS.vm.findClass RX0 = some mM.cls := findClass_of_methodNamed B.named
  have hlocks := B.notSynchronized
  have iwX0 : ∀ w ∈ wsX00, w ∈ wsX0_isLeftOver := by decide +kernel
  have fk22 := hts (.fieldLink RX0 22 "CodedStore$Catalog" "disk" "LCodedStore$Disk;") (by decide +kernel)
  have hl := lv_entry ([.ref qc, .int (nI b)]) (n := 2) (Nat.le_of_ble_eq_true rfl)
  rw [lg_entry_eq]
  generalize (lg_sl ([.ref qc, .int (nI b)]) ++ List.replicate (2 - (lg_sl ([.ref qc, .int (nI b)])).length) Slot.unset).toArray = ls at hl ⊢
  have hl : lv_has ls 2 [(0, .ref qc), (1, .int (nI b))] := hl
  refine lv_aload_n hx hb dX0_isLeftOver_0 rfl (lv_at hl 0 rfl) ?_
  refine lv_iload_n hx hb dX0_isLeftOver_1 rfl (lv_at hl 1 rfl) ?_
  have hPc := hP.sub (ws' := [(qc, .inr (0, [.ref qd, .ref qwh, .ref qlv, .int sa])), (qwh, .inl (cyZ, 64, .inl WH)), (qlv, .inl (cyZ, 64, .inl LV))]) [0, 1, 2] rfl
  have hKc := hK.sub (tys' := [(cyI, .int), (cyZ, .boolean)]) [0, 1] rfl
  refine vp_callSi (va_Run.run (va_runV (As := [.int (nI b)]) (rest := []) ⟨hx, hb, hml, hown, hts⟩ (c_X0_isLive l dC dI cyI cyZ qc qwh qlv qd WH LV sa L b (by omega) (HL)) (cwV 1 hts gX0_isLeftOver_X0_isLive rfl rfl rfl (by decide +kernel) ⟨Nat.le_of_ble_eq_true rfl, Nat.le_of_ble_eq_true rfl⟩) ⟨zz_blR, va_recv hKc hPc (ci := 0) (q0 := 0) rfl rfl, fun U hU hW => ⟨rfl, by rw [hU]; exact hPc, va_K.moved hW.alike hKc⟩⟩ rfl rfl hl.1 rfl (lv_room (Nat.le_of_ble_eq_true rfl)) dX0_isLeftOver_2 ⟨Nat.zero_le _, Nat.zero_le _⟩)) (fun r_2 hr_2 => ?_)
  have hr_2 : bI (L b) = r_2 := Eq.symm hr_2
  subst hr_2
  refine zb_if_ne (tgt := 23) hx hb dX0_isLeftOver_5 (by decide) (fun c_5 => ?_) (fun c_5 => ?_)
  ·
    refine lv_iconst (v := nI 0) hx hb dX0_isLeftOver_23 (by decide) ?_
    have hret : nI 0 = bI (kLeft L w b) := (by first  | exact bI_0 (b_and_f1 (n_f c_5)) | exact bI_0 (b_and_f2 (nd_f c_16)))
    refine zz_top hret ?_
    exact W.zret hx hb hr (zz_narZ (by first | exact zz_zb _ | exact zz_z0 | exact zz_z1)) (fun tS ht hW => ⟨_, rfl, rfl, ht⟩) (fun _ h => nomatch h) dX0_isLeftOver_24
  ·
    refine lv_aload_n hx hb dX0_isLeftOver_8 rfl (lv_at hl 0 rfl) ?_
    refine va_get (D := (dC, dI)) (ci := 0) (v := .ref qd) (C := RX0) (T := TX0) (N := 4) hx hb hts iwX0 hown hK hP 0 rfl rfl 0 (by decide) fk22 (fun _ h9 => h9) rfl dX0_isLeftOver_9 ?_
    refine lv_iload_n hx hb dX0_isLeftOver_12 rfl (lv_at hl 1 rfl) ?_
    have hPc := hP.sub (ws' := [(qd, .inr (1, [.ref qw, .int (bI on), .int lf, .int (nI dn)])), (qw, .inl (cyI, 512, .inl w))]) [3, 4] rfl
    have hKc := hK.sub (tys' := [(cyI, .int), (cyZ, .boolean)]) [0, 1] rfl
    refine vp_callSi (va_Run.run (va_runV (As := [.int (nI b)]) (rest := []) ⟨hx, hb, hml, hown, hts⟩ (c_X2_numberOf l dC dI cyI cyZ qd qw w on lf dn b (by omega)) (cwV 1 hts gX0_isLeftOver_X2_numberOf rfl rfl rfl (by decide +kernel) ⟨Nat.le_of_ble_eq_true rfl, Nat.le_of_ble_eq_true rfl⟩) ⟨zz_blR, va_recv hKc hPc (ci := 1) (q0 := 0) rfl rfl, fun U hU hW => ⟨rfl, by rw [hU]; exact hPc, va_K.moved hW.alike hKc⟩⟩ rfl rfl hl.1 rfl (lv_room (Nat.le_of_ble_eq_true rfl)) dX0_isLeftOver_13 ⟨Nat.zero_le _, Nat.zero_le _⟩)) (fun r_13 hr_13 => ?_)
    have hr_13 : kNum w b = r_13 := Eq.symm hr_13
    subst hr_13
    refine lv_if_eq (tgt := 23) hx hb dX0_isLeftOver_16 (by decide) (fun c_16 => ?_) (fun c_16 => ?_)
    ·
      refine lv_iconst (v := nI 0) hx hb dX0_isLeftOver_23 (by decide) ?_
      have hret : nI 0 = bI (kLeft L w b) := (by first  | exact bI_0 (b_and_f1 (n_f c_5)) | exact bI_0 (b_and_f2 (nd_f c_16)))
      refine zz_top hret ?_
      exact W.zret hx hb hr (zz_narZ (by first | exact zz_zb _ | exact zz_z0 | exact zz_z1)) (fun tS ht hW => ⟨_, rfl, rfl, ht⟩) (fun _ h => nomatch h) dX0_isLeftOver_24
    ·
      refine lv_iconst (v := nI 1) hx hb dX0_isLeftOver_19 (by decide) ?_
      refine lv_goto (tgt := 24) hx hb dX0_isLeftOver_20 (by decide) ?_
      have hret : nI 1 = bI (kLeft L w b) := (by first  | exact bI_1 (b_and_t (n_t c_5) (nd_t c_16)))
      refine zz_top hret ?_
      exact W.zret hx hb hr (zz_narZ (by first | exact zz_zb _ | exact zz_z0 | exact zz_z1)) (fun tS ht hW => ⟨_, rfl, rfl, ht⟩) (fun _ h => nomatch h) dX0_isLeftOver_24
set_option maxHeartbeats 4000000 in
set_option maxRecDepth 100000 in
theorem c_X0_isLiveGrave (l : Launch) (dC : Nat → ClassId) (dI : Nat → Nat → Nat) (cyI cyZ : ClassId) (qc qwh qlv qd qw : Nat) (WH LV : Nat → Int32) (sa : Int32) (w : Nat → Int32) (on : Bool) (lf : Int32) (dn : Nat) (L : Nat → Bool) (b : Nat) (hb9 : b < 64) (HL : ∀ j, j < 64 → LV j = bI (L j)) : Met l yX0_isLiveGrave wsX0_isLiveGrave ({ frames := 2, cells := 0, slots := 0, locals := 43 }) (va_Pc [.ref qc, .int (nI b)] (fun U => va_P (dC, dI) vwCl [(qc, .inr (0, [.ref qd, .ref qwh, .ref qlv, .int sa])), (qwh, .inl (cyZ, 64, .inl WH)), (qlv, .inl (cyZ, 64, .inl LV)), (qd, .inr (1, [.ref qw, .int (bI on), .int lf, .int (nI dn)])), (qw, .inl (cyI, 512, .inl w))] U.heap ∧ va_K (dC, dI) vwCl [(cyI, .int), (cyZ, .boolean)] U)) (vp_Si (fun r => r = bI (kGrave L w b))) 0 0 (fun _ => False) := by
  refine Met.ofW (cc := cX0_isLiveGrave) (maxL := 2) (ret := (some .boolean)) (by decide) rfl ?_
  intro pz ez sS mM args below meth cC s₁ B hml hv
  obtain ⟨rfl, hP, hK⟩ := hv
  have hx := B.exec
  have hb := B.bytes
  have hr := B.returns
  have hts := atoms_spec (ws := wsX0_isLiveGrave) B.pre
  have hown : sS.vm.findClass RX0 = some mM.cls := findClass_of_methodNamed B.named
  have hlocks := B.notSynchronized
  have iwX0 : ∀ w ∈ wsX00, w ∈ wsX0_isLiveGrave := by decide +kernel
  have fk22 := hts (.fieldLink RX0 22 "CodedStore$Catalog" "disk" "LCodedStore$Disk;") (by decide +kernel)
  have hl := lv_entry ([.ref qc, .int (nI b)]) (n := 2) (Nat.le_of_ble_eq_true rfl)
  rw [lg_entry_eq]
  generalize (lg_sl ([.ref qc, .int (nI b)]) ++ List.replicate (2 - (lg_sl ([.ref qc, .int (nI b)])).length) Slot.unset).toArray = ls at hl ⊢
  have hl : lv_has ls 2 [(0, .ref qc), (1, .int (nI b))] := hl
  refine lv_aload_n hx hb dX0_isLiveGrave_0 rfl (lv_at hl 0 rfl) ?_
  refine lv_iload_n hx hb dX0_isLiveGrave_1 rfl (lv_at hl 1 rfl) ?_
  have hPc := hP.sub (ws' := [(qc, .inr (0, [.ref qd, .ref qwh, .ref qlv, .int sa])), (qwh, .inl (cyZ, 64, .inl WH)), (qlv, .inl (cyZ, 64, .inl LV))]) [0, 1, 2] rfl
  have hKc := hK.sub (tys' := [(cyI, .int), (cyZ, .boolean)]) [0, 1] rfl
  refine vp_callSi (va_Run.run (va_runV (As := [.int (nI b)]) (rest := []) ⟨hx, hb, hml, hown, hts⟩ (c_X0_isLive l dC dI cyI cyZ qc qwh qlv qd WH LV sa L b (by omega) (HL)) (cwV 1 hts gX0_isLiveGrave_X0_isLive rfl rfl rfl (by decide +kernel) ⟨Nat.le_of_ble_eq_true rfl, Nat.le_of_ble_eq_true rfl⟩) ⟨zz_blR, va_recv hKc hPc (ci := 0) (q0 := 0) rfl rfl, fun U hU hW => ⟨rfl, by rw [hU]; exact hPc, va_K.moved hW.alike hKc⟩⟩ rfl rfl hl.1 rfl (lv_room (Nat.le_of_ble_eq_true rfl)) dX0_isLiveGrave_2 ⟨Nat.zero_le _, Nat.zero_le _⟩)) (fun r_2 hr_2 => ?_)
  have hr_2 : bI (L b) = r_2 := Eq.symm hr_2
  subst hr_2
  refine zb_if_eq (tgt := 24) hx hb dX0_isLiveGrave_5 (by decide) (fun c_5 => ?_) (fun c_5 => ?_)
  ·
    refine lv_iconst (v := nI 0) hx hb dX0_isLiveGrave_24 (by decide) ?_
    have hret : nI 0 = bI (kGrave L w b) := (by first  | exact bI_0 (b_and_f1 c_5) | exact bI_0 (b_and_f2 (d_f c_17)))
    refine zz_top hret ?_
    exact W.zret hx hb hr (zz_narZ (by first | exact zz_zb _ | exact zz_z0 | exact zz_z1)) (fun tS ht hW => ⟨_, rfl, rfl, ht⟩) (fun _ h => nomatch h) dX0_isLiveGrave_25
  ·
    refine lv_aload_n hx hb dX0_isLiveGrave_8 rfl (lv_at hl 0 rfl) ?_
    refine va_get (D := (dC, dI)) (ci := 0) (v := .ref qd) (C := RX0) (T := TX0) (N := 4) hx hb hts iwX0 hown hK hP 0 rfl rfl 0 (by decide) fk22 (fun _ h9 => h9) rfl dX0_isLiveGrave_9 ?_
    refine lv_iload_n hx hb dX0_isLiveGrave_12 rfl (lv_at hl 1 rfl) ?_
    have hPc := hP.sub (ws' := [(qd, .inr (1, [.ref qw, .int (bI on), .int lf, .int (nI dn)])), (qw, .inl (cyI, 512, .inl w))]) [3, 4] rfl
    have hKc := hK.sub (tys' := [(cyI, .int), (cyZ, .boolean)]) [0, 1] rfl
    refine vp_callSi (va_Run.run (va_runV (As := [.int (nI b)]) (rest := []) ⟨hx, hb, hml, hown, hts⟩ (c_X2_formOf l dC dI cyI cyZ qd qw w on lf dn b (by omega)) (cwV 1 hts gX0_isLiveGrave_X2_formOf rfl rfl rfl (by decide +kernel) ⟨Nat.le_of_ble_eq_true rfl, Nat.le_of_ble_eq_true rfl⟩) ⟨zz_blR, va_recv hKc hPc (ci := 1) (q0 := 0) rfl rfl, fun U hU hW => ⟨rfl, by rw [hU]; exact hPc, va_K.moved hW.alike hKc⟩⟩ rfl rfl hl.1 rfl (lv_room (Nat.le_of_ble_eq_true rfl)) dX0_isLiveGrave_13 ⟨Nat.zero_le _, Nat.zero_le _⟩)) (fun r_13 hr_13 => ?_)
    have hr_13 : kForm w b = r_13 := Eq.symm hr_13
    subst hr_13
    refine lv_iconst (v := nI 2) hx hb dX0_isLiveGrave_16 (by decide) ?_
    refine lv_icmp_ne (tgt := 24) hx hb dX0_isLiveGrave_17 (by decide) (fun c_17 => ?_) (fun c_17 => ?_)
    ·
      refine lv_iconst (v := nI 0) hx hb dX0_isLiveGrave_24 (by decide) ?_
      have hret : nI 0 = bI (kGrave L w b) := (by first  | exact bI_0 (b_and_f1 c_5) | exact bI_0 (b_and_f2 (d_f c_17)))
      refine zz_top hret ?_
      exact W.zret hx hb hr (zz_narZ (by first | exact zz_zb _ | exact zz_z0 | exact zz_z1)) (fun tS ht hW => ⟨_, rfl, rfl, ht⟩) (fun _ h => nomatch h) dX0_isLiveGrave_25
    ·
      refine lv_iconst (v := nI 1) hx hb dX0_isLiveGrave_20 (by decide) ?_
      refine lv_goto (tgt := 25) hx hb dX0_isLiveGrave_21 (by decide) ?_
      have hret : nI 1 = bI (kGrave L w b) := (by first  | exact bI_1 (b_and_t c_5 (d_t c_17)))
      refine zz_top hret ?_
      exact W.zret hx hb hr (zz_narZ (by first | exact zz_zb _ | exact zz_z0 | exact zz_z1)) (fun tS ht hW => ⟨_, rfl, rfl, ht⟩) (fun _ h => nomatch h) dX0_isLiveGrave_25
set_option maxHeartbeats 4000000 in
set_option maxRecDepth 100000 in
theorem c_X0_isText (l : Launch) (dC : Nat → ClassId) (dI : Nat → Nat → Nat) (cyI cyZ : ClassId) (qc qwh qlv qd qw : Nat) (WH LV : Nat → Int32) (sa : Int32) (w : Nat → Int32) (on : Bool) (lf : Int32) (dn : Nat) (L : Nat → Bool) (b : Nat) (hb9 : b < 64) (HL : ∀ j, j < 64 → LV j = bI (L j)) : Met l yX0_isText wsX0_isText ({ frames := 2, cells := 0, slots := 0, locals := 43 }) (va_Pc [.ref qc, .int (nI b)] (fun U => va_P (dC, dI) vwCl [(qc, .inr (0, [.ref qd, .ref qwh, .ref qlv, .int sa])), (qwh, .inl (cyZ, 64, .inl WH)), (qlv, .inl (cyZ, 64, .inl LV)), (qd, .inr (1, [.ref qw, .int (bI on), .int lf, .int (nI dn)])), (qw, .inl (cyI, 512, .inl w))] U.heap ∧ va_K (dC, dI) vwCl [(cyI, .int), (cyZ, .boolean)] U)) (vp_Si (fun r => r = bI (kText L w b))) 0 0 (fun _ => False) := by
  refine Met.ofW (cc := cX0_isText) (maxL := 2) (ret := (some .boolean)) (by decide) rfl ?_
  intro pz ez sS mM args below meth cC s₁ B hml hv
  obtain ⟨rfl, hP, hK⟩ := hv
  have hx := B.exec
  have hb := B.bytes
  have hr := B.returns
  have hts := atoms_spec (ws := wsX0_isText) B.pre
  have hown : sS.vm.findClass RX0 = some mM.cls := findClass_of_methodNamed B.named
  have hlocks := B.notSynchronized
  have iwX0 : ∀ w ∈ wsX00, w ∈ wsX0_isText := by decide +kernel
  have fk22 := hts (.fieldLink RX0 22 "CodedStore$Catalog" "disk" "LCodedStore$Disk;") (by decide +kernel)
  have hl := lv_entry ([.ref qc, .int (nI b)]) (n := 2) (Nat.le_of_ble_eq_true rfl)
  rw [lg_entry_eq]
  generalize (lg_sl ([.ref qc, .int (nI b)]) ++ List.replicate (2 - (lg_sl ([.ref qc, .int (nI b)])).length) Slot.unset).toArray = ls at hl ⊢
  have hl : lv_has ls 2 [(0, .ref qc), (1, .int (nI b))] := hl
  refine lv_aload_n hx hb dX0_isText_0 rfl (lv_at hl 0 rfl) ?_
  refine lv_iload_n hx hb dX0_isText_1 rfl (lv_at hl 1 rfl) ?_
  have hPc := hP.sub (ws' := [(qc, .inr (0, [.ref qd, .ref qwh, .ref qlv, .int sa])), (qwh, .inl (cyZ, 64, .inl WH)), (qlv, .inl (cyZ, 64, .inl LV))]) [0, 1, 2] rfl
  have hKc := hK.sub (tys' := [(cyI, .int), (cyZ, .boolean)]) [0, 1] rfl
  refine vp_callSi (va_Run.run (va_runV (As := [.int (nI b)]) (rest := []) ⟨hx, hb, hml, hown, hts⟩ (c_X0_isLive l dC dI cyI cyZ qc qwh qlv qd WH LV sa L b (by omega) (HL)) (cwV 1 hts gX0_isText_X0_isLive rfl rfl rfl (by decide +kernel) ⟨Nat.le_of_ble_eq_true rfl, Nat.le_of_ble_eq_true rfl⟩) ⟨zz_blR, va_recv hKc hPc (ci := 0) (q0 := 0) rfl rfl, fun U hU hW => ⟨rfl, by rw [hU]; exact hPc, va_K.moved hW.alike hKc⟩⟩ rfl rfl hl.1 rfl (lv_room (Nat.le_of_ble_eq_true rfl)) dX0_isText_2 ⟨Nat.zero_le _, Nat.zero_le _⟩)) (fun r_2 hr_2 => ?_)
  have hr_2 : bI (L b) = r_2 := Eq.symm hr_2
  subst hr_2
  refine zb_if_eq (tgt := 35) hx hb dX0_isText_5 (by decide) (fun c_5 => ?_) (fun c_5 => ?_)
  ·
    refine lv_iconst (v := nI 0) hx hb dX0_isText_35 (by decide) ?_
    have hret : nI 0 = bI (kText L w b) := (by first  | exact bI_0 (b_and_f1 c_5) | exact bI_0 (b_and_f2 (b_and_f1 (d_f c_16))) | exact bI_0 (b_and_f2 (b_and_f2 (nd_f c_28))))
    refine zz_top hret ?_
    exact W.zret hx hb hr (zz_narZ (by first | exact zz_zb _ | exact zz_z0 | exact zz_z1)) (fun tS ht hW => ⟨_, rfl, rfl, ht⟩) (fun _ h => nomatch h) dX0_isText_36
  ·
    refine lv_aload_n hx hb dX0_isText_8 rfl (lv_at hl 0 rfl) ?_
    refine va_get (D := (dC, dI)) (ci := 0) (v := .ref qd) (C := RX0) (T := TX0) (N := 4) hx hb hts iwX0 hown hK hP 0 rfl rfl 0 (by decide) fk22 (fun _ h9 => h9) rfl dX0_isText_9 ?_
    refine lv_iload_n hx hb dX0_isText_12 rfl (lv_at hl 1 rfl) ?_
    have hPc := hP.sub (ws' := [(qd, .inr (1, [.ref qw, .int (bI on), .int lf, .int (nI dn)])), (qw, .inl (cyI, 512, .inl w))]) [3, 4] rfl
    have hKc := hK.sub (tys' := [(cyI, .int), (cyZ, .boolean)]) [0, 1] rfl
    refine vp_callSi (va_Run.run (va_runV (As := [.int (nI b)]) (rest := []) ⟨hx, hb, hml, hown, hts⟩ (c_X2_partOf l dC dI cyI cyZ qd qw w on lf dn b (by omega)) (cwV 1 hts gX0_isText_X2_partOf rfl rfl rfl (by decide +kernel) ⟨Nat.le_of_ble_eq_true rfl, Nat.le_of_ble_eq_true rfl⟩) ⟨zz_blR, va_recv hKc hPc (ci := 1) (q0 := 0) rfl rfl, fun U hU hW => ⟨rfl, by rw [hU]; exact hPc, va_K.moved hW.alike hKc⟩⟩ rfl rfl hl.1 rfl (lv_room (Nat.le_of_ble_eq_true rfl)) dX0_isText_13 ⟨Nat.zero_le _, Nat.zero_le _⟩)) (fun r_13 hr_13 => ?_)
    have hr_13 : kPart w b = r_13 := Eq.symm hr_13
    subst hr_13
    refine lv_if_ne (tgt := 35) hx hb dX0_isText_16 (by decide) (fun c_16 => ?_) (fun c_16 => ?_)
    ·
      refine lv_iconst (v := nI 0) hx hb dX0_isText_35 (by decide) ?_
      have hret : nI 0 = bI (kText L w b) := (by first  | exact bI_0 (b_and_f1 c_5) | exact bI_0 (b_and_f2 (b_and_f1 (d_f c_16))) | exact bI_0 (b_and_f2 (b_and_f2 (nd_f c_28))))
      refine zz_top hret ?_
      exact W.zret hx hb hr (zz_narZ (by first | exact zz_zb _ | exact zz_z0 | exact zz_z1)) (fun tS ht hW => ⟨_, rfl, rfl, ht⟩) (fun _ h => nomatch h) dX0_isText_36
    ·
      refine lv_aload_n hx hb dX0_isText_19 rfl (lv_at hl 0 rfl) ?_
      refine va_get (D := (dC, dI)) (ci := 0) (v := .ref qd) (C := RX0) (T := TX0) (N := 4) hx hb hts iwX0 hown hK hP 0 rfl rfl 0 (by decide) fk22 (fun _ h9 => h9) rfl dX0_isText_20 ?_
      refine lv_iload_n hx hb dX0_isText_23 rfl (lv_at hl 1 rfl) ?_
      have hPc := hP.sub (ws' := [(qd, .inr (1, [.ref qw, .int (bI on), .int lf, .int (nI dn)])), (qw, .inl (cyI, 512, .inl w))]) [3, 4] rfl
      have hKc := hK.sub (tys' := [(cyI, .int), (cyZ, .boolean)]) [0, 1] rfl
      refine vp_callSi (va_Run.run (va_runV (As := [.int (nI b)]) (rest := []) ⟨hx, hb, hml, hown, hts⟩ (c_X2_formOf l dC dI cyI cyZ qd qw w on lf dn b (by omega)) (cwV 1 hts gX0_isText_X2_formOf rfl rfl rfl (by decide +kernel) ⟨Nat.le_of_ble_eq_true rfl, Nat.le_of_ble_eq_true rfl⟩) ⟨zz_blR, va_recv hKc hPc (ci := 1) (q0 := 0) rfl rfl, fun U hU hW => ⟨rfl, by rw [hU]; exact hPc, va_K.moved hW.alike hKc⟩⟩ rfl rfl hl.1 rfl (lv_room (Nat.le_of_ble_eq_true rfl)) dX0_isText_24 ⟨Nat.zero_le _, Nat.zero_le _⟩)) (fun r_24 hr_24 => ?_)
      have hr_24 : kForm w b = r_24 := Eq.symm hr_24
      subst hr_24
      refine lv_iconst (v := nI 2) hx hb dX0_isText_27 (by decide) ?_
      refine lv_icmp_eq (tgt := 35) hx hb dX0_isText_28 (by decide) (fun c_28 => ?_) (fun c_28 => ?_)
      ·
        refine lv_iconst (v := nI 0) hx hb dX0_isText_35 (by decide) ?_
        have hret : nI 0 = bI (kText L w b) := (by first  | exact bI_0 (b_and_f1 c_5) | exact bI_0 (b_and_f2 (b_and_f1 (d_f c_16))) | exact bI_0 (b_and_f2 (b_and_f2 (nd_f c_28))))
        refine zz_top hret ?_
        exact W.zret hx hb hr (zz_narZ (by first | exact zz_zb _ | exact zz_z0 | exact zz_z1)) (fun tS ht hW => ⟨_, rfl, rfl, ht⟩) (fun _ h => nomatch h) dX0_isText_36
      ·
        refine lv_iconst (v := nI 1) hx hb dX0_isText_31 (by decide) ?_
        refine lv_goto (tgt := 36) hx hb dX0_isText_32 (by decide) ?_
        have hret : nI 1 = bI (kText L w b) := (by first  | exact bI_1 (b_and_t c_5 (b_and_t (d_t c_16) (nd_t c_28))))
        refine zz_top hret ?_
        exact W.zret hx hb hr (zz_narZ (by first | exact zz_zb _ | exact zz_z0 | exact zz_z1)) (fun tS ht hW => ⟨_, rfl, rfl, ht⟩) (fun _ h => nomatch h) dX0_isText_36
set_option maxHeartbeats 4000000 in
set_option maxRecDepth 100000 in
theorem c_X0_isText_m (l : Launch) (dC : Nat → ClassId) (dI : Nat → Nat → Nat) (cyI cyZ : ClassId) (qc qwh qlv qd qw : Nat) (WH LV : Nat → Int32) (sa : Int32) (w : Nat → Int32) (on : Bool) (lf : Int32) (dn : Nat)  : Met l yX0_isText wsX0_isText ({ frames := 2, cells := 0, slots := 0, locals := 43 }) (va_Pc [.ref qc, .int (-1)] (fun U => va_P (dC, dI) vwCl [(qc, .inr (0, [.ref qd, .ref qwh, .ref qlv, .int sa])), (qwh, .inl (cyZ, 64, .inl WH)), (qlv, .inl (cyZ, 64, .inl LV)), (qd, .inr (1, [.ref qw, .int (bI on), .int lf, .int (nI dn)])), (qw, .inl (cyI, 512, .inl w))] U.heap ∧ va_K (dC, dI) vwCl [(cyI, .int), (cyZ, .boolean)] U)) (vp_Si (fun r => r = bI false)) 0 0 (fun _ => False) := by
  refine Met.ofW (cc := cX0_isText) (maxL := 2) (ret := (some .boolean)) (by decide) rfl ?_
  intro pz ez sS mM args below meth cC s₁ B hml hv
  obtain ⟨rfl, hP, hK⟩ := hv
  have hx := B.exec
  have hb := B.bytes
  have hr := B.returns
  have hts := atoms_spec (ws := wsX0_isText) B.pre
  have hown : sS.vm.findClass RX0 = some mM.cls := findClass_of_methodNamed B.named
  have hlocks := B.notSynchronized
  have hl := lv_entry ([.ref qc, .int (-1)]) (n := 2) (Nat.le_of_ble_eq_true rfl)
  rw [lg_entry_eq]
  generalize (lg_sl ([.ref qc, .int (-1)]) ++ List.replicate (2 - (lg_sl ([.ref qc, .int (-1)])).length) Slot.unset).toArray = ls at hl ⊢
  have hl : lv_has ls 2 [(0, .ref qc), (1, .int (-1))] := hl
  refine lv_aload_n hx hb dX0_isText_0 rfl (lv_at hl 0 rfl) ?_
  refine lv_iload_n hx hb dX0_isText_1 rfl (lv_at hl 1 rfl) ?_
  have hPc := hP.sub (ws' := [(qc, .inr (0, [.ref qd, .ref qwh, .ref qlv, .int sa])), (qwh, .inl (cyZ, 64, .inl WH)), (qlv, .inl (cyZ, 64, .inl LV))]) [0, 1, 2] rfl
  have hKc := hK.sub (tys' := [(cyI, .int), (cyZ, .boolean)]) [0, 1] rfl
  refine vp_callSi (va_Run.run (va_runV (As := [.int (-1)]) (rest := []) ⟨hx, hb, hml, hown, hts⟩ (c_X0_isLive_m l dC dI cyI cyZ qc qwh qlv qd WH LV sa) (cwV 1 hts gX0_isText_X0_isLive rfl rfl rfl (by decide +kernel) ⟨Nat.le_of_ble_eq_true rfl, Nat.le_of_ble_eq_true rfl⟩) ⟨zz_blR, va_recv hKc hPc (ci := 0) (q0 := 0) rfl rfl, fun U hU hW => ⟨rfl, by rw [hU]; exact hPc, va_K.moved hW.alike hKc⟩⟩ rfl rfl hl.1 rfl (lv_room (Nat.le_of_ble_eq_true rfl)) dX0_isText_2 ⟨Nat.zero_le _, Nat.zero_le _⟩)) (fun r_2 hr_2 => ?_)
  have hr_2 : bI false = r_2 := Eq.symm hr_2
  subst hr_2
  refine zb_if_eq (tgt := 35) hx hb dX0_isText_5 (by decide) (fun c_5 => ?_) (fun c_5 => ?_)
  ·
    refine lv_iconst (v := nI 0) hx hb dX0_isText_35 (by decide) ?_
    have hret : nI 0 = bI false := rfl
    refine zz_top hret ?_
    exact W.zret hx hb hr (zz_narZ (by first | exact zz_zb _ | exact zz_z0 | exact zz_z1)) (fun tS ht hW => ⟨_, rfl, rfl, ht⟩) (fun _ h => nomatch h) dX0_isText_36
  ·
    exfalso
    exact absurd c_5 (by decide)
set_option maxHeartbeats 4000000 in
set_option maxRecDepth 100000 in
theorem c_X0_firstBlock (l : Launch) (dC : Nat → ClassId) (dI : Nat → Nat → Nat) (cyI cyZ : ClassId) (qc qwh qlv qd qw : Nat) (WH LV : Nat → Int32) (sa : Int32) (w : Nat → Int32) (on : Bool) (lf : Int32) (dn : Nat) (L : Nat → Bool) (ky : Int32) (HL : ∀ j, j < 64 → LV j = bI (L j)) : Met l yX0_firstBlock wsX0_firstBlock ({ frames := 2, cells := 0, slots := 0, locals := 43 }) (va_Pc [.ref qc, .int ky] (fun U => va_P (dC, dI) vwCl [(qc, .inr (0, [.ref qd, .ref qwh, .ref qlv, .int sa])), (qwh, .inl (cyZ, 64, .inl WH)), (qlv, .inl (cyZ, 64, .inl LV)), (qd, .inr (1, [.ref qw, .int (bI on), .int lf, .int (nI dn)])), (qw, .inl (cyI, 512, .inl w))] U.heap ∧ va_K (dC, dI) vwCl [(cyI, .int), (cyZ, .boolean)] U)) (vp_Si (fun r => r = zFI (zFst (kIs L w ky) 64) 64)) 0 0 (fun _ => False) := by
  refine Met.ofW (cc := cX0_firstBlock) (maxL := 3) (ret := (some .int)) (by decide) rfl ?_
  intro pz ez sS mM args below meth cC s₁ B hml hv
  obtain ⟨rfl, hP, hK⟩ := hv
  have hx := B.exec
  have hb := B.bytes
  have hr := B.returns
  have hts := atoms_spec (ws := wsX0_firstBlock) B.pre
  have hown : sS.vm.findClass RX0 = some mM.cls := findClass_of_methodNamed B.named
  have hlocks := B.notSynchronized
  have iwX0 : ∀ w ∈ wsX00, w ∈ wsX0_firstBlock := by decide +kernel
  have fk22 := hts (.fieldLink RX0 22 "CodedStore$Catalog" "disk" "LCodedStore$Disk;") (by decide +kernel)
  have hl := lv_entry ([.ref qc, .int ky]) (n := 3) (Nat.le_of_ble_eq_true rfl)
  rw [lg_entry_eq]
  generalize (lg_sl ([.ref qc, .int ky]) ++ List.replicate (3 - (lg_sl ([.ref qc, .int ky])).length) Slot.unset).toArray = ls at hl ⊢
  have hl : lv_has ls 3 [(0, .ref qc), (1, .int ky)] := hl
  refine lv_iconst (v := nI 0) hx hb dX0_firstBlock_0 (by decide) ?_
  refine lv_istore_n (lv' := [(2, .int (nI 0)), (0, .ref qc), (1, .int ky)]) hx hb dX0_firstBlock_1 rfl hl (by decide) rfl (fun ls hl => ?_)
  refine zz_loopR (pc := 2) (μ := fun (k : Nat) => 64 - k) (Inv := fun (k : Nat) (ls : Array Slot) => (k ≤ 64) ∧ (∀ j, j < k → kIs L w ky j = false) ∧ lv_has ls 3 [(0, .ref qc), (1, .int ky), (2, .int (nI k))]) (x0 := (0)) ⟨by omega, no_lt0, lv_sub hl [1, 2, 0] rfl⟩ ?_
  intro k ls hI ih2
  obtain ⟨hk, hj, hl⟩ := hI
  have hl : lv_has ls 3 [(0, .ref qc), (1, .int ky), (2, .int (nI k))] := hl
  have hk : k ≤ 64 := hk
  have hj : ∀ j, j < k → kIs L w ky j = false := hj
  refine lv_iload_n hx hb dX0_firstBlock_2 rfl (lv_at hl 2 rfl) ?_
  refine lv_bipush (v := nI 64) hx hb dX0_firstBlock_3 (by decide) ?_
  refine zn_icmp_ge (tgt := 47) hx hb dX0_firstBlock_5 (by decide) (by omega) (by omega) (fun c_5 => ?_) (fun c_5 => ?_)
  ·
    refine lv_iconst (v := (-1)) hx hb dX0_firstBlock_47 (by decide) ?_
    have hret : (-1) = zFI (zFst (kIs L w ky) 64) 64 := zFI_n (fun j h => hj j (by omega))
    refine zz_top hret ?_
    exact W.iret hx hb hr (fun tS ht hW => ⟨_, rfl, rfl, ht⟩) (fun _ h => nomatch h) dX0_firstBlock_48
  ·
    refine lv_aload_n hx hb dX0_firstBlock_8 rfl (lv_at hl 0 rfl) ?_
    refine lv_iload_n hx hb dX0_firstBlock_9 rfl (lv_at hl 2 rfl) ?_
    have hPc := hP.sub (ws' := [(qc, .inr (0, [.ref qd, .ref qwh, .ref qlv, .int sa])), (qwh, .inl (cyZ, 64, .inl WH)), (qlv, .inl (cyZ, 64, .inl LV))]) [0, 1, 2] rfl
    have hKc := hK.sub (tys' := [(cyI, .int), (cyZ, .boolean)]) [0, 1] rfl
    refine vp_callSi (va_Run.run (va_runV (As := [.int (nI k)]) (rest := []) ⟨hx, hb, hml, hown, hts⟩ (c_X0_isLive l dC dI cyI cyZ qc qwh qlv qd WH LV sa L k (by omega) (HL)) (cwV 1 hts gX0_firstBlock_X0_isLive rfl rfl rfl (by decide +kernel) ⟨Nat.le_of_ble_eq_true rfl, Nat.le_of_ble_eq_true rfl⟩) ⟨zz_blR, va_recv hKc hPc (ci := 0) (q0 := 0) rfl rfl, fun U hU hW => ⟨rfl, by rw [hU]; exact hPc, va_K.moved hW.alike hKc⟩⟩ rfl rfl hl.1 rfl (lv_room (Nat.le_of_ble_eq_true rfl)) dX0_firstBlock_10 ⟨Nat.zero_le _, Nat.zero_le _⟩)) (fun r_10 hr_10 => ?_)
    have hr_10 : bI (L k) = r_10 := Eq.symm hr_10
    subst hr_10
    refine zb_if_eq (tgt := 41) hx hb dX0_firstBlock_13 (by decide) (fun c_13 => ?_) (fun c_13 => ?_)
    ·
      refine lv_iinc (v := nI (k + 1)) (lv' := [(2, .int (nI (k + 1))), (0, .ref qc), (1, .int ky)]) hx hb dX0_firstBlock_41 hl (k := 2) rfl (nI_add k 1) (by decide) rfl (fun ls hl => ?_)
      refine lv_goto (tgt := 2) hx hb dX0_firstBlock_44 (by decide) ?_
      exact ih2 (k + 1) _ ⟨by omega, lt_step hj (by first | exact b_and_f1 c_13 | exact b_and_f2 (b_and_f1 (d_f c_24)) | exact b_and_f2 (b_and_f2 (d_f c_36))), lv_sub hl [1, 2, 0] rfl⟩ (by first | omega | (dsimp only; omega))
    ·
      refine lv_aload_n hx hb dX0_firstBlock_16 rfl (lv_at hl 0 rfl) ?_
      refine va_get (D := (dC, dI)) (ci := 0) (v := .ref qd) (C := RX0) (T := TX0) (N := 4) hx hb hts iwX0 hown hK hP 0 rfl rfl 0 (by decide) fk22 (fun _ h9 => h9) rfl dX0_firstBlock_17 ?_
      refine lv_iload_n hx hb dX0_firstBlock_20 rfl (lv_at hl 2 rfl) ?_
      have hPc := hP.sub (ws' := [(qd, .inr (1, [.ref qw, .int (bI on), .int lf, .int (nI dn)])), (qw, .inl (cyI, 512, .inl w))]) [3, 4] rfl
      have hKc := hK.sub (tys' := [(cyI, .int), (cyZ, .boolean)]) [0, 1] rfl
      refine vp_callSi (va_Run.run (va_runV (As := [.int (nI k)]) (rest := []) ⟨hx, hb, hml, hown, hts⟩ (c_X2_partOf l dC dI cyI cyZ qd qw w on lf dn k (by omega)) (cwV 1 hts gX0_firstBlock_X2_partOf rfl rfl rfl (by decide +kernel) ⟨Nat.le_of_ble_eq_true rfl, Nat.le_of_ble_eq_true rfl⟩) ⟨zz_blR, va_recv hKc hPc (ci := 1) (q0 := 0) rfl rfl, fun U hU hW => ⟨rfl, by rw [hU]; exact hPc, va_K.moved hW.alike hKc⟩⟩ rfl rfl hl.1 rfl (lv_room (Nat.le_of_ble_eq_true rfl)) dX0_firstBlock_21 ⟨Nat.zero_le _, Nat.zero_le _⟩)) (fun r_21 hr_21 => ?_)
      have hr_21 : kPart w k = r_21 := Eq.symm hr_21
      subst hr_21
      refine lv_if_ne (tgt := 41) hx hb dX0_firstBlock_24 (by decide) (fun c_24 => ?_) (fun c_24 => ?_)
      ·
        refine lv_iinc (v := nI (k + 1)) (lv' := [(2, .int (nI (k + 1))), (0, .ref qc), (1, .int ky)]) hx hb dX0_firstBlock_41 hl (k := 2) rfl (nI_add k 1) (by decide) rfl (fun ls hl => ?_)
        refine lv_goto (tgt := 2) hx hb dX0_firstBlock_44 (by decide) ?_
        exact ih2 (k + 1) _ ⟨by omega, lt_step hj (by first | exact b_and_f1 c_13 | exact b_and_f2 (b_and_f1 (d_f c_24)) | exact b_and_f2 (b_and_f2 (d_f c_36))), lv_sub hl [1, 2, 0] rfl⟩ (by first | omega | (dsimp only; omega))
      ·
        refine lv_aload_n hx hb dX0_firstBlock_27 rfl (lv_at hl 0 rfl) ?_
        refine va_get (D := (dC, dI)) (ci := 0) (v := .ref qd) (C := RX0) (T := TX0) (N := 4) hx hb hts iwX0 hown hK hP 0 rfl rfl 0 (by decide) fk22 (fun _ h9 => h9) rfl dX0_firstBlock_28 ?_
        refine lv_iload_n hx hb dX0_firstBlock_31 rfl (lv_at hl 2 rfl) ?_
        have hPc := hP.sub (ws' := [(qd, .inr (1, [.ref qw, .int (bI on), .int lf, .int (nI dn)])), (qw, .inl (cyI, 512, .inl w))]) [3, 4] rfl
        have hKc := hK.sub (tys' := [(cyI, .int), (cyZ, .boolean)]) [0, 1] rfl
        refine vp_callSi (va_Run.run (va_runV (As := [.int (nI k)]) (rest := []) ⟨hx, hb, hml, hown, hts⟩ (c_X2_keyOf l dC dI cyI cyZ qd qw w on lf dn k (by omega)) (cwV 1 hts gX0_firstBlock_X2_keyOf rfl rfl rfl (by decide +kernel) ⟨Nat.le_of_ble_eq_true rfl, Nat.le_of_ble_eq_true rfl⟩) ⟨zz_blR, va_recv hKc hPc (ci := 1) (q0 := 0) rfl rfl, fun U hU hW => ⟨rfl, by rw [hU]; exact hPc, va_K.moved hW.alike hKc⟩⟩ rfl rfl hl.1 rfl (lv_room (Nat.le_of_ble_eq_true rfl)) dX0_firstBlock_32 ⟨Nat.zero_le _, Nat.zero_le _⟩)) (fun r_32 hr_32 => ?_)
        have hr_32 : kKey w k = r_32 := Eq.symm hr_32
        subst hr_32
        refine lv_iload_n hx hb dX0_firstBlock_35 rfl (lv_at hl 1 rfl) ?_
        refine lv_icmp_ne (tgt := 41) hx hb dX0_firstBlock_36 (by decide) (fun c_36 => ?_) (fun c_36 => ?_)
        ·
          refine lv_iinc (v := nI (k + 1)) (lv' := [(2, .int (nI (k + 1))), (0, .ref qc), (1, .int ky)]) hx hb dX0_firstBlock_41 hl (k := 2) rfl (nI_add k 1) (by decide) rfl (fun ls hl => ?_)
          refine lv_goto (tgt := 2) hx hb dX0_firstBlock_44 (by decide) ?_
          exact ih2 (k + 1) _ ⟨by omega, lt_step hj (by first | exact b_and_f1 c_13 | exact b_and_f2 (b_and_f1 (d_f c_24)) | exact b_and_f2 (b_and_f2 (d_f c_36))), lv_sub hl [1, 2, 0] rfl⟩ (by first | omega | (dsimp only; omega))
        ·
          refine lv_iload_n hx hb dX0_firstBlock_39 rfl (lv_at hl 2 rfl) ?_
          have hret : nI k = zFI (zFst (kIs L w ky) 64) 64 := zFI_y (by omega) (b_and_t c_13 (b_and_t (d_t c_24) (d_t c_36))) hj
          refine zz_top hret ?_
          exact W.iret hx hb hr (fun tS ht hW => ⟨_, rfl, rfl, ht⟩) (fun _ h => nomatch h) dX0_firstBlock_40
set_option maxHeartbeats 4000000 in
set_option maxRecDepth 100000 in
theorem c_X0_countTextsBelow (l : Launch) (dC : Nat → ClassId) (dI : Nat → Nat → Nat) (cyI cyZ : ClassId) (qc qwh qlv qd qw : Nat) (WH LV : Nat → Int32) (sa : Int32) (w : Nat → Int32) (on : Bool) (lf : Int32) (dn : Nat) (L : Nat → Bool) (ky : Int32) (HL : ∀ j, j < 64 → LV j = bI (L j)) : Met l yX0_countTextsBelow wsX0_countTextsBelow ({ frames := 3, cells := 0, slots := 0, locals := 64 }) (va_Pc [.ref qc, .int ky] (fun U => va_P (dC, dI) vwCl [(qc, .inr (0, [.ref qd, .ref qwh, .ref qlv, .int sa])), (qwh, .inl (cyZ, 64, .inl WH)), (qlv, .inl (cyZ, 64, .inl LV)), (qd, .inr (1, [.ref qw, .int (bI on), .int lf, .int (nI dn)])), (qw, .inl (cyI, 512, .inl w))] U.heap ∧ va_K (dC, dI) vwCl [(cyI, .int), (cyZ, .boolean)] U)) (vp_Si (fun r => r = nI (kBelow L w ky))) 0 0 (fun _ => False) := by
  refine Met.ofW (cc := cX0_countTextsBelow) (maxL := 4) (ret := (some .int)) (by decide) rfl ?_
  intro pz ez sS mM args below meth cC s₁ B hml hv
  obtain ⟨rfl, hP, hK⟩ := hv
  have hx := B.exec
  have hb := B.bytes
  have hr := B.returns
  have hts := atoms_spec (ws := wsX0_countTextsBelow) B.pre
  have hown : sS.vm.findClass RX0 = some mM.cls := findClass_of_methodNamed B.named
  have hlocks := B.notSynchronized
  have iwX0 : ∀ w ∈ wsX00, w ∈ wsX0_countTextsBelow := by decide +kernel
  have fk22 := hts (.fieldLink RX0 22 "CodedStore$Catalog" "disk" "LCodedStore$Disk;") (by decide +kernel)
  have hl := lv_entry ([.ref qc, .int ky]) (n := 4) (Nat.le_of_ble_eq_true rfl)
  rw [lg_entry_eq]
  generalize (lg_sl ([.ref qc, .int ky]) ++ List.replicate (4 - (lg_sl ([.ref qc, .int ky])).length) Slot.unset).toArray = ls at hl ⊢
  have hl : lv_has ls 4 [(0, .ref qc), (1, .int ky)] := hl
  refine lv_iconst (v := nI 0) hx hb dX0_countTextsBelow_0 (by decide) ?_
  refine lv_istore_n (lv' := [(2, .int (nI 0)), (0, .ref qc), (1, .int ky)]) hx hb dX0_countTextsBelow_1 rfl hl (by decide) rfl (fun ls hl => ?_)
  refine lv_iconst (v := nI 0) hx hb dX0_countTextsBelow_2 (by decide) ?_
  refine lv_istore_n (lv' := [(3, .int (nI 0)), (2, .int (nI 0)), (0, .ref qc), (1, .int ky)]) hx hb dX0_countTextsBelow_3 rfl hl (by decide) rfl (fun ls hl => ?_)
  refine zz_loopR (pc := 4) (μ := fun (k : Nat) => 64 - k) (Inv := fun (k : Nat) (ls : Array Slot) => (k ≤ 64) ∧ lv_has ls 4 [(0, .ref qc), (1, .int ky), (2, .int (nI (fb_ct (kTB L w ky) k))), (3, .int (nI k))]) (x0 := (0)) ⟨by omega, lv_sub hl [2, 3, 1, 0] rfl⟩ ?_
  intro k ls hI ih4
  obtain ⟨hk, hl⟩ := hI
  have hl : lv_has ls 4 [(0, .ref qc), (1, .int ky), (2, .int (nI (fb_ct (kTB L w ky) k))), (3, .int (nI k))] := hl
  have hk : k ≤ 64 := hk
  refine lv_iload_n hx hb dX0_countTextsBelow_4 rfl (lv_at hl 3 rfl) ?_
  refine lv_bipush (v := nI 64) hx hb dX0_countTextsBelow_5 (by decide) ?_
  refine zn_icmp_ge (tgt := 39) hx hb dX0_countTextsBelow_7 (by decide) (by omega) (by omega) (fun c_7 => ?_) (fun c_7 => ?_)
  ·
    refine lv_iload_n hx hb dX0_countTextsBelow_39 rfl (lv_at hl 2 rfl) ?_
    have hret : nI (fb_ct (kTB L w ky) k) = nI (kBelow L w ky) := by rw [show k = 64 by omega]; rfl
    refine zz_top hret ?_
    exact W.iret hx hb hr (fun tS ht hW => ⟨_, rfl, rfl, ht⟩) (fun _ h => nomatch h) dX0_countTextsBelow_40
  ·
    refine lv_aload_n hx hb dX0_countTextsBelow_10 rfl (lv_at hl 0 rfl) ?_
    refine lv_iload_n hx hb dX0_countTextsBelow_11 rfl (lv_at hl 3 rfl) ?_
    have hPc := hP.sub (ws' := [(qc, .inr (0, [.ref qd, .ref qwh, .ref qlv, .int sa])), (qwh, .inl (cyZ, 64, .inl WH)), (qlv, .inl (cyZ, 64, .inl LV)), (qd, .inr (1, [.ref qw, .int (bI on), .int lf, .int (nI dn)])), (qw, .inl (cyI, 512, .inl w))]) [0, 1, 2, 3, 4] rfl
    have hKc := hK.sub (tys' := [(cyI, .int), (cyZ, .boolean)]) [0, 1] rfl
    refine vp_callSi (va_Run.run (va_runV (As := [.int (nI k)]) (rest := []) ⟨hx, hb, hml, hown, hts⟩ (c_X0_isText l dC dI cyI cyZ qc qwh qlv qd qw WH LV sa w on lf dn L k (by omega) (HL)) (cwV 1 hts gX0_countTextsBelow_X0_isText rfl rfl rfl (by decide +kernel) ⟨Nat.le_of_ble_eq_true rfl, Nat.le_of_ble_eq_true rfl⟩) ⟨zz_blR, va_recv hKc hPc (ci := 0) (q0 := 0) rfl rfl, fun U hU hW => ⟨rfl, by rw [hU]; exact hPc, va_K.moved hW.alike hKc⟩⟩ rfl rfl hl.1 rfl (lv_room (Nat.le_of_ble_eq_true rfl)) dX0_countTextsBelow_12 ⟨Nat.zero_le _, Nat.zero_le _⟩)) (fun r_12 hr_12 => ?_)
    have hr_12 : bI (kText L w k) = r_12 := Eq.symm hr_12
    subst hr_12
    refine zb_if_eq (tgt := 33) hx hb dX0_countTextsBelow_15 (by decide) (fun c_15 => ?_) (fun c_15 => ?_)
    ·
      refine lv_iinc (v := nI (k + 1)) (lv' := [(3, .int (nI (k + 1))), (0, .ref qc), (1, .int ky), (2, .int (nI (fb_ct (kTB L w ky) k)))]) hx hb dX0_countTextsBelow_33 hl (k := 3) rfl (nI_add k 1) (by decide) rfl (fun ls hl => ?_)
      refine lv_goto (tgt := 4) hx hb dX0_countTextsBelow_36 (by decide) ?_
      rw [kct_n (q := kTB L w ky) (k := k) (by first | exact b_and_f1 c_15 | exact b_and_f2 (d_f (Int32.not_lt.mpr c_27)))] at hl
      -- local 2: .int (nI (fb_ct (kTB L w ky) k)) ~ .int (nI (fb_ct (kTB L w ky) (k + 1)))
      exact ih4 (k + 1) _ ⟨by omega, lv_sub hl [1, 2, 3, 0] rfl⟩ (by first | omega | (dsimp only; omega))
    ·
      refine lv_aload_n hx hb dX0_countTextsBelow_18 rfl (lv_at hl 0 rfl) ?_
      refine va_get (D := (dC, dI)) (ci := 0) (v := .ref qd) (C := RX0) (T := TX0) (N := 4) hx hb hts iwX0 hown hK hP 0 rfl rfl 0 (by decide) fk22 (fun _ h9 => h9) rfl dX0_countTextsBelow_19 ?_
      refine lv_iload_n hx hb dX0_countTextsBelow_22 rfl (lv_at hl 3 rfl) ?_
      have hPc := hP.sub (ws' := [(qd, .inr (1, [.ref qw, .int (bI on), .int lf, .int (nI dn)])), (qw, .inl (cyI, 512, .inl w))]) [3, 4] rfl
      have hKc := hK.sub (tys' := [(cyI, .int), (cyZ, .boolean)]) [0, 1] rfl
      refine vp_callSi (va_Run.run (va_runV (As := [.int (nI k)]) (rest := []) ⟨hx, hb, hml, hown, hts⟩ (c_X2_keyOf l dC dI cyI cyZ qd qw w on lf dn k (by omega)) (cwV 1 hts gX0_countTextsBelow_X2_keyOf rfl rfl rfl (by decide +kernel) ⟨Nat.le_of_ble_eq_true rfl, Nat.le_of_ble_eq_true rfl⟩) ⟨zz_blR, va_recv hKc hPc (ci := 1) (q0 := 0) rfl rfl, fun U hU hW => ⟨rfl, by rw [hU]; exact hPc, va_K.moved hW.alike hKc⟩⟩ rfl rfl hl.1 rfl (lv_room (Nat.le_of_ble_eq_true rfl)) dX0_countTextsBelow_23 ⟨Nat.zero_le _, Nat.zero_le _⟩)) (fun r_23 hr_23 => ?_)
      have hr_23 : kKey w k = r_23 := Eq.symm hr_23
      subst hr_23
      refine lv_iload_n hx hb dX0_countTextsBelow_26 rfl (lv_at hl 1 rfl) ?_
      refine lv_icmp_ge (tgt := 33) hx hb dX0_countTextsBelow_27 (by decide) (fun c_27 => ?_) (fun c_27 => ?_)
      ·
        refine lv_iinc (v := nI (k + 1)) (lv' := [(3, .int (nI (k + 1))), (0, .ref qc), (1, .int ky), (2, .int (nI (fb_ct (kTB L w ky) k)))]) hx hb dX0_countTextsBelow_33 hl (k := 3) rfl (nI_add k 1) (by decide) rfl (fun ls hl => ?_)
        refine lv_goto (tgt := 4) hx hb dX0_countTextsBelow_36 (by decide) ?_
        rw [kct_n (q := kTB L w ky) (k := k) (by first | exact b_and_f1 c_15 | exact b_and_f2 (d_f (Int32.not_lt.mpr c_27)))] at hl
        -- local 2: .int (nI (fb_ct (kTB L w ky) k)) ~ .int (nI (fb_ct (kTB L w ky) (k + 1)))
        exact ih4 (k + 1) _ ⟨by omega, lv_sub hl [1, 2, 3, 0] rfl⟩ (by first | omega | (dsimp only; omega))
      ·
        refine lv_iinc (v := nI (fb_ct (kTB L w ky) k + 1)) (lv' := [(2, .int (nI (fb_ct (kTB L w ky) k + 1))), (0, .ref qc), (1, .int ky), (3, .int (nI k))]) hx hb dX0_countTextsBelow_30 hl (k := 2) rfl (nI_add (fb_ct (kTB L w ky) k) 1) (by decide) rfl (fun ls hl => ?_)
        refine lv_iinc (v := nI (k + 1)) (lv' := [(3, .int (nI (k + 1))), (2, .int (nI (fb_ct (kTB L w ky) k + 1))), (0, .ref qc), (1, .int ky)]) hx hb dX0_countTextsBelow_33 hl (k := 3) rfl (nI_add k 1) (by decide) rfl (fun ls hl => ?_)
        refine lv_goto (tgt := 4) hx hb dX0_countTextsBelow_36 (by decide) ?_
        rw [kct_y (q := kTB L w ky) (k := k) (b_and_t c_15 (d_t (Int32.not_le.mp c_27)))] at hl
        -- local 2: .int (nI (fb_ct (kTB L w ky) k + 1)) ~ .int (nI (fb_ct (kTB L w ky) (k + 1)))
        exact ih4 (k + 1) _ ⟨by omega, lv_sub hl [2, 3, 1, 0] rfl⟩ (by first | omega | (dsimp only; omega))
set_option maxHeartbeats 4000000 in
set_option maxRecDepth 100000 in
theorem c_X0_firstBlockOfRank (l : Launch) (dC : Nat → ClassId) (dI : Nat → Nat → Nat) (cyI cyZ : ClassId) (qc qwh qlv qd qw : Nat) (WH LV : Nat → Int32) (sa : Int32) (w : Nat → Int32) (on : Bool) (lf : Int32) (dn : Nat) (L : Nat → Bool) (rk : Int32) (HL : ∀ j, j < 64 → LV j = bI (L j)) : Met l yX0_firstBlockOfRank wsX0_firstBlockOfRank ({ frames := 4, cells := 0, slots := 0, locals := 87 }) (va_Pc [.ref qc, .int rk] (fun U => va_P (dC, dI) vwCl [(qc, .inr (0, [.ref qd, .ref qwh, .ref qlv, .int sa])), (qwh, .inl (cyZ, 64, .inl WH)), (qlv, .inl (cyZ, 64, .inl LV)), (qd, .inr (1, [.ref qw, .int (bI on), .int lf, .int (nI dn)])), (qw, .inl (cyI, 512, .inl w))] U.heap ∧ va_K (dC, dI) vwCl [(cyI, .int), (cyZ, .boolean)] U)) (vp_Si (fun r => r = zFI (zFst (kRank L w rk) 64) 64)) 0 0 (fun _ => False) := by
  refine Met.ofW (cc := cX0_firstBlockOfRank) (maxL := 3) (ret := (some .int)) (by decide) rfl ?_
  intro pz ez sS mM args below meth cC s₁ B hml hv
  obtain ⟨rfl, hP, hK⟩ := hv
  have hx := B.exec
  have hb := B.bytes
  have hr := B.returns
  have hts := atoms_spec (ws := wsX0_firstBlockOfRank) B.pre
  have hown : sS.vm.findClass RX0 = some mM.cls := findClass_of_methodNamed B.named
  have hlocks := B.notSynchronized
  have iwX0 : ∀ w ∈ wsX00, w ∈ wsX0_firstBlockOfRank := by decide +kernel
  have fk22 := hts (.fieldLink RX0 22 "CodedStore$Catalog" "disk" "LCodedStore$Disk;") (by decide +kernel)
  have hl := lv_entry ([.ref qc, .int rk]) (n := 3) (Nat.le_of_ble_eq_true rfl)
  rw [lg_entry_eq]
  generalize (lg_sl ([.ref qc, .int rk]) ++ List.replicate (3 - (lg_sl ([.ref qc, .int rk])).length) Slot.unset).toArray = ls at hl ⊢
  have hl : lv_has ls 3 [(0, .ref qc), (1, .int rk)] := hl
  refine lv_iconst (v := nI 0) hx hb dX0_firstBlockOfRank_0 (by decide) ?_
  refine lv_istore_n (lv' := [(2, .int (nI 0)), (0, .ref qc), (1, .int rk)]) hx hb dX0_firstBlockOfRank_1 rfl hl (by decide) rfl (fun ls hl => ?_)
  refine zz_loopR (pc := 2) (μ := fun (k : Nat) => 64 - k) (Inv := fun (k : Nat) (ls : Array Slot) => (k ≤ 64) ∧ (∀ j, j < k → kRank L w rk j = false) ∧ lv_has ls 3 [(0, .ref qc), (1, .int rk), (2, .int (nI k))]) (x0 := (0)) ⟨by omega, no_lt0, lv_sub hl [1, 2, 0] rfl⟩ ?_
  intro k ls hI ih2
  obtain ⟨hk, hj, hl⟩ := hI
  have hl : lv_has ls 3 [(0, .ref qc), (1, .int rk), (2, .int (nI k))] := hl
  have hk : k ≤ 64 := hk
  have hj : ∀ j, j < k → kRank L w rk j = false := hj
  refine lv_iload_n hx hb dX0_firstBlockOfRank_2 rfl (lv_at hl 2 rfl) ?_
  refine lv_bipush (v := nI 64) hx hb dX0_firstBlockOfRank_3 (by decide) ?_
  refine zn_icmp_ge (tgt := 40) hx hb dX0_firstBlockOfRank_5 (by decide) (by omega) (by omega) (fun c_5 => ?_) (fun c_5 => ?_)
  ·
    refine lv_iconst (v := (-1)) hx hb dX0_firstBlockOfRank_40 (by decide) ?_
    have hret : (-1) = zFI (zFst (kRank L w rk) 64) 64 := zFI_n (fun j h => hj j (by omega))
    refine zz_top hret ?_
    exact W.iret hx hb hr (fun tS ht hW => ⟨_, rfl, rfl, ht⟩) (fun _ h => nomatch h) dX0_firstBlockOfRank_41
  ·
    refine lv_aload_n hx hb dX0_firstBlockOfRank_8 rfl (lv_at hl 0 rfl) ?_
    refine lv_iload_n hx hb dX0_firstBlockOfRank_9 rfl (lv_at hl 2 rfl) ?_
    have hPc := hP.sub (ws' := [(qc, .inr (0, [.ref qd, .ref qwh, .ref qlv, .int sa])), (qwh, .inl (cyZ, 64, .inl WH)), (qlv, .inl (cyZ, 64, .inl LV)), (qd, .inr (1, [.ref qw, .int (bI on), .int lf, .int (nI dn)])), (qw, .inl (cyI, 512, .inl w))]) [0, 1, 2, 3, 4] rfl
    have hKc := hK.sub (tys' := [(cyI, .int), (cyZ, .boolean)]) [0, 1] rfl
    refine vp_callSi (va_Run.run (va_runV (As := [.int (nI k)]) (rest := []) ⟨hx, hb, hml, hown, hts⟩ (c_X0_isText l dC dI cyI cyZ qc qwh qlv qd qw WH LV sa w on lf dn L k (by omega) (HL)) (cwV 1 hts gX0_firstBlockOfRank_X0_isText rfl rfl rfl (by decide +kernel) ⟨Nat.le_of_ble_eq_true rfl, Nat.le_of_ble_eq_true rfl⟩) ⟨zz_blR, va_recv hKc hPc (ci := 0) (q0 := 0) rfl rfl, fun U hU hW => ⟨rfl, by rw [hU]; exact hPc, va_K.moved hW.alike hKc⟩⟩ rfl rfl hl.1 rfl (lv_room (Nat.le_of_ble_eq_true rfl)) dX0_firstBlockOfRank_10 ⟨Nat.zero_le _, Nat.zero_le _⟩)) (fun r_10 hr_10 => ?_)
    have hr_10 : bI (kText L w k) = r_10 := Eq.symm hr_10
    subst hr_10
    refine zb_if_eq (tgt := 34) hx hb dX0_firstBlockOfRank_13 (by decide) (fun c_13 => ?_) (fun c_13 => ?_)
    ·
      refine lv_iinc (v := nI (k + 1)) (lv' := [(2, .int (nI (k + 1))), (0, .ref qc), (1, .int rk)]) hx hb dX0_firstBlockOfRank_34 hl (k := 2) rfl (nI_add k 1) (by decide) rfl (fun ls hl => ?_)
      refine lv_goto (tgt := 2) hx hb dX0_firstBlockOfRank_37 (by decide) ?_
      exact ih2 (k + 1) _ ⟨by omega, lt_step hj (by first | exact b_and_f1 c_13 | exact b_and_f2 (d_f c_29)), lv_sub hl [1, 2, 0] rfl⟩ (by first | omega | (dsimp only; omega))
    ·
      refine lv_aload_n hx hb dX0_firstBlockOfRank_16 rfl (lv_at hl 0 rfl) ?_
      refine lv_aload_n hx hb dX0_firstBlockOfRank_17 rfl (lv_at hl 0 rfl) ?_
      refine va_get (D := (dC, dI)) (ci := 0) (v := .ref qd) (C := RX0) (T := TX0) (N := 4) hx hb hts iwX0 hown hK hP 0 rfl rfl 0 (by decide) fk22 (fun _ h9 => h9) rfl dX0_firstBlockOfRank_18 ?_
      refine lv_iload_n hx hb dX0_firstBlockOfRank_21 rfl (lv_at hl 2 rfl) ?_
      have hPc := hP.sub (ws' := [(qd, .inr (1, [.ref qw, .int (bI on), .int lf, .int (nI dn)])), (qw, .inl (cyI, 512, .inl w))]) [3, 4] rfl
      have hKc := hK.sub (tys' := [(cyI, .int), (cyZ, .boolean)]) [0, 1] rfl
      refine vp_callSi (va_Run.run (va_runV (As := [.int (nI k)]) (rest := [.ref qc]) ⟨hx, hb, hml, hown, hts⟩ (c_X2_keyOf l dC dI cyI cyZ qd qw w on lf dn k (by omega)) (cwV 1 hts gX0_firstBlockOfRank_X2_keyOf rfl rfl rfl (by decide +kernel) ⟨Nat.le_of_ble_eq_true rfl, Nat.le_of_ble_eq_true rfl⟩) ⟨zz_blR, va_recv hKc hPc (ci := 1) (q0 := 0) rfl rfl, fun U hU hW => ⟨rfl, by rw [hU]; exact hPc, va_K.moved hW.alike hKc⟩⟩ rfl rfl hl.1 rfl (lv_room (Nat.le_of_ble_eq_true rfl)) dX0_firstBlockOfRank_22 ⟨Nat.zero_le _, Nat.zero_le _⟩)) (fun r_22 hr_22 => ?_)
      have hr_22 : kKey w k = r_22 := Eq.symm hr_22
      subst hr_22
      have hPc := hP.sub (ws' := [(qc, .inr (0, [.ref qd, .ref qwh, .ref qlv, .int sa])), (qwh, .inl (cyZ, 64, .inl WH)), (qlv, .inl (cyZ, 64, .inl LV)), (qd, .inr (1, [.ref qw, .int (bI on), .int lf, .int (nI dn)])), (qw, .inl (cyI, 512, .inl w))]) [0, 1, 2, 3, 4] rfl
      have hKc := hK.sub (tys' := [(cyI, .int), (cyZ, .boolean)]) [0, 1] rfl
      refine vp_callSi (va_Run.run (va_runV (As := [.int (kKey w k)]) (rest := []) ⟨hx, hb, hml, hown, hts⟩ (c_X0_countTextsBelow l dC dI cyI cyZ qc qwh qlv qd qw WH LV sa w on lf dn L (kKey w k) (HL)) (cwV 1 hts gX0_firstBlockOfRank_X0_countTextsBelow rfl rfl rfl (by decide +kernel) ⟨Nat.le_of_ble_eq_true rfl, Nat.le_of_ble_eq_true rfl⟩) ⟨zz_blR, va_recv hKc hPc (ci := 0) (q0 := 0) rfl rfl, fun U hU hW => ⟨rfl, by rw [hU]; exact hPc, va_K.moved hW.alike hKc⟩⟩ rfl rfl hl.1 rfl (lv_room (Nat.le_of_ble_eq_true rfl)) dX0_firstBlockOfRank_25 ⟨Nat.zero_le _, Nat.zero_le _⟩)) (fun r_25 hr_25 => ?_)
      have hr_25 : nI (kBelow L w (kKey w k)) = r_25 := Eq.symm hr_25
      subst hr_25
      refine lv_iload_n hx hb dX0_firstBlockOfRank_28 rfl (lv_at hl 1 rfl) ?_
      refine lv_icmp_ne (tgt := 34) hx hb dX0_firstBlockOfRank_29 (by decide) (fun c_29 => ?_) (fun c_29 => ?_)
      ·
        refine lv_iinc (v := nI (k + 1)) (lv' := [(2, .int (nI (k + 1))), (0, .ref qc), (1, .int rk)]) hx hb dX0_firstBlockOfRank_34 hl (k := 2) rfl (nI_add k 1) (by decide) rfl (fun ls hl => ?_)
        refine lv_goto (tgt := 2) hx hb dX0_firstBlockOfRank_37 (by decide) ?_
        exact ih2 (k + 1) _ ⟨by omega, lt_step hj (by first | exact b_and_f1 c_13 | exact b_and_f2 (d_f c_29)), lv_sub hl [1, 2, 0] rfl⟩ (by first | omega | (dsimp only; omega))
      ·
        refine lv_iload_n hx hb dX0_firstBlockOfRank_32 rfl (lv_at hl 2 rfl) ?_
        have hret : nI k = zFI (zFst (kRank L w rk) 64) 64 := zFI_y (by omega) (b_and_t c_13 (d_t c_29)) hj
        refine zz_top hret ?_
        exact W.iret hx hb hr (fun tS ht hW => ⟨_, rfl, rfl, ht⟩) (fun _ h => nomatch h) dX0_firstBlockOfRank_33
set_option maxHeartbeats 4000000 in
set_option maxRecDepth 100000 in
theorem c_X0_countTexts (l : Launch) (dC : Nat → ClassId) (dI : Nat → Nat → Nat) (cyI cyZ : ClassId) (qc qwh qlv qd qw : Nat) (WH LV : Nat → Int32) (sa : Int32) (w : Nat → Int32) (on : Bool) (lf : Int32) (dn : Nat) (L : Nat → Bool) (HL : ∀ j, j < 64 → LV j = bI (L j)) : Met l yX0_countTexts wsX0_countTexts ({ frames := 3, cells := 0, slots := 0, locals := 64 }) (va_Pc [.ref qc] (fun U => va_P (dC, dI) vwCl [(qc, .inr (0, [.ref qd, .ref qwh, .ref qlv, .int sa])), (qwh, .inl (cyZ, 64, .inl WH)), (qlv, .inl (cyZ, 64, .inl LV)), (qd, .inr (1, [.ref qw, .int (bI on), .int lf, .int (nI dn)])), (qw, .inl (cyI, 512, .inl w))] U.heap ∧ va_K (dC, dI) vwCl [(cyI, .int), (cyZ, .boolean)] U)) (vp_Si (fun r => r = nI (fb_ct (kText L w) 64))) 0 0 (fun _ => False) := by
  refine Met.ofW (cc := cX0_countTexts) (maxL := 3) (ret := (some .int)) (by decide) rfl ?_
  intro pz ez sS mM args below meth cC s₁ B hml hv
  obtain ⟨rfl, hP, hK⟩ := hv
  have hx := B.exec
  have hb := B.bytes
  have hr := B.returns
  have hts := atoms_spec (ws := wsX0_countTexts) B.pre
  have hown : sS.vm.findClass RX0 = some mM.cls := findClass_of_methodNamed B.named
  have hlocks := B.notSynchronized
  have hl := lv_entry ([.ref qc]) (n := 3) (Nat.le_of_ble_eq_true rfl)
  rw [lg_entry_eq]
  generalize (lg_sl ([.ref qc]) ++ List.replicate (3 - (lg_sl ([.ref qc])).length) Slot.unset).toArray = ls at hl ⊢
  have hl : lv_has ls 3 [(0, .ref qc)] := hl
  refine lv_iconst (v := nI 0) hx hb dX0_countTexts_0 (by decide) ?_
  refine lv_istore_n (lv' := [(1, .int (nI 0)), (0, .ref qc)]) hx hb dX0_countTexts_1 rfl hl (by decide) rfl (fun ls hl => ?_)
  refine lv_iconst (v := nI 0) hx hb dX0_countTexts_2 (by decide) ?_
  refine lv_istore_n (lv' := [(2, .int (nI 0)), (1, .int (nI 0)), (0, .ref qc)]) hx hb dX0_countTexts_3 rfl hl (by decide) rfl (fun ls hl => ?_)
  refine zz_loopR (pc := 4) (μ := fun (k : Nat) => 64 - k) (Inv := fun (k : Nat) (ls : Array Slot) => (k ≤ 64) ∧ lv_has ls 3 [(0, .ref qc), (1, .int (nI (fb_ct (kText L w) k))), (2, .int (nI k))]) (x0 := (0)) ⟨by omega, lv_sub hl [2, 1, 0] rfl⟩ ?_
  intro k ls hI ih4
  obtain ⟨hk, hl⟩ := hI
  have hl : lv_has ls 3 [(0, .ref qc), (1, .int (nI (fb_ct (kText L w) k))), (2, .int (nI k))] := hl
  have hk : k ≤ 64 := hk
  refine lv_iload_n hx hb dX0_countTexts_4 rfl (lv_at hl 2 rfl) ?_
  refine lv_bipush (v := nI 64) hx hb dX0_countTexts_5 (by decide) ?_
  refine zn_icmp_ge (tgt := 27) hx hb dX0_countTexts_7 (by decide) (by omega) (by omega) (fun c_7 => ?_) (fun c_7 => ?_)
  ·
    refine lv_iload_n hx hb dX0_countTexts_27 rfl (lv_at hl 1 rfl) ?_
    have hret : nI (fb_ct (kText L w) k) = nI (fb_ct (kText L w) 64) := by rw [show k = 64 by omega]
    refine zz_top hret ?_
    exact W.iret hx hb hr (fun tS ht hW => ⟨_, rfl, rfl, ht⟩) (fun _ h => nomatch h) dX0_countTexts_28
  ·
    refine lv_aload_n hx hb dX0_countTexts_10 rfl (lv_at hl 0 rfl) ?_
    refine lv_iload_n hx hb dX0_countTexts_11 rfl (lv_at hl 2 rfl) ?_
    have hPc := hP.sub (ws' := [(qc, .inr (0, [.ref qd, .ref qwh, .ref qlv, .int sa])), (qwh, .inl (cyZ, 64, .inl WH)), (qlv, .inl (cyZ, 64, .inl LV)), (qd, .inr (1, [.ref qw, .int (bI on), .int lf, .int (nI dn)])), (qw, .inl (cyI, 512, .inl w))]) [0, 1, 2, 3, 4] rfl
    have hKc := hK.sub (tys' := [(cyI, .int), (cyZ, .boolean)]) [0, 1] rfl
    refine vp_callSi (va_Run.run (va_runV (As := [.int (nI k)]) (rest := []) ⟨hx, hb, hml, hown, hts⟩ (c_X0_isText l dC dI cyI cyZ qc qwh qlv qd qw WH LV sa w on lf dn L k (by omega) (HL)) (cwV 1 hts gX0_countTexts_X0_isText rfl rfl rfl (by decide +kernel) ⟨Nat.le_of_ble_eq_true rfl, Nat.le_of_ble_eq_true rfl⟩) ⟨zz_blR, va_recv hKc hPc (ci := 0) (q0 := 0) rfl rfl, fun U hU hW => ⟨rfl, by rw [hU]; exact hPc, va_K.moved hW.alike hKc⟩⟩ rfl rfl hl.1 rfl (lv_room (Nat.le_of_ble_eq_true rfl)) dX0_countTexts_12 ⟨Nat.zero_le _, Nat.zero_le _⟩)) (fun r_12 hr_12 => ?_)
    have hr_12 : bI (kText L w k) = r_12 := Eq.symm hr_12
    subst hr_12
    refine zb_if_eq (tgt := 21) hx hb dX0_countTexts_15 (by decide) (fun c_15 => ?_) (fun c_15 => ?_)
    ·
      refine lv_iinc (v := nI (k + 1)) (lv' := [(2, .int (nI (k + 1))), (0, .ref qc), (1, .int (nI (fb_ct (kText L w) k)))]) hx hb dX0_countTexts_21 hl (k := 2) rfl (nI_add k 1) (by decide) rfl (fun ls hl => ?_)
      refine lv_goto (tgt := 4) hx hb dX0_countTexts_24 (by decide) ?_
      rw [kct_n (q := kText L w) (k := k) (c_15)] at hl
      -- local 1: .int (nI (fb_ct (kText L w) k)) ~ .int (nI (fb_ct (kText L w) (k + 1)))
      exact ih4 (k + 1) _ ⟨by omega, lv_sub hl [1, 2, 0] rfl⟩ (by first | omega | (dsimp only; omega))
    ·
      refine lv_iinc (v := nI (fb_ct (kText L w) k + 1)) (lv' := [(1, .int (nI (fb_ct (kText L w) k + 1))), (0, .ref qc), (2, .int (nI k))]) hx hb dX0_countTexts_18 hl (k := 1) rfl (nI_add (fb_ct (kText L w) k) 1) (by decide) rfl (fun ls hl => ?_)
      refine lv_iinc (v := nI (k + 1)) (lv' := [(2, .int (nI (k + 1))), (1, .int (nI (fb_ct (kText L w) k + 1))), (0, .ref qc)]) hx hb dX0_countTexts_21 hl (k := 2) rfl (nI_add k 1) (by decide) rfl (fun ls hl => ?_)
      refine lv_goto (tgt := 4) hx hb dX0_countTexts_24 (by decide) ?_
      rw [kct_y (q := kText L w) (k := k) (c_15)] at hl
      -- local 1: .int (nI (fb_ct (kText L w) k + 1)) ~ .int (nI (fb_ct (kText L w) (k + 1)))
      exact ih4 (k + 1) _ ⟨by omega, lv_sub hl [2, 1, 0] rfl⟩ (by first | omega | (dsimp only; omega))
set_option maxHeartbeats 4000000 in
set_option maxRecDepth 100000 in
theorem c_X0_countLive (l : Launch) (dC : Nat → ClassId) (dI : Nat → Nat → Nat) (cyI cyZ : ClassId) (qc qwh qlv qd : Nat) (WH LV : Nat → Int32) (sa : Int32) (L : Nat → Bool) (HL : ∀ j, j < 64 → LV j = bI (L j)) : Met l yX0_countLive wsX0_countLive ({ frames := 1, cells := 0, slots := 0, locals := 21 }) (va_Pc [.ref qc] (fun U => va_P (dC, dI) vwCl [(qc, .inr (0, [.ref qd, .ref qwh, .ref qlv, .int sa])), (qwh, .inl (cyZ, 64, .inl WH)), (qlv, .inl (cyZ, 64, .inl LV))] U.heap ∧ va_K (dC, dI) vwCl [(cyI, .int), (cyZ, .boolean)] U)) (vp_Si (fun r => r = nI (fb_ct L 64))) 0 0 (fun _ => False) := by
  refine Met.ofW (cc := cX0_countLive) (maxL := 3) (ret := (some .int)) (by decide) rfl ?_
  intro pz ez sS mM args below meth cC s₁ B hml hv
  obtain ⟨rfl, hP, hK⟩ := hv
  have hx := B.exec
  have hb := B.bytes
  have hr := B.returns
  have hts := atoms_spec (ws := wsX0_countLive) B.pre
  have hown : sS.vm.findClass RX0 = some mM.cls := findClass_of_methodNamed B.named
  have hlocks := B.notSynchronized
  have hl := lv_entry ([.ref qc]) (n := 3) (Nat.le_of_ble_eq_true rfl)
  rw [lg_entry_eq]
  generalize (lg_sl ([.ref qc]) ++ List.replicate (3 - (lg_sl ([.ref qc])).length) Slot.unset).toArray = ls at hl ⊢
  have hl : lv_has ls 3 [(0, .ref qc)] := hl
  refine lv_iconst (v := nI 0) hx hb dX0_countLive_0 (by decide) ?_
  refine lv_istore_n (lv' := [(1, .int (nI 0)), (0, .ref qc)]) hx hb dX0_countLive_1 rfl hl (by decide) rfl (fun ls hl => ?_)
  refine lv_iconst (v := nI 0) hx hb dX0_countLive_2 (by decide) ?_
  refine lv_istore_n (lv' := [(2, .int (nI 0)), (1, .int (nI 0)), (0, .ref qc)]) hx hb dX0_countLive_3 rfl hl (by decide) rfl (fun ls hl => ?_)
  refine zz_loopR (pc := 4) (μ := fun (k : Nat) => 64 - k) (Inv := fun (k : Nat) (ls : Array Slot) => (k ≤ 64) ∧ lv_has ls 3 [(0, .ref qc), (1, .int (nI (fb_ct L k))), (2, .int (nI k))]) (x0 := (0)) ⟨by omega, lv_sub hl [2, 1, 0] rfl⟩ ?_
  intro k ls hI ih4
  obtain ⟨hk, hl⟩ := hI
  have hl : lv_has ls 3 [(0, .ref qc), (1, .int (nI (fb_ct L k))), (2, .int (nI k))] := hl
  have hk : k ≤ 64 := hk
  refine lv_iload_n hx hb dX0_countLive_4 rfl (lv_at hl 2 rfl) ?_
  refine lv_bipush (v := nI 64) hx hb dX0_countLive_5 (by decide) ?_
  refine zn_icmp_ge (tgt := 27) hx hb dX0_countLive_7 (by decide) (by omega) (by omega) (fun c_7 => ?_) (fun c_7 => ?_)
  ·
    refine lv_iload_n hx hb dX0_countLive_27 rfl (lv_at hl 1 rfl) ?_
    have hret : nI (fb_ct L k) = nI (fb_ct L 64) := by rw [show k = 64 by omega]
    refine zz_top hret ?_
    exact W.iret hx hb hr (fun tS ht hW => ⟨_, rfl, rfl, ht⟩) (fun _ h => nomatch h) dX0_countLive_28
  ·
    refine lv_aload_n hx hb dX0_countLive_10 rfl (lv_at hl 0 rfl) ?_
    refine lv_iload_n hx hb dX0_countLive_11 rfl (lv_at hl 2 rfl) ?_
    have hPc := hP.sub (ws' := [(qc, .inr (0, [.ref qd, .ref qwh, .ref qlv, .int sa])), (qwh, .inl (cyZ, 64, .inl WH)), (qlv, .inl (cyZ, 64, .inl LV))]) [0, 1, 2] rfl
    have hKc := hK.sub (tys' := [(cyI, .int), (cyZ, .boolean)]) [0, 1] rfl
    refine vp_callSi (va_Run.run (va_runV (As := [.int (nI k)]) (rest := []) ⟨hx, hb, hml, hown, hts⟩ (c_X0_isLive l dC dI cyI cyZ qc qwh qlv qd WH LV sa L k (by omega) (HL)) (cwV 1 hts gX0_countLive_X0_isLive rfl rfl rfl (by decide +kernel) ⟨Nat.le_of_ble_eq_true rfl, Nat.le_of_ble_eq_true rfl⟩) ⟨zz_blR, va_recv hKc hPc (ci := 0) (q0 := 0) rfl rfl, fun U hU hW => ⟨rfl, by rw [hU]; exact hPc, va_K.moved hW.alike hKc⟩⟩ rfl rfl hl.1 rfl (lv_room (Nat.le_of_ble_eq_true rfl)) dX0_countLive_12 ⟨Nat.zero_le _, Nat.zero_le _⟩)) (fun r_12 hr_12 => ?_)
    have hr_12 : bI (L k) = r_12 := Eq.symm hr_12
    subst hr_12
    refine zb_if_eq (tgt := 21) hx hb dX0_countLive_15 (by decide) (fun c_15 => ?_) (fun c_15 => ?_)
    ·
      refine lv_iinc (v := nI (k + 1)) (lv' := [(2, .int (nI (k + 1))), (0, .ref qc), (1, .int (nI (fb_ct L k)))]) hx hb dX0_countLive_21 hl (k := 2) rfl (nI_add k 1) (by decide) rfl (fun ls hl => ?_)
      refine lv_goto (tgt := 4) hx hb dX0_countLive_24 (by decide) ?_
      rw [kct_n (q := L) (k := k) (c_15)] at hl
      -- local 1: .int (nI (fb_ct L k)) ~ .int (nI (fb_ct L (k + 1)))
      exact ih4 (k + 1) _ ⟨by omega, lv_sub hl [1, 2, 0] rfl⟩ (by first | omega | (dsimp only; omega))
    ·
      refine lv_iinc (v := nI (fb_ct L k + 1)) (lv' := [(1, .int (nI (fb_ct L k + 1))), (0, .ref qc), (2, .int (nI k))]) hx hb dX0_countLive_18 hl (k := 1) rfl (nI_add (fb_ct L k) 1) (by decide) rfl (fun ls hl => ?_)
      refine lv_iinc (v := nI (k + 1)) (lv' := [(2, .int (nI (k + 1))), (1, .int (nI (fb_ct L k + 1))), (0, .ref qc)]) hx hb dX0_countLive_21 hl (k := 2) rfl (nI_add k 1) (by decide) rfl (fun ls hl => ?_)
      refine lv_goto (tgt := 4) hx hb dX0_countLive_24 (by decide) ?_
      rw [kct_y (q := L) (k := k) (c_15)] at hl
      -- local 1: .int (nI (fb_ct L k + 1)) ~ .int (nI (fb_ct L (k + 1)))
      exact ih4 (k + 1) _ ⟨by omega, lv_sub hl [2, 1, 0] rfl⟩ (by first | omega | (dsimp only; omega))
set_option maxHeartbeats 4000000 in
set_option maxRecDepth 100000 in
theorem c_X0_countLiveGraves (l : Launch) (dC : Nat → ClassId) (dI : Nat → Nat → Nat) (cyI cyZ : ClassId) (qc qwh qlv qd qw : Nat) (WH LV : Nat → Int32) (sa : Int32) (w : Nat → Int32) (on : Bool) (lf : Int32) (dn : Nat) (L : Nat → Bool) (HL : ∀ j, j < 64 → LV j = bI (L j)) : Met l yX0_countLiveGraves wsX0_countLiveGraves ({ frames := 3, cells := 0, slots := 0, locals := 64 }) (va_Pc [.ref qc] (fun U => va_P (dC, dI) vwCl [(qc, .inr (0, [.ref qd, .ref qwh, .ref qlv, .int sa])), (qwh, .inl (cyZ, 64, .inl WH)), (qlv, .inl (cyZ, 64, .inl LV)), (qd, .inr (1, [.ref qw, .int (bI on), .int lf, .int (nI dn)])), (qw, .inl (cyI, 512, .inl w))] U.heap ∧ va_K (dC, dI) vwCl [(cyI, .int), (cyZ, .boolean)] U)) (vp_Si (fun r => r = nI (fb_ct (kGrave L w) 64))) 0 0 (fun _ => False) := by
  refine Met.ofW (cc := cX0_countLiveGraves) (maxL := 3) (ret := (some .int)) (by decide) rfl ?_
  intro pz ez sS mM args below meth cC s₁ B hml hv
  obtain ⟨rfl, hP, hK⟩ := hv
  have hx := B.exec
  have hb := B.bytes
  have hr := B.returns
  have hts := atoms_spec (ws := wsX0_countLiveGraves) B.pre
  have hown : sS.vm.findClass RX0 = some mM.cls := findClass_of_methodNamed B.named
  have hlocks := B.notSynchronized
  have hl := lv_entry ([.ref qc]) (n := 3) (Nat.le_of_ble_eq_true rfl)
  rw [lg_entry_eq]
  generalize (lg_sl ([.ref qc]) ++ List.replicate (3 - (lg_sl ([.ref qc])).length) Slot.unset).toArray = ls at hl ⊢
  have hl : lv_has ls 3 [(0, .ref qc)] := hl
  refine lv_iconst (v := nI 0) hx hb dX0_countLiveGraves_0 (by decide) ?_
  refine lv_istore_n (lv' := [(1, .int (nI 0)), (0, .ref qc)]) hx hb dX0_countLiveGraves_1 rfl hl (by decide) rfl (fun ls hl => ?_)
  refine lv_iconst (v := nI 0) hx hb dX0_countLiveGraves_2 (by decide) ?_
  refine lv_istore_n (lv' := [(2, .int (nI 0)), (1, .int (nI 0)), (0, .ref qc)]) hx hb dX0_countLiveGraves_3 rfl hl (by decide) rfl (fun ls hl => ?_)
  refine zz_loopR (pc := 4) (μ := fun (k : Nat) => 64 - k) (Inv := fun (k : Nat) (ls : Array Slot) => (k ≤ 64) ∧ lv_has ls 3 [(0, .ref qc), (1, .int (nI (fb_ct (kGrave L w) k))), (2, .int (nI k))]) (x0 := (0)) ⟨by omega, lv_sub hl [2, 1, 0] rfl⟩ ?_
  intro k ls hI ih4
  obtain ⟨hk, hl⟩ := hI
  have hl : lv_has ls 3 [(0, .ref qc), (1, .int (nI (fb_ct (kGrave L w) k))), (2, .int (nI k))] := hl
  have hk : k ≤ 64 := hk
  refine lv_iload_n hx hb dX0_countLiveGraves_4 rfl (lv_at hl 2 rfl) ?_
  refine lv_bipush (v := nI 64) hx hb dX0_countLiveGraves_5 (by decide) ?_
  refine zn_icmp_ge (tgt := 27) hx hb dX0_countLiveGraves_7 (by decide) (by omega) (by omega) (fun c_7 => ?_) (fun c_7 => ?_)
  ·
    refine lv_iload_n hx hb dX0_countLiveGraves_27 rfl (lv_at hl 1 rfl) ?_
    have hret : nI (fb_ct (kGrave L w) k) = nI (fb_ct (kGrave L w) 64) := by rw [show k = 64 by omega]
    refine zz_top hret ?_
    exact W.iret hx hb hr (fun tS ht hW => ⟨_, rfl, rfl, ht⟩) (fun _ h => nomatch h) dX0_countLiveGraves_28
  ·
    refine lv_aload_n hx hb dX0_countLiveGraves_10 rfl (lv_at hl 0 rfl) ?_
    refine lv_iload_n hx hb dX0_countLiveGraves_11 rfl (lv_at hl 2 rfl) ?_
    have hPc := hP.sub (ws' := [(qc, .inr (0, [.ref qd, .ref qwh, .ref qlv, .int sa])), (qwh, .inl (cyZ, 64, .inl WH)), (qlv, .inl (cyZ, 64, .inl LV)), (qd, .inr (1, [.ref qw, .int (bI on), .int lf, .int (nI dn)])), (qw, .inl (cyI, 512, .inl w))]) [0, 1, 2, 3, 4] rfl
    have hKc := hK.sub (tys' := [(cyI, .int), (cyZ, .boolean)]) [0, 1] rfl
    refine vp_callSi (va_Run.run (va_runV (As := [.int (nI k)]) (rest := []) ⟨hx, hb, hml, hown, hts⟩ (c_X0_isLiveGrave l dC dI cyI cyZ qc qwh qlv qd qw WH LV sa w on lf dn L k (by omega) (HL)) (cwV 1 hts gX0_countLiveGraves_X0_isLiveGrave rfl rfl rfl (by decide +kernel) ⟨Nat.le_of_ble_eq_true rfl, Nat.le_of_ble_eq_true rfl⟩) ⟨zz_blR, va_recv hKc hPc (ci := 0) (q0 := 0) rfl rfl, fun U hU hW => ⟨rfl, by rw [hU]; exact hPc, va_K.moved hW.alike hKc⟩⟩ rfl rfl hl.1 rfl (lv_room (Nat.le_of_ble_eq_true rfl)) dX0_countLiveGraves_12 ⟨Nat.zero_le _, Nat.zero_le _⟩)) (fun r_12 hr_12 => ?_)
    have hr_12 : bI (kGrave L w k) = r_12 := Eq.symm hr_12
    subst hr_12
    refine zb_if_eq (tgt := 21) hx hb dX0_countLiveGraves_15 (by decide) (fun c_15 => ?_) (fun c_15 => ?_)
    ·
      refine lv_iinc (v := nI (k + 1)) (lv' := [(2, .int (nI (k + 1))), (0, .ref qc), (1, .int (nI (fb_ct (kGrave L w) k)))]) hx hb dX0_countLiveGraves_21 hl (k := 2) rfl (nI_add k 1) (by decide) rfl (fun ls hl => ?_)
      refine lv_goto (tgt := 4) hx hb dX0_countLiveGraves_24 (by decide) ?_
      rw [kct_n (q := kGrave L w) (k := k) (c_15)] at hl
      -- local 1: .int (nI (fb_ct (kGrave L w) k)) ~ .int (nI (fb_ct (kGrave L w) (k + 1)))
      exact ih4 (k + 1) _ ⟨by omega, lv_sub hl [1, 2, 0] rfl⟩ (by first | omega | (dsimp only; omega))
    ·
      refine lv_iinc (v := nI (fb_ct (kGrave L w) k + 1)) (lv' := [(1, .int (nI (fb_ct (kGrave L w) k + 1))), (0, .ref qc), (2, .int (nI k))]) hx hb dX0_countLiveGraves_18 hl (k := 1) rfl (nI_add (fb_ct (kGrave L w) k) 1) (by decide) rfl (fun ls hl => ?_)
      refine lv_iinc (v := nI (k + 1)) (lv' := [(2, .int (nI (k + 1))), (1, .int (nI (fb_ct (kGrave L w) k + 1))), (0, .ref qc)]) hx hb dX0_countLiveGraves_21 hl (k := 2) rfl (nI_add k 1) (by decide) rfl (fun ls hl => ?_)
      refine lv_goto (tgt := 4) hx hb dX0_countLiveGraves_24 (by decide) ?_
      rw [kct_y (q := kGrave L w) (k := k) (c_15)] at hl
      -- local 1: .int (nI (fb_ct (kGrave L w) k + 1)) ~ .int (nI (fb_ct (kGrave L w) (k + 1)))
      exact ih4 (k + 1) _ ⟨by omega, lv_sub hl [2, 1, 0] rfl⟩ (by first | omega | (dsimp only; omega))
