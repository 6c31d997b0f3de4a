set_option maxRecDepth 100000 in
theorem iwL_X0 : ∀ w ∈ wsX00, w ∈ wsL_law := by decide +kernel
set_option maxRecDepth 100000 in
theorem iwL_X2 : ∀ w ∈ wsX20, w ∈ wsL_law := by decide +kernel
set_option maxRecDepth 100000 in
theorem iwL_X3 : ∀ w ∈ wsX30, w ∈ wsL_law := by decide +kernel
set_option maxRecDepth 100000 in
theorem iwL_X4 : ∀ w ∈ wsX40, w ∈ wsL_law := by decide +kernel
set_option maxRecDepth 100000 in
theorem iwL_X5 : ∀ w ∈ wsX50, w ∈ wsL_law := by decide +kernel
theorem xqW_L : ∀ w ∈ xqW, w ∈ lw_tbl := by decide +kernel
theorem law_tr {l : Launch} (h : l.flags = flags0) : l.stackTraces = false := by
  unfold Launch.stackTraces; rw [h]; decide +kernel
theorem law_arr {s : State} {args : Array Value} {ty : FieldType} (h : (Cond.arrayClass ty).before args s = true) (hra : ∀ cA, s.vm.findClass ("[" ++ ty.toString) = some cA → va_RA s cA ty) : ∃ cA : ClassId, ArrOfT s cA ty ∧ va_RA s cA ty := by
  obtain ⟨cA, kA, comp, hfind, hk, hkind⟩ := Cond.arrayClass_spec h
  exact ⟨cA, fun n z => ⟨fun k h => (by cases h), kA, hk, comp, hkind⟩, hra cA hfind⟩
set_option maxHeartbeats 8000000 in
set_option maxRecDepth 100000 in
theorem whole_start0 {pz : Program} {ez : Env} {sS : State} {mM : MethodId} {below : List Frame} {meth : Method} {cC : Code} (l : Launch) (hflags : l.flags = flags0) {b L : Nat} {xs : Nat → Int32} (hL : L ≤ 256) (C0 : lw_At pz sS mM meth cC b L xs) : W pz l ez room_1 sS mM #[Value.ref b] below meth cC sS.heap [] 0 0 (lw_Z below #[Value.ref b] sS) (entryFrame mM ([Value.ref b] : List Value).toArray 7) := by
  have hT := law_tr hflags
  obtain ⟨hx, hb0, hr, hml, hown0, hts0, hX, hbl, hlocks, hgv⟩ := id C0
  have hgv := flat_of_before _ hgv
  have hb : cC.code = cL_law := hb0
  have hown : sS.vm.findClass RL = some mM.cls := hown0
  have hts : ∀ w ∈ wsL_law, w.before #[Value.ref b] sS = true := fun w h => hts0 w (wsL_law_in w h)
  obtain ⟨A, hAd⟩ : ∃ A : Nat → Prop, A = fun q : Nat => sS.heap.size ≤ q := ⟨_, rfl⟩
  have hA : ∀ q : Nat, sS.heap.size ≤ q → A q := fun q h => by rw [hAd]; exact h
  have hAq : ∀ q : Nat, A q → sS.heap.size ≤ q := fun q h => by rw [hAd] at h; exact h
  have hbA : ¬ A b := fun h => Nat.not_le.mpr hbl (hAq b h)
  have hnA : ∀ a : Nat, a < sS.heap.size → ¬ A a := fun a h1 h2 => Nat.not_le.mpr h1 (hAq a h2)
  have hXN : xn sS := ⟨va_Nw.of rfl (hts0 _ (by decide +kernel)), va_Nw.of rfl (hts0 _ (by decide +kernel))⟩
  have hXQ : xq A sS := ⟨fun w hw => va_Nw.of (xqW_on w hw) (hts0 w (xqW_L w hw)),
    vx_Zqof (hts0 (.laysStatic Bundle.tN "UNASSIGNED_STACK" Bundle.steD) (by decide +kernel)) (hts0 (.initialized Bundle.tN) (by decide +kernel)) (hgv _ (by decide +kernel)) hnA,
    vx_Zqof (hts0 (.laysStatic Bundle.tN "SUPPRESSED_SENTINEL" Bundle.listD) (by decide +kernel)) (hts0 (.initialized Bundle.tN) (by decide +kernel)) (hgv _ (by decide +kernel)) hnA,
    va_Nc.of (hgv (.not (.castable "java/lang/IllegalStateException" "java/lang/IllegalArgumentException")) (by decide +kernel))⟩
  obtain ⟨cyI, aI1, aI2⟩ := law_arr (ty := .int) (hts (.arrayClass .int) (by decide +kernel)) (fun _ h => h)
  obtain ⟨cyZ, aZ1, aZ2⟩ := law_arr (ty := .boolean) (hts (.arrayClass .boolean) (by decide +kernel)) (fun _ h => h)
  obtain ⟨cyJ, aJ1, aJ2⟩ := law_arr (ty := .long) (hts (.arrayClass .long) (by decide +kernel)) (fun _ h => h)
  obtain ⟨c0, iS0, hKn0⟩ := u_known (C := RX0) (T := TX0) (N := 4) (n := 4) hts iwL_X0 (hts (.instantiable RX0 4) (by decide +kernel))
  obtain ⟨c1, iS1, hKn1⟩ := u_known (C := RX2) (T := TX2) (N := 4) (n := 4) hts iwL_X2 (hts (.instantiable RX2 4) (by decide +kernel))
  obtain ⟨c2, iS2, hKn2⟩ := u_known (C := RX3) (T := TX3) (N := 2) (n := 2) hts iwL_X3 (hts (.instantiable RX3 2) (by decide +kernel))
  obtain ⟨c3, iS3, hKn3⟩ := u_known (C := RX4) (T := TX4) (N := 9) (n := 9) hts iwL_X4 (hts (.instantiable RX4 9) (by decide +kernel))
  obtain ⟨c4, iS4, hKn4⟩ := u_known (C := RX5) (T := TX5) (N := 15) (n := 15) hts iwL_X5 (hts (.instantiable RX5 15) (by decide +kernel))
  obtain ⟨dC, dI, hKc0⟩ : ∃ (dC : Nat → ClassId) (dI : Nat → Nat → Nat), ∀ (k : Nat) (q : vw_C), vwCl[k]? = some q → u_Kn sS q.1 q.2.1 q.2.2 (dC k) (dI k) := by
    refine ⟨fun k => if k = 0 then c0 else if k = 1 then c1 else if k = 2 then c2 else if k = 3 then c3 else c4, fun k => if k = 0 then iS0 else if k = 1 then iS1 else if k = 2 then iS2 else if k = 3 then iS3 else iS4, ?_⟩
    intro k q hq
    match k, hq with
    | 0, hq => cases hq; exact hKn0
    | 1, hq => cases hq; exact hKn1
    | 2, hq => cases hq; exact hKn2
    | 3, hq => cases hq; exact hKn3
    | 4, hq => cases hq; exact hKn4
    | k + 5, hq => simp [vwCl] at hq
  have hS : va_S A sS.heap sS.heap [] := va_S.rf
  have hK : va_K (dC, dI) vwCl [(cyI, .int), (cyZ, .boolean), (cyJ, .long)] sS := ⟨hKc0, fun k q h => by
    match k, h with
    | 0, h => cases h; exact ⟨aI1, aI2⟩
    | 1, h => cases h; exact ⟨aZ1, aZ2⟩
    | 2, h => cases h; exact ⟨aJ1, aJ2⟩
    | k + 3, h => simp at h⟩
  have hP : va_P (dC, dI) vwCl [] sS.heap := fun k q h => by simp at h
  have hD : va_D A [] := ⟨fun i j p q h => by simp at h, fun k q h => by simp at h⟩
  have iwX4 := iwL_X4
  have iwX5 := iwL_X5
  have hl := lv_entry ([.ref b]) (n := 7) (Nat.le_of_ble_eq_true rfl)
  rw [lg_entry_eq]
  generalize (lg_sl ([.ref b]) ++ List.replicate (7 - (lg_sl ([.ref b])).length) Slot.unset).toArray = ls at hl ⊢
  have hl : lv_has ls 7 [(0, .ref b)] := hl
  refine va_new (ci := 3) (fs := [.null, .null, .null, .null, .null, .null, .null, .null, .int (nI 0)]) (C := RX4) (T := TX4) (N := 9) hx hb hts iwX4 tyX4 tyX4_ok hown (hts (.classLink RL 8 RX4) (by decide +kernel)) (hts (.instantiable RX4 9) (by decide +kernel)) (hts (.initialized RX4) (by decide +kernel)) hK hP hD hS hA rfl (fun j hj => by rcases (show j = 0 ∨ j = 1 ∨ j = 2 ∨ j = 3 ∨ j = 4 ∨ j = 5 ∨ j = 6 ∨ j = 7 ∨ j = 8 by omega) with rfl | rfl | rfl | rfl | rfl | rfl | rfl | rfl | rfl <;> rfl) (Nat.le_of_ble_eq_true rfl) (Nat.le_of_ble_eq_true rfl) dL_law_0 (fun nq_0 H hP hD hS => ?_)
  have hP : va_P (dC, dI) vwCl [(nq_0, .inr (3, [.null, .null, .null, .null, .null, .null, .null, .null, .int (nI 0)]))] H := hP
  have hD : va_D A [(nq_0, .inr (3, [.null, .null, .null, .null, .null, .null, .null, .null, .int (nI 0)]))] := hD
  refine lv_dup hx hb dL_law_3 rfl ?_
  have hPc := hP.sub (ws' := [(nq_0, .inr (3, [.null, .null, .null, .null, .null, .null, .null, .null, .int (nI 0)]))]) [0] rfl
  have hKc := hK.sub (tys' := [(cyI, .int), (cyZ, .boolean)]) [0, 1] rfl
  have hDc := hD.sub (ws' := [(nq_0, .inr (3, [.null, .null, .null, .null, .null, .null, .null, .null, .int (nI 0)]))]) [0] (by decide) rfl
  have hFc := va_free (wc := [(nq_0, .inr (3, [.null, .null, .null, .null, .null, .null, .null, .null, .int (nI 0)]))]) hD hS hA [0] rfl
  refine va_callv (va_runI (As := []) (rest := [.ref nq_0]) ⟨hx, hb, hml, hown, hts⟩ (c_X4_init l dC dI cyI cyZ nq_0 H.size) (cwI 0 hts gL_law_X4_init rfl rfl rfl (hts (.initialized RX4) (by decide +kernel)) (hts (.methodLink RL 30 yX4_init) (by decide +kernel)) (hts (.instanceMethod yX4_init) (by decide +kernel)) rfl (by decide +kernel) ⟨Nat.le_of_ble_eq_true rfl, Nat.le_of_ble_eq_true rfl⟩) ⟨zz_blN, fun U hU hW => ⟨rfl, by rw [hU], by rw [hU]; exact hPc, va_K.moved hW.alike hKc, hDc.weaken (fun _ _ _ _ => trivial), hXN.warm hW⟩⟩ rfl rfl hl.1 rfl (lv_room (Nat.le_of_ble_eq_true rfl)) dL_law_4 ⟨by show _ ≤ 157; omega, by show _ ≤ 5907; omega⟩) hS (fun q _ h => hFc q h) hFc (fun uU tS H1 locs ht9 hvm9 hw9 hB9 hz1 hk1 hS => ?_)
  obtain ⟨qd_4, qw_4, qc_4, qwh_4, qlv_4, qt_4, qta_4, ql_4, qla_4, qn_4, qna_4, qe_4, qea_4, qr_4, qz_4⟩ := uU
  obtain ⟨hP1, hK1, hD1⟩ := hB9
  rw [ht9] at hP1
  have hK1 := va_K.moved hvm9.symm hK1
  obtain ⟨hP, hD⟩ := va_join (wr := []) (w1 := [(nq_0, .inr (3, [.ref qd_4, .ref qc_4, .ref qt_4, .ref ql_4, .ref qn_4, .ref qe_4, .ref qr_4, .ref qz_4, .int (-1)])), (qd_4, .inr (1, [.ref qw_4, .int (bI true), .int (-1), .int (nI 0)])), (qw_4, .inl (cyI, 512, .inl (fun _ => nI 0))), (qc_4, .inr (0, [.ref qd_4, .ref qwh_4, .ref qlv_4, .int (-1)])), (qwh_4, .inl (cyZ, 64, .inl (fun _ => nI 0))), (qlv_4, .inl (cyZ, 64, .inl (fun _ => nI 0))), (qt_4, .inr (2, [.ref qta_4, .int (nI 0)])), (qta_4, .inl (cyI, 450, .inl (fun _ => nI 0))), (ql_4, .inr (2, [.ref qla_4, .int (nI 0)])), (qla_4, .inl (cyI, 450, .inl (fun _ => nI 0))), (qn_4, .inr (2, [.ref qna_4, .int (nI 0)])), (qna_4, .inl (cyI, 450, .inl (fun _ => nI 0))), (qe_4, .inr (2, [.ref qea_4, .int (nI 0)])), (qea_4, .inl (cyI, 450, .inl (fun _ => nI 0))), (qr_4, .inl (cyI, 8, .inl (fun _ => nI 0))), (qz_4, .inl (cyI, 8, .inl (fun _ => nI 0)))]) hP hD [0] [] rfl rfl (by decide) (by decide) hk1 hFc hP1 hD1
  generalize H1 = H at hP hS ⊢
  have hP : va_P (dC, dI) vwCl [(nq_0, .inr (3, [.ref qd_4, .ref qc_4, .ref qt_4, .ref ql_4, .ref qn_4, .ref qe_4, .ref qr_4, .ref qz_4, .int (-1)])), (qd_4, .inr (1, [.ref qw_4, .int (bI true), .int (-1), .int (nI 0)])), (qw_4, .inl (cyI, 512, .inl (fun _ => nI 0))), (qc_4, .inr (0, [.ref qd_4, .ref qwh_4, .ref qlv_4, .int (-1)])), (qwh_4, .inl (cyZ, 64, .inl (fun _ => nI 0))), (qlv_4, .inl (cyZ, 64, .inl (fun _ => nI 0))), (qt_4, .inr (2, [.ref qta_4, .int (nI 0)])), (qta_4, .inl (cyI, 450, .inl (fun _ => nI 0))), (ql_4, .inr (2, [.ref qla_4, .int (nI 0)])), (qla_4, .inl (cyI, 450, .inl (fun _ => nI 0))), (qn_4, .inr (2, [.ref qna_4, .int (nI 0)])), (qna_4, .inl (cyI, 450, .inl (fun _ => nI 0))), (qe_4, .inr (2, [.ref qea_4, .int (nI 0)])), (qea_4, .inl (cyI, 450, .inl (fun _ => nI 0))), (qr_4, .inl (cyI, 8, .inl (fun _ => nI 0))), (qz_4, .inl (cyI, 8, .inl (fun _ => nI 0)))] H := hP
  have hD : va_D A [(nq_0, .inr (3, [.ref qd_4, .ref qc_4, .ref qt_4, .ref ql_4, .ref qn_4, .ref qe_4, .ref qr_4, .ref qz_4, .int (-1)])), (qd_4, .inr (1, [.ref qw_4, .int (bI true), .int (-1), .int (nI 0)])), (qw_4, .inl (cyI, 512, .inl (fun _ => nI 0))), (qc_4, .inr (0, [.ref qd_4, .ref qwh_4, .ref qlv_4, .int (-1)])), (qwh_4, .inl (cyZ, 64, .inl (fun _ => nI 0))), (qlv_4, .inl (cyZ, 64, .inl (fun _ => nI 0))), (qt_4, .inr (2, [.ref qta_4, .int (nI 0)])), (qta_4, .inl (cyI, 450, .inl (fun _ => nI 0))), (ql_4, .inr (2, [.ref qla_4, .int (nI 0)])), (qla_4, .inl (cyI, 450, .inl (fun _ => nI 0))), (qn_4, .inr (2, [.ref qna_4, .int (nI 0)])), (qna_4, .inl (cyI, 450, .inl (fun _ => nI 0))), (qe_4, .inr (2, [.ref qea_4, .int (nI 0)])), (qea_4, .inl (cyI, 450, .inl (fun _ => nI 0))), (qr_4, .inl (cyI, 8, .inl (fun _ => nI 0))), (qz_4, .inl (cyI, 8, .inl (fun _ => nI 0)))] := hD
  refine lv_astore_n (lv' := [(1, .ref nq_0), (0, .ref b)]) hx hb dL_law_7 rfl hl (by decide) rfl (fun ls hl => ?_)
  refine va_new (ci := 4) (fs := [.null, .null, .int (nI 0), .int (nI 0), .int (nI 0), .int (nI 0), .int (nI 0), .null, .int (nI 0), .null, .int (nI 0), .null, .int (nI 0), .int (nI 0), .null]) (C := RX5) (T := TX5) (N := 15) hx hb hts iwX5 tyX5 tyX5_ok hown (hts (.classLink RL 31 RX5) (by decide +kernel)) (hts (.instantiable RX5 15) (by decide +kernel)) (hts (.initialized RX5) (by decide +kernel)) hK hP hD hS hA rfl (fun j hj => by rcases (show j = 0 ∨ j = 1 ∨ j = 2 ∨ j = 3 ∨ j = 4 ∨ j = 5 ∨ j = 6 ∨ j = 7 ∨ j = 8 ∨ j = 9 ∨ j = 10 ∨ j = 11 ∨ j = 12 ∨ j = 13 ∨ j = 14 by omega) with rfl | rfl | rfl | rfl | rfl | rfl | rfl | rfl | rfl | rfl | rfl | rfl | rfl | rfl | rfl <;> rfl) (Nat.le_of_ble_eq_true rfl) (Nat.le_of_ble_eq_true rfl) dL_law_8 (fun nq_8 H hP hD hS => ?_)
  have hP : va_P (dC, dI) vwCl [(nq_0, .inr (3, [.ref qd_4, .ref qc_4, .ref qt_4, .ref ql_4, .ref qn_4, .ref qe_4, .ref qr_4, .ref qz_4, .int (-1)])), (qd_4, .inr (1, [.ref qw_4, .int (bI true), .int (-1), .int (nI 0)])), (qw_4, .inl (cyI, 512, .inl (fun _ => nI 0))), (qc_4, .inr (0, [.ref qd_4, .ref qwh_4, .ref qlv_4, .int (-1)])), (qwh_4, .inl (cyZ, 64, .inl (fun _ => nI 0))), (qlv_4, .inl (cyZ, 64, .inl (fun _ => nI 0))), (qt_4, .inr (2, [.ref qta_4, .int (nI 0)])), (qta_4, .inl (cyI, 450, .inl (fun _ => nI 0))), (ql_4, .inr (2, [.ref qla_4, .int (nI 0)])), (qla_4, .inl (cyI, 450, .inl (fun _ => nI 0))), (qn_4, .inr (2, [.ref qna_4, .int (nI 0)])), (qna_4, .inl (cyI, 450, .inl (fun _ => nI 0))), (qe_4, .inr (2, [.ref qea_4, .int (nI 0)])), (qea_4, .inl (cyI, 450, .inl (fun _ => nI 0))), (qr_4, .inl (cyI, 8, .inl (fun _ => nI 0))), (qz_4, .inl (cyI, 8, .inl (fun _ => nI 0))), (nq_8, .inr (4, [.null, .null, .int (nI 0), .int (nI 0), .int (nI 0), .int (nI 0), .int (nI 0), .null, .int (nI 0), .null, .int (nI 0), .null, .int (nI 0), .int (nI 0), .null]))] H := hP
  have hD : va_D A [(nq_0, .inr (3, [.ref qd_4, .ref qc_4, .ref qt_4, .ref ql_4, .ref qn_4, .ref qe_4, .ref qr_4, .ref qz_4, .int (-1)])), (qd_4, .inr (1, [.ref qw_4, .int (bI true), .int (-1), .int (nI 0)])), (qw_4, .inl (cyI, 512, .inl (fun _ => nI 0))), (qc_4, .inr (0, [.ref qd_4, .ref qwh_4, .ref qlv_4, .int (-1)])), (qwh_4, .inl (cyZ, 64, .inl (fun _ => nI 0))), (qlv_4, .inl (cyZ, 64, .inl (fun _ => nI 0))), (qt_4, .inr (2, [.ref qta_4, .int (nI 0)])), (qta_4, .inl (cyI, 450, .inl (fun _ => nI 0))), (ql_4, .inr (2, [.ref qla_4, .int (nI 0)])), (qla_4, .inl (cyI, 450, .inl (fun _ => nI 0))), (qn_4, .inr (2, [.ref qna_4, .int (nI 0)])), (qna_4, .inl (cyI, 450, .inl (fun _ => nI 0))), (qe_4, .inr (2, [.ref qea_4, .int (nI 0)])), (qea_4, .inl (cyI, 450, .inl (fun _ => nI 0))), (qr_4, .inl (cyI, 8, .inl (fun _ => nI 0))), (qz_4, .inl (cyI, 8, .inl (fun _ => nI 0))), (nq_8, .inr (4, [.null, .null, .int (nI 0), .int (nI 0), .int (nI 0), .int (nI 0), .int (nI 0), .null, .int (nI 0), .null, .int (nI 0), .null, .int (nI 0), .int (nI 0), .null]))] := hD
  refine lv_dup hx hb dL_law_11 rfl ?_
  have hPc := hP.sub (ws' := [(nq_8, .inr (4, [.null, .null, .int (nI 0), .int (nI 0), .int (nI 0), .int (nI 0), .int (nI 0), .null, .int (nI 0), .null, .int (nI 0), .null, .int (nI 0), .int (nI 0), .null]))]) [16] rfl
  have hKc := hK.sub (tys' := [(cyI, .int), (cyZ, .boolean)]) [0, 1] rfl
  have hDc := hD.sub (ws' := [(nq_8, .inr (4, [.null, .null, .int (nI 0), .int (nI 0), .int (nI 0), .int (nI 0), .int (nI 0), .null, .int (nI 0), .null, .int (nI 0), .null, .int (nI 0), .int (nI 0), .null]))]) [16] (by decide) rfl
  have hFc := va_free (wc := [(nq_8, .inr (4, [.null, .null, .int (nI 0), .int (nI 0), .int (nI 0), .int (nI 0), .int (nI 0), .null, .int (nI 0), .null, .int (nI 0), .null, .int (nI 0), .int (nI 0), .null]))]) hD hS hA [16] rfl
  refine va_callv (va_runI (As := []) (rest := [.ref nq_8]) ⟨hx, hb, hml, hown, hts⟩ (c_X5_init l dC dI cyI cyZ nq_8 H.size) (cwI 0 hts gL_law_X5_init rfl rfl rfl (hts (.initialized RX5) (by decide +kernel)) (hts (.methodLink RL 33 yX5_init) (by decide +kernel)) (hts (.instanceMethod yX5_init) (by decide +kernel)) rfl (by decide +kernel) ⟨Nat.le_of_ble_eq_true rfl, Nat.le_of_ble_eq_true rfl⟩) ⟨zz_blW, fun U hU hW => ⟨rfl, by rw [hU], by rw [hU]; exact hPc, va_K.moved hW.alike hKc, hDc.weaken (fun _ _ _ _ => trivial)⟩⟩ rfl rfl hl.1 rfl (lv_room (Nat.le_of_ble_eq_true rfl)) dL_law_12 ⟨by show _ ≤ 157; omega, by show _ ≤ 5907; omega⟩) hS (fun q _ h => hFc q h) hFc (fun uU tS H1 locs ht9 hvm9 hw9 hB9 hz1 hk1 hS => ?_)
  obtain ⟨qmd_12, qmt_12, qml_12, qmk_12, qmh_12, qmw_12⟩ := uU
  obtain ⟨hP1, hK1, hD1⟩ := hB9
  rw [ht9] at hP1
  have hK1 := va_K.moved hvm9.symm hK1
  obtain ⟨hP, hD⟩ := va_join (wr := [(nq_0, .inr (3, [.ref qd_4, .ref qc_4, .ref qt_4, .ref ql_4, .ref qn_4, .ref qe_4, .ref qr_4, .ref qz_4, .int (-1)])), (qd_4, .inr (1, [.ref qw_4, .int (bI true), .int (-1), .int (nI 0)])), (qw_4, .inl (cyI, 512, .inl (fun _ => nI 0))), (qc_4, .inr (0, [.ref qd_4, .ref qwh_4, .ref qlv_4, .int (-1)])), (qwh_4, .inl (cyZ, 64, .inl (fun _ => nI 0))), (qlv_4, .inl (cyZ, 64, .inl (fun _ => nI 0))), (qt_4, .inr (2, [.ref qta_4, .int (nI 0)])), (qta_4, .inl (cyI, 450, .inl (fun _ => nI 0))), (ql_4, .inr (2, [.ref qla_4, .int (nI 0)])), (qla_4, .inl (cyI, 450, .inl (fun _ => nI 0))), (qn_4, .inr (2, [.ref qna_4, .int (nI 0)])), (qna_4, .inl (cyI, 450, .inl (fun _ => nI 0))), (qe_4, .inr (2, [.ref qea_4, .int (nI 0)])), (qea_4, .inl (cyI, 450, .inl (fun _ => nI 0))), (qr_4, .inl (cyI, 8, .inl (fun _ => nI 0))), (qz_4, .inl (cyI, 8, .inl (fun _ => nI 0)))]) (w1 := [(nq_8, .inr (4, [.ref qmd_12, .ref qmt_12, .int (nI 0), .int (bI true), .int (-1), .int (nI 0), .int (-1), .ref qml_12, .int (nI 0), .ref qmk_12, .int (nI 0), .ref qmh_12, .int (nI 0), .int (nI 0), .ref qmw_12])), (qmt_12, .inl (cyI, 400, .inl (fun _ => nI 0))), (qml_12, .inl (cyI, 460, .inl (fun _ => nI 0))), (qmk_12, .inl (cyI, 460, .inl (fun _ => nI 0))), (qmh_12, .inl (cyI, 460, .inl (fun _ => nI 0))), (qmd_12, .inl (cyI, 512, .inl (fun _ => nI 0))), (qmw_12, .inl (cyZ, 64, .inl (fun _ => nI 0)))]) hP hD [16] [0, 1, 2, 3, 4, 5, 6, 7, 8, 9, 10, 11, 12, 13, 14, 15] rfl rfl (by decide) (by decide) hk1 hFc hP1 hD1
  generalize H1 = H at hP hS ⊢
  have hP : va_P (dC, dI) vwCl [(nq_0, .inr (3, [.ref qd_4, .ref qc_4, .ref qt_4, .ref ql_4, .ref qn_4, .ref qe_4, .ref qr_4, .ref qz_4, .int (-1)])), (qd_4, .inr (1, [.ref qw_4, .int (bI true), .int (-1), .int (nI 0)])), (qw_4, .inl (cyI, 512, .inl (fun _ => nI 0))), (qc_4, .inr (0, [.ref qd_4, .ref qwh_4, .ref qlv_4, .int (-1)])), (qwh_4, .inl (cyZ, 64, .inl (fun _ => nI 0))), (qlv_4, .inl (cyZ, 64, .inl (fun _ => nI 0))), (qt_4, .inr (2, [.ref qta_4, .int (nI 0)])), (qta_4, .inl (cyI, 450, .inl (fun _ => nI 0))), (ql_4, .inr (2, [.ref qla_4, .int (nI 0)])), (qla_4, .inl (cyI, 450, .inl (fun _ => nI 0))), (qn_4, .inr (2, [.ref qna_4, .int (nI 0)])), (qna_4, .inl (cyI, 450, .inl (fun _ => nI 0))), (qe_4, .inr (2, [.ref qea_4, .int (nI 0)])), (qea_4, .inl (cyI, 450, .inl (fun _ => nI 0))), (qr_4, .inl (cyI, 8, .inl (fun _ => nI 0))), (qz_4, .inl (cyI, 8, .inl (fun _ => nI 0))), (nq_8, .inr (4, [.ref qmd_12, .ref qmt_12, .int (nI 0), .int (bI true), .int (-1), .int (nI 0), .int (-1), .ref qml_12, .int (nI 0), .ref qmk_12, .int (nI 0), .ref qmh_12, .int (nI 0), .int (nI 0), .ref qmw_12])), (qmt_12, .inl (cyI, 400, .inl (fun _ => nI 0))), (qml_12, .inl (cyI, 460, .inl (fun _ => nI 0))), (qmk_12, .inl (cyI, 460, .inl (fun _ => nI 0))), (qmh_12, .inl (cyI, 460, .inl (fun _ => nI 0))), (qmd_12, .inl (cyI, 512, .inl (fun _ => nI 0))), (qmw_12, .inl (cyZ, 64, .inl (fun _ => nI 0)))] H := hP
  have hD : va_D A [(nq_0, .inr (3, [.ref qd_4, .ref qc_4, .ref qt_4, .ref ql_4, .ref qn_4, .ref qe_4, .ref qr_4, .ref qz_4, .int (-1)])), (qd_4, .inr (1, [.ref qw_4, .int (bI true), .int (-1), .int (nI 0)])), (qw_4, .inl (cyI, 512, .inl (fun _ => nI 0))), (qc_4, .inr (0, [.ref qd_4, .ref qwh_4, .ref qlv_4, .int (-1)])), (qwh_4, .inl (cyZ, 64, .inl (fun _ => nI 0))), (qlv_4, .inl (cyZ, 64, .inl (fun _ => nI 0))), (qt_4, .inr (2, [.ref qta_4, .int (nI 0)])), (qta_4, .inl (cyI, 450, .inl (fun _ => nI 0))), (ql_4, .inr (2, [.ref qla_4, .int (nI 0)])), (qla_4, .inl (cyI, 450, .inl (fun _ => nI 0))), (qn_4, .inr (2, [.ref qna_4, .int (nI 0)])), (qna_4, .inl (cyI, 450, .inl (fun _ => nI 0))), (qe_4, .inr (2, [.ref qea_4, .int (nI 0)])), (qea_4, .inl (cyI, 450, .inl (fun _ => nI 0))), (qr_4, .inl (cyI, 8, .inl (fun _ => nI 0))), (qz_4, .inl (cyI, 8, .inl (fun _ => nI 0))), (nq_8, .inr (4, [.ref qmd_12, .ref qmt_12, .int (nI 0), .int (bI true), .int (-1), .int (nI 0), .int (-1), .ref qml_12, .int (nI 0), .ref qmk_12, .int (nI 0), .ref qmh_12, .int (nI 0), .int (nI 0), .ref qmw_12])), (qmt_12, .inl (cyI, 400, .inl (fun _ => nI 0))), (qml_12, .inl (cyI, 460, .inl (fun _ => nI 0))), (qmk_12, .inl (cyI, 460, .inl (fun _ => nI 0))), (qmh_12, .inl (cyI, 460, .inl (fun _ => nI 0))), (qmd_12, .inl (cyI, 512, .inl (fun _ => nI 0))), (qmw_12, .inl (cyZ, 64, .inl (fun _ => nI 0)))] := hD
  refine lv_astore_n (lv' := [(2, .ref nq_8), (1, .ref nq_0), (0, .ref b)]) hx hb dL_law_15 rfl hl (by decide) rfl (fun ls hl => ?_)
  refine lv_iconst (v := nI 1) hx hb dL_law_16 (by decide) ?_
  refine zz_newa (ty := .long) hx hb (hts (.arrayClass .long) (by decide +kernel)) rfl hK hP hD hS hA 2 rfl (fun _ h => h) (1, .inr (.inl (fun _ => 0))) (fun _ => rfl) (by decide +kernel) (by decide +kernel) (by decide +kernel) (Nat.le_of_ble_eq_true rfl) (Nat.le_of_ble_eq_true rfl) dL_law_17 (fun na_17 H hP hD hS => ?_)
  have hP : va_P (dC, dI) vwCl [(nq_0, .inr (3, [.ref qd_4, .ref qc_4, .ref qt_4, .ref ql_4, .ref qn_4, .ref qe_4, .ref qr_4, .ref qz_4, .int (-1)])), (qd_4, .inr (1, [.ref qw_4, .int (bI true), .int (-1), .int (nI 0)])), (qw_4, .inl (cyI, 512, .inl (fun _ => nI 0))), (qc_4, .inr (0, [.ref qd_4, .ref qwh_4, .ref qlv_4, .int (-1)])), (qwh_4, .inl (cyZ, 64, .inl (fun _ => nI 0))), (qlv_4, .inl (cyZ, 64, .inl (fun _ => nI 0))), (qt_4, .inr (2, [.ref qta_4, .int (nI 0)])), (qta_4, .inl (cyI, 450, .inl (fun _ => nI 0))), (ql_4, .inr (2, [.ref qla_4, .int (nI 0)])), (qla_4, .inl (cyI, 450, .inl (fun _ => nI 0))), (qn_4, .inr (2, [.ref qna_4, .int (nI 0)])), (qna_4, .inl (cyI, 450, .inl (fun _ => nI 0))), (qe_4, .inr (2, [.ref qea_4, .int (nI 0)])), (qea_4, .inl (cyI, 450, .inl (fun _ => nI 0))), (qr_4, .inl (cyI, 8, .inl (fun _ => nI 0))), (qz_4, .inl (cyI, 8, .inl (fun _ => nI 0))), (nq_8, .inr (4, [.ref qmd_12, .ref qmt_12, .int (nI 0), .int (bI true), .int (-1), .int (nI 0), .int (-1), .ref qml_12, .int (nI 0), .ref qmk_12, .int (nI 0), .ref qmh_12, .int (nI 0), .int (nI 0), .ref qmw_12])), (qmt_12, .inl (cyI, 400, .inl (fun _ => nI 0))), (qml_12, .inl (cyI, 460, .inl (fun _ => nI 0))), (qmk_12, .inl (cyI, 460, .inl (fun _ => nI 0))), (qmh_12, .inl (cyI, 460, .inl (fun _ => nI 0))), (qmd_12, .inl (cyI, 512, .inl (fun _ => nI 0))), (qmw_12, .inl (cyZ, 64, .inl (fun _ => nI 0))), (na_17, .inl (cyJ, 1, .inr (.inl (fun _ => 0))))] H := hP
  have hD : va_D A [(nq_0, .inr (3, [.ref qd_4, .ref qc_4, .ref qt_4, .ref ql_4, .ref qn_4, .ref qe_4, .ref qr_4, .ref qz_4, .int (-1)])), (qd_4, .inr (1, [.ref qw_4, .int (bI true), .int (-1), .int (nI 0)])), (qw_4, .inl (cyI, 512, .inl (fun _ => nI 0))), (qc_4, .inr (0, [.ref qd_4, .ref qwh_4, .ref qlv_4, .int (-1)])), (qwh_4, .inl (cyZ, 64, .inl (fun _ => nI 0))), (qlv_4, .inl (cyZ, 64, .inl (fun _ => nI 0))), (qt_4, .inr (2, [.ref qta_4, .int (nI 0)])), (qta_4, .inl (cyI, 450, .inl (fun _ => nI 0))), (ql_4, .inr (2, [.ref qla_4, .int (nI 0)])), (qla_4, .inl (cyI, 450, .inl (fun _ => nI 0))), (qn_4, .inr (2, [.ref qna_4, .int (nI 0)])), (qna_4, .inl (cyI, 450, .inl (fun _ => nI 0))), (qe_4, .inr (2, [.ref qea_4, .int (nI 0)])), (qea_4, .inl (cyI, 450, .inl (fun _ => nI 0))), (qr_4, .inl (cyI, 8, .inl (fun _ => nI 0))), (qz_4, .inl (cyI, 8, .inl (fun _ => nI 0))), (nq_8, .inr (4, [.ref qmd_12, .ref qmt_12, .int (nI 0), .int (bI true), .int (-1), .int (nI 0), .int (-1), .ref qml_12, .int (nI 0), .ref qmk_12, .int (nI 0), .ref qmh_12, .int (nI 0), .int (nI 0), .ref qmw_12])), (qmt_12, .inl (cyI, 400, .inl (fun _ => nI 0))), (qml_12, .inl (cyI, 460, .inl (fun _ => nI 0))), (qmk_12, .inl (cyI, 460, .inl (fun _ => nI 0))), (qmh_12, .inl (cyI, 460, .inl (fun _ => nI 0))), (qmd_12, .inl (cyI, 512, .inl (fun _ => nI 0))), (qmw_12, .inl (cyZ, 64, .inl (fun _ => nI 0))), (na_17, .inl (cyJ, 1, .inr (.inl (fun _ => 0))))] := hD
  refine lv_astore_n (lv' := [(3, .ref na_17), (2, .ref nq_8), (1, .ref nq_0), (0, .ref b)]) hx hb dL_law_19 rfl hl (by decide) rfl (fun ls hl => ?_)
  refine lv_iconst (v := nI 0) hx hb dL_law_20 (by decide) ?_
  refine lv_istore (lv' := [(4, .int (nI 0)), (3, .ref na_17), (2, .ref nq_8), (1, .ref nq_0), (0, .ref b)]) hx hb dL_law_21 hl (by decide) rfl (fun ls hl => ?_)
  have hP9 := hP.sub (ws' := [(nq_0, .inr (3, [.ref qd_4, .ref qc_4, .ref qt_4, .ref ql_4, .ref qn_4, .ref qe_4, .ref qr_4, .ref qz_4, .int (-1)])), (qd_4, .inr (1, [.ref qw_4, .int (bI true), .int (-1), .int (nI 0)])), (qw_4, .inl (cyI, 512, .inl (fun _ => nI 0))), (qc_4, .inr (0, [.ref qd_4, .ref qwh_4, .ref qlv_4, .int (-1)])), (qwh_4, .inl (cyZ, 64, .inl (fun _ => nI 0))), (qlv_4, .inl (cyZ, 64, .inl (fun _ => nI 0))), (qt_4, .inr (2, [.ref qta_4, .int (nI 0)])), (qta_4, .inl (cyI, 450, .inl (fun _ => nI 0))), (ql_4, .inr (2, [.ref qla_4, .int (nI 0)])), (qla_4, .inl (cyI, 450, .inl (fun _ => nI 0))), (qn_4, .inr (2, [.ref qna_4, .int (nI 0)])), (qna_4, .inl (cyI, 450, .inl (fun _ => nI 0))), (qe_4, .inr (2, [.ref qea_4, .int (nI 0)])), (qea_4, .inl (cyI, 450, .inl (fun _ => nI 0))), (qr_4, .inl (cyI, 8, .inl (fun _ => nI 0))), (qz_4, .inl (cyI, 8, .inl (fun _ => nI 0))), (nq_8, .inr (4, [.ref qmd_12, .ref qmt_12, .int (nI 0), .int (bI true), .int (kUn true (-1)), .int (nI 0), .int (-1), .ref qml_12, .int (nI 0), .ref qmk_12, .int (nI 0), .ref qmh_12, .int (nI 0), .int (nI 0), .ref qmw_12])), (qmd_12, .inl (cyI, 512, .inl (fun _ => nI 0))), (qmt_12, .inl (cyI, 400, .inl (fun _ => nI 0))), (qml_12, .inl (cyI, 460, .inl (fun _ => nI 0))), (qmk_12, .inl (cyI, 460, .inl (fun _ => nI 0))), (qmh_12, .inl (cyI, 460, .inl (fun _ => nI 0))), (qmw_12, .inl (cyZ, 64, .inl (fun _ => nI 0))), (na_17, .inl (cyJ, 1, .inr (.inl (fun _ => 0))))]) [0, 1, 2, 3, 4, 5, 6, 7, 8, 9, 10, 11, 12, 13, 14, 15, 16, 21, 17, 18, 19, 20, 22, 23] rfl
  have hD9 := hD.sub (ws' := [(nq_0, .inr (3, [.ref qd_4, .ref qc_4, .ref qt_4, .ref ql_4, .ref qn_4, .ref qe_4, .ref qr_4, .ref qz_4, .int (-1)])), (qd_4, .inr (1, [.ref qw_4, .int (bI true), .int (-1), .int (nI 0)])), (qw_4, .inl (cyI, 512, .inl (fun _ => nI 0))), (qc_4, .inr (0, [.ref qd_4, .ref qwh_4, .ref qlv_4, .int (-1)])), (qwh_4, .inl (cyZ, 64, .inl (fun _ => nI 0))), (qlv_4, .inl (cyZ, 64, .inl (fun _ => nI 0))), (qt_4, .inr (2, [.ref qta_4, .int (nI 0)])), (qta_4, .inl (cyI, 450, .inl (fun _ => nI 0))), (ql_4, .inr (2, [.ref qla_4, .int (nI 0)])), (qla_4, .inl (cyI, 450, .inl (fun _ => nI 0))), (qn_4, .inr (2, [.ref qna_4, .int (nI 0)])), (qna_4, .inl (cyI, 450, .inl (fun _ => nI 0))), (qe_4, .inr (2, [.ref qea_4, .int (nI 0)])), (qea_4, .inl (cyI, 450, .inl (fun _ => nI 0))), (qr_4, .inl (cyI, 8, .inl (fun _ => nI 0))), (qz_4, .inl (cyI, 8, .inl (fun _ => nI 0))), (nq_8, .inr (4, [.ref qmd_12, .ref qmt_12, .int (nI 0), .int (bI true), .int (kUn true (-1)), .int (nI 0), .int (-1), .ref qml_12, .int (nI 0), .ref qmk_12, .int (nI 0), .ref qmh_12, .int (nI 0), .int (nI 0), .ref qmw_12])), (qmd_12, .inl (cyI, 512, .inl (fun _ => nI 0))), (qmt_12, .inl (cyI, 400, .inl (fun _ => nI 0))), (qml_12, .inl (cyI, 460, .inl (fun _ => nI 0))), (qmk_12, .inl (cyI, 460, .inl (fun _ => nI 0))), (qmh_12, .inl (cyI, 460, .inl (fun _ => nI 0))), (qmw_12, .inl (cyZ, 64, .inl (fun _ => nI 0))), (na_17, .inl (cyJ, 1, .inr (.inl (fun _ => 0))))]) [0, 1, 2, 3, 4, 5, 6, 7, 8, 9, 10, 11, 12, 13, 14, 15, 16, 21, 17, 18, 19, 20, 22, 23] (by decide) rfl
  refine W.widen (k := 24 + 0) (n := 4865 + 6 * 0) (by omega) (by omega) ?_
  exact law_loop l hT hL C0 dC dI cyI cyZ cyJ nq_0 qd_4 qw_4 qc_4 qwh_4 qlv_4 qt_4 qta_4 ql_4 qla_4 qn_4 qna_4 qe_4 qea_4 qr_4 qz_4 nq_8 qmd_12 qmt_12 qml_12 qmk_12 qmh_12 qmw_12 na_17 hA hbA hK hXQ hAq (L + 1) 0 _ _ _ (by omega) (by omega) ⟨((-1)), (fun _ => nI 0), (true), ((-1)), (0), (fun _ => nI 0), (fun _ => nI 0), ((-1)), (0), (fun _ => nI 0), (0), (fun _ => nI 0), (0), (fun _ => nI 0), (0), (fun _ => nI 0), (fun _ => nI 0), (0), (0), (nI 0), (fun _ => nI 0), (fun _ => nI 0), (fun _ => nI 0), (fun _ => nI 0), (fun _ => 0), ⟨by omega, no_lt0, by omega, by omega, zInv_0, fun h => absurd h (by decide), no_lt0⟩, hP9, hD9, hS⟩ (lv_sub hl [4, 3, 2, 1, 0] rfl)
-- ===== YOUR PART BEGINS =====
/-- YOUR PART: from the entry, for every script of at most 256 ints, the law comes to its end with true ('hflags': the launch's flags, for a law that throws: no stack traces) -/
theorem whole_start {p : Program} {e : Env} {s : State} {m : MethodId} {below : List Frame} {meth : Method} {c : Code} (l : Launch) (hflags : l.flags = flags0) {b L : Nat} {xs : Nat → Int32} (hL : L ≤ 256) (C0 : lw_At p s m meth c b L xs) : W p l e room_1 s m #[Value.ref b] below meth c s.heap [] 0 0 (lw_Z below #[Value.ref b] s) (entryFrame m ([Value.ref b] : List Value).toArray 7) :=
  whole_start0 l hflags hL C0
-- ===== YOUR PART ENDS =====
set_option maxHeartbeats 4000000 in
theorem lw_walk (l : Launch) (hflags : l.flags = flags0) (b : Addr) (xs : List Int32) : MetFree l x (headSpec (Jvm.Cond.code x code maxLocals ret :: tables_1) room_1) (lw_P b xs) (fun _ _ _ _ _ => True) lw_Q := by
  refine MetFree.of_bodyS (code := code) (maxLocals := maxLocals) (ret := ret) (by decide) ?_ ?_
  · intro args s m h hn
    obtain ⟨meth, c, h1, h2, h3, h4, h5, h6, -, -⟩ := Cond.code_spec hn (atoms_spec (ws := Jvm.Cond.code x code maxLocals ret :: tables_1) h _ List.mem_cons_self)
    exact ⟨meth, c, h1, h2, h3, h4, h5, h6⟩
  · intro p e s m args below meth c s₁ B hml0 hP _
    obtain ⟨rfl, hx, hbd, hgv⟩ := hP
    obtain ⟨scr, harrAt, hlist, hof, hsmall⟩ := hx
    obtain ⟨hcb, hkn, -, -⟩ := State.arrayAt?_spec harrAt
    have hown : s.vm.findClass R_law = some m.cls := findClass_of_methodNamed B.named
    have hts0 : ∀ c ∈ (Jvm.Cond.code x code maxLocals ret :: tables_1), c.before #[Value.ref b] s = true := atoms_spec (ws := Jvm.Cond.code x code maxLocals ret :: tables_1) B.pre
    have hts : ∀ w ∈ lw_tbl, w.before #[Value.ref b] s = true := k2_hts_sels lw_privs (fun w hw => hts0 w (List.mem_cons_of_mem _ hw)) lw_privs_ok
    have hml : c.maxLocals = 7 := B.maxLocals_eq (hts0 _ List.mem_cons_self)
    have X₀ : Stand p l e room_1 s m #[Value.ref b] below meth c s₁ [] 0 0 := Stand.of_body B
    have hh0 : s₁.heap = s.heap := by rw [B.state]; rfl
    have hsz : scr.slots.size = xs.length := by rw [← Array.length_toList, hlist, List.length_map]
    have hval : ∀ j : Nat, j < xs.length → scr.slots[j]? = some (.int (xs.getD j 0)) := fun j hj => by
      rw [← Array.getElem?_toList, hlist]
      simp [hj]
    have hbl : b < s.heap.size := (Array.getElem?_eq_some_iff.mp hcb).1
    have hX : va_X b xs.length (fun j => xs.getD j 0) s s.heap := ⟨scr, hcb, hof, hkn, hsz, hval⟩
    have K : W p l e room_1 s m #[Value.ref b] below meth c s₁.heap [] 0 0 (lw_Z below #[Value.ref b] s) (entryFrame m ([Value.ref b] : List Value).toArray 7) := by
      rw [hh0]
      exact whole_start l hflags hbd ⟨B.exec, B.bytes, B.returns, hml, hown, hts, hX, hbl, B.notSynchronized, hgv⟩
    obtain ⟨t, a1, o, b1, b2, b3⟩ := K s₁ rfl X₀
    exact ⟨t, o, a1, b1, b2, b3⟩
theorem lw_pre_spec {args : Array Value} {s : State} (h : (Jvm.Cond.and given_1 narrow_1).before args s = true) (hr : rest_1_c.before args s = true) : ∃ (b : Addr) (xs : List Int32), lw_P b xs args s := by
  have hs := flat_of_before _ h
  have hq := flat_of_before _ hr
  have hc : (Cond.count 1).before args s = true := hs _ (by decide +kernel)
  have harr : (Cond.arrayOf (.arg 0) .int).before args s = true := hs _ (by decide +kernel)
  have hle : (Cond.le (.length (.arg 0)) (.int 256)).before args s = true := hs _ (by decide +kernel)
  have hlen : (Cond.isInt (.length (.arg 0))).before args s = true := hq _ (by decide +kernel)
  have hall : (Cond.all (.arg 0) (.isInt (.elem (.arg 0) (.index 0)))).before args s = true := hq _ (by decide +kernel)
  obtain ⟨b, xs, hb, hx⟩ := State.ints_of_pre rfl harr hlen hall
  have hsm : xs.length < 2 ^ 31 := hx.choose_spec.2.2.2
  have hev : (Term.length (.arg 0)).eval args s none [] s = some (.int xs.length.toInt32) := hx.length_eval hb
  have hv := Cond.le_ints hev (show (Term.int 256).eval args s none [] s = some (.int 256) from rfl)
  have hd : xs.length.toInt32 ≤ 256 := by
    simpa [Cond.before, Cond.holds, hv] using hle
  have hN : xs.length ≤ 256 := (Int32.ofNat_le_ofNat hsm (by decide)).mp (show Int32.ofNat xs.length ≤ Int32.ofNat 256 from hd)
  exact ⟨b, xs, Cond.one_arg hc (show args[0]? = some (.ref b) from hb), hx, hN, h⟩
theorem lw_comes (l : Launch) (hflags : l.flags = flags0) : Comes l x (Jvm.Cond.code x code maxLocals ret :: tables_1) room_1 (fun tb e args s => Calls_1 tb e args s ∧ rest_1 tb e args s ∧ Pre_1 tb e args s)
    (fun _ _ args s o t => lw_Q args s o t) := by
  intro p e ha hc hk s m args below hf hfit hheap happ hpre
  obtain ⟨b, xs, hP⟩ := lw_pre_spec hpre.2.2 hpre.2.1
  obtain ⟨k, o, h1, h2, h3, hQ⟩ := lw_walk l hflags b xs p e ha hc hk s m args below hf ((Spec.applies_iff_loose hf).mp happ).1 hP trivial
  exact ⟨k, o, h1, h2, h3, hQ⟩
theorem lw_frame {s t : State} {o : Outcome} {args : Array Value} (h : Framed s o t [] 157 5907) :
    Framed s o t (fieldLocs frame_1_writes args s ++ arrayLocs frame_1_arrays args s ++ staticLocs frame_1_statics s) 157 5907 := h
theorem lw_limb (L : Cond) (hL : ∀ (args : Array Value) (s t : State), L.after args s (.returned (some (.int 1))) t = true) :
    ArmFor flags0 classFile x code maxLocals ret World_1 tables_1 room_1 Calls_1 rest_1 Pre_1
      (fun tb e a s o t => postC L tb e a s o t ∧ Framed s o t (fieldLocs frame_1_writes a s ++ arrayLocs frame_1_arrays a s ++ staticLocs frame_1_statics s) 157 5907) := by
  intro l hflags _ _ p e ha hc hk s m args below hf hfit hheap happ hpre
  obtain ⟨k, o, h1, h2, h3, rfl, hF⟩ := lw_comes l hflags p e ha hc hk s m args below hf hfit hheap happ hpre
  exact ⟨k, _, h1, h2, h3, hL args s _, lw_frame hF⟩
theorem i_vc : Claimed_1_1 ∧ Claimed_1_2 := ⟨lw_limb limb_1_1 (fun args s t => by simp [limb_1_1, Cond.after, Cond.holds, Cond.value]), lw_limb limb_1_2 (fun args s t => Cond.after_iff.mpr (by
  first | (rw [show limb_1_2 = Cond.eq .result (.int 1) from rfl, Cond.eq_ints (x := 1) (y := 1) rfl rfl]; simp; done) | (simp [limb_1_2, Cond.value, Term.eval]; done)))⟩
