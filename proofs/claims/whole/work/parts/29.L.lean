set_option maxHeartbeats 4000000 in
set_option maxRecDepth 100000 in
theorem c_L_feed_bad (l : Launch) (dC : Nat → ClassId) (dI : Nat → Nat → Nat) (cyI cyZ cyJ : ClassId) (q4 qt qta qu qd qc ql qn qe qr qz : Nat) (sz : Nat) (hT : l.stackTraces = false) (fp : Int32) (T : Nat → Int32) (n : Nat) (xx : Int32) (o9 : Int64) (ou : Nat → Int64) (hn : n ≤ 400) (HBAD : ¬ ∃ q : Nat, xx = nI q ∧ 1 ≤ q ∧ q ≤ 8 ∧ n + q ≤ 400) : Met l yL_feed wsL_feed ({ frames := 7, cells := 1, slots := 6, locals := 114 }) (va_Pc [.ref q4, .int xx, .long o9, .ref qu] (fun U => U.heap.size = sz ∧ va_P (dC, dI) vwCl [(q4, .inr (3, [.ref qd, .ref qc, .ref qt, .ref ql, .ref qn, .ref qe, .ref qr, .ref qz, .int fp])), (qt, .inr (2, [.ref qta, .int (nI n)])), (qta, .inl (cyI, 450, .inl T)), (qu, .inl (cyJ, 1, .inr (.inl ou)))] U.heap ∧ va_K (dC, dI) vwCl [(cyI, .int), (cyZ, .boolean), (cyJ, .long)] U ∧ va_D (fun _ => True) [(q4, .inr (3, [.ref qd, .ref qc, .ref qt, .ref ql, .ref qn, .ref qe, .ref qr, .ref qz, .int fp])), (qt, .inr (2, [.ref qta, .int (nI n)])), (qta, .inl (cyI, 450, .inl T)), (qu, .inl (cyJ, 1, .inr (.inl ou)))] ∧ xq (va_A [(q4, .inr (3, [.ref qd, .ref qc, .ref qt, .ref ql, .ref qn, .ref qe, .ref qr, .ref qz, .int fp])), (qt, .inr (2, [.ref qta, .int (nI n)])), (qta, .inl (cyI, 450, .inl T)), (qu, .inl (cyJ, 1, .inr (.inl ou)))] sz) U)) (va_Qi (S := Unit) (fun (r : Int32) (_ : Unit) => r = nI 1) (fun (_ : Unit) tS => va_P (dC, dI) vwCl [(q4, .inr (3, [.ref qd, .ref qc, .ref qt, .ref ql, .ref qn, .ref qe, .ref qr, .ref qz, .int fp])), (qt, .inr (2, [.ref qta, .int (nI n)])), (qta, .inl (cyI, 450, .inl T)), (qu, .inl (cyJ, 1, .inr (.inl ou)))] tS.heap ∧ va_K (dC, dI) vwCl [(cyI, .int), (cyZ, .boolean), (cyJ, .long)] tS ∧ va_D (va_A [(q4, .inr (3, [.ref qd, .ref qc, .ref qt, .ref ql, .ref qn, .ref qe, .ref qr, .ref qz, .int fp])), (qt, .inr (2, [.ref qta, .int (nI n)])), (qta, .inl (cyI, 450, .inl T)), (qu, .inl (cyJ, 1, .inr (.inl ou)))] sz) [(q4, .inr (3, [.ref qd, .ref qc, .ref qt, .ref ql, .ref qn, .ref qe, .ref qr, .ref qz, .int fp])), (qt, .inr (2, [.ref qta, .int (nI n)])), (qta, .inl (cyI, 450, .inl T)), (qu, .inl (cyJ, 1, .inr (.inl ou)))]) (va_A [(q4, .inr (3, [.ref qd, .ref qc, .ref qt, .ref ql, .ref qn, .ref qe, .ref qr, .ref qz, .int fp])), (qt, .inr (2, [.ref qta, .int (nI n)])), (qta, .inl (cyI, 450, .inl T)), (qu, .inl (cyJ, 1, .inr (.inl ou)))] sz)) 1 6 (va_A [(q4, .inr (3, [.ref qd, .ref qc, .ref qt, .ref ql, .ref qn, .ref qe, .ref qr, .ref qz, .int fp])), (qt, .inr (2, [.ref qta, .int (nI n)])), (qta, .inl (cyI, 450, .inl T)), (qu, .inl (cyJ, 1, .inr (.inl ou)))] sz) := by
  refine zz_ofWH (hh := [(0, 11, 14, 13)]) (cc := cL_feed) (maxL := 6) (ret := (some .int)) (by decide) rfl ?_
  intro pz ez sS mM args below meth cC s₁ B hml hv
  obtain ⟨rfl, hsz, hP, hK, hD0, hXQ⟩ := hv
  have htb := vx_table (x := yL_feed) B (atoms_spec (ws := wsL_feed) B.pre (.codeWith yL_feed cL_feed 6 (some .int) [(0, 11, 14, 13)]) List.mem_cons_self)
  have hx := B.exec
  have hb := B.bytes
  have hr := B.returns
  have hts := atoms_spec (ws := wsL_feed) B.pre
  have hown : sS.vm.findClass RL = some mM.cls := findClass_of_methodNamed B.named
  have hlocks := B.notSynchronized
  subst hsz
  have hD := hD0.self (sz := sS.heap.size)
  generalize hAe : va_A [(q4, .inr (3, [.ref qd, .ref qc, .ref qt, .ref ql, .ref qn, .ref qe, .ref qr, .ref qz, .int fp])), (qt, .inr (2, [.ref qta, .int (nI n)])), (qta, .inl (cyI, 450, .inl T)), (qu, .inl (cyJ, 1, .inr (.inl ou)))] sS.heap.size = A at hD hXQ ⊢
  have hA : ∀ q : Nat, sS.heap.size ≤ q → A q := fun q h => by rw [← hAe]; exact Or.inr h
  have hS : va_S A sS.heap sS.heap [] := va_S.rf
  have hP : va_P (dC, dI) vwCl [(q4, .inr (3, [.ref qd, .ref qc, .ref qt, .ref ql, .ref qn, .ref qe, .ref qr, .ref qz, .int fp])), (qt, .inr (2, [.ref qta, .int (nI n)])), (qta, .inl (cyI, 450, .inl T)), (qu, .inl (cyJ, 1, .inr (.inl ou)))] sS.heap := hP
  have hl := lv_entry ([.ref q4, .int xx, .long o9, .ref qu]) (n := 6) (Nat.le_of_ble_eq_true rfl)
  rw [lg_entry_eq]
  generalize (lg_sl ([.ref q4, .int xx, .long o9, .ref qu]) ++ List.replicate (6 - (lg_sl ([.ref q4, .int xx, .long o9, .ref qu])).length) Slot.unset).toArray = ls at hl ⊢
  have hl : lv_has ls 6 [(0, .ref q4), (1, .int xx), (2, .long o9), (4, .ref qu)] := hl
  refine lv_aload hx hb dL_feed_0 (lv_at hl 3 rfl) ?_
  refine lv_iconst (v := nI 0) hx hb dL_feed_2 (by decide) ?_
  refine lv_aload_n hx hb dL_feed_3 rfl (lv_at hl 0 rfl) ?_
  refine lv_iload_n hx hb dL_feed_4 rfl (lv_at hl 1 rfl) ?_
  refine lv_lload_n hx hb dL_feed_5 rfl (lv_at hl 2 rfl) ?_
  have hPc := hP.sub (ws' := [(q4, .inr (3, [.ref qd, .ref qc, .ref qt, .ref ql, .ref qn, .ref qe, .ref qr, .ref qz, .int fp])), (qt, .inr (2, [.ref qta, .int (nI n)])), (qta, .inl (cyI, 450, .inl T))]) [0, 1, 2] rfl
  have hKc := hK.sub (tys' := [(cyI, .int), (cyZ, .boolean)]) [0, 1] rfl
  have hDc := hD.sub (ws' := [(q4, .inr (3, [.ref qd, .ref qc, .ref qt, .ref ql, .ref qn, .ref qe, .ref qr, .ref qz, .int fp])), (qt, .inr (2, [.ref qta, .int (nI n)])), (qta, .inl (cyI, 450, .inl T))]) [0, 1, 2] (by decide) rfl
  have hFc := va_free (wc := [(q4, .inr (3, [.ref qd, .ref qc, .ref qt, .ref ql, .ref qn, .ref qe, .ref qr, .ref qz, .int fp])), (qt, .inr (2, [.ref qta, .int (nI n)])), (qta, .inl (cyI, 450, .inl T))]) hD hS hA [0, 1, 2] rfl
  refine vx_calli (vx_runV (As := [.int xx, .long o9]) (rest := [.int (nI 0), .ref qu]) ⟨hx, hb, hml, hown, hts⟩ (c_X4_feed_bad l dC dI cyI cyZ q4 qt qta qd qc ql qn qe qr qz sS.heap.size hT fp T n xx o9 (by omega) (HBAD)) (cwV 2 hts gL_feed_X4_feed rfl rfl rfl (by decide +kernel) ⟨Nat.le_of_ble_eq_true rfl, Nat.le_of_ble_eq_true rfl⟩) ⟨zz_blX, va_recv hKc hPc (ci := 3) (q0 := 0) rfl rfl, fun U hU hW => ⟨rfl, by rw [hU], by rw [hU]; exact hPc, va_K.moved hW.alike hKc, hDc.weaken (fun _ _ _ _ => trivial), hXQ.at hS hFc hU hW⟩⟩ rfl rfl hl.1 rfl (lv_room (Nat.le_of_ble_eq_true rfl)) dL_feed_6 ⟨Nat.le_of_ble_eq_true rfl, Nat.le_of_ble_eq_true rfl⟩) hS (fun q _ h => hFc q h) hFc (fun q _ h => hFc q h) (fun E9 ce q9 uU tS H1 locs ht9 hvm9 hpx hB9 hz1 hk1 hS hce hcv hcl => ?_) (fun r9 uU tS H1 locs ht9 hvm9 hw9 hB9 hz1 hk1 hS => hw9.elim)
  obtain ⟨hE9, hP1, hK1, hD1⟩ := hB9
  subst hE9
  rw [ht9] at hP1
  have hK1 := va_K.moved hvm9.symm hK1
  obtain ⟨hP, hD⟩ := va_join (wr := [(qu, .inl (cyJ, 1, .inr (.inl ou)))]) (w1 := [(q4, .inr (3, [.ref qd, .ref qc, .ref qt, .ref ql, .ref qn, .ref qe, .ref qr, .ref qz, .int fp])), (qt, .inr (2, [.ref qta, .int (nI n)])), (qta, .inl (cyI, 450, .inl T))]) hP hD [0, 1, 2] [3] rfl rfl (by decide) (by decide) hk1 hFc hP1 hD1
  generalize H1 = H at hP hS hce ⊢
  have hP : va_P (dC, dI) vwCl [(qu, .inl (cyJ, 1, .inr (.inl ou))), (q4, .inr (3, [.ref qd, .ref qc, .ref qt, .ref ql, .ref qn, .ref qe, .ref qr, .ref qz, .int fp])), (qt, .inr (2, [.ref qta, .int (nI n)])), (qta, .inl (cyI, 450, .inl T))] H := hP
  have hD : va_D A [(qu, .inl (cyJ, 1, .inr (.inl ou))), (q4, .inr (3, [.ref qd, .ref qc, .ref qt, .ref ql, .ref qn, .ref qe, .ref qr, .ref qz, .int fp])), (qt, .inr (2, [.ref qta, .int (nI n)])), (qta, .inl (cyI, 450, .inl T))] := hD
  refine vx_catch (name := "java/lang/IllegalArgumentException") hown [] ⟨0, 11, 14, 13⟩ [] (by rw [htb]; rfl) (fun z hz => absurd hz List.not_mem_nil) rfl (by decide) (hts (.classLink RL 13 "java/lang/IllegalArgumentException") (by decide +kernel)) ((hXQ.1 (.castable "java/lang/IllegalArgumentException" "java/lang/IllegalArgumentException") (by decide +kernel)).use rfl) hce hcv hcl ?_
  refine W.eq (g2 := F0 mM 14 ls [.ref q9]) rfl ?_
  refine lv_astore (lv' := [(5, .ref q9), (0, .ref q4), (1, .int xx), (2, .long o9), (4, .ref qu)]) hx hb dL_feed_14 hl (by decide) rfl (fun ls hl => ?_)
  refine lv_iconst (v := nI 1) hx hb dL_feed_16 (by decide) ?_
  have hP9 := hP.sub (ws' := [(q4, .inr (3, [.ref qd, .ref qc, .ref qt, .ref ql, .ref qn, .ref qe, .ref qr, .ref qz, .int fp])), (qt, .inr (2, [.ref qta, .int (nI n)])), (qta, .inl (cyI, 450, .inl T)), (qu, .inl (cyJ, 1, .inr (.inl ou)))]) [1, 2, 3, 0] rfl
  have hD9 := hD.sub (ws' := [(q4, .inr (3, [.ref qd, .ref qc, .ref qt, .ref ql, .ref qn, .ref qe, .ref qr, .ref qz, .int fp])), (qt, .inr (2, [.ref qta, .int (nI n)])), (qta, .inl (cyI, 450, .inl T)), (qu, .inl (cyJ, 1, .inr (.inl ou)))]) [1, 2, 3, 0] (by decide) rfl
  have hK9 := hK.sub (tys' := [(cyI, .int), (cyZ, .boolean), (cyJ, .long)]) [0, 1, 2] rfl
  refine W.widen (k := 1) (n := 6) (by omega) (by omega) ?_
  exact W.iret hx hb hr (fun tS ht hW => ⟨⟨_, (), rfl, rfl, by rw [ht]; exact hP9, va_K.moved hW.alike hK9, hD9⟩, hS.F ht⟩) hS.2.2 dL_feed_17
set_option maxHeartbeats 4000000 in
set_option maxRecDepth 100000 in
theorem c_L_feed_ok (l : Launch) (dC : Nat → ClassId) (dI : Nat → Nat → Nat) (cyI cyZ cyJ : ClassId) (q4 qt qta qu qd qc ql qn qe qr qz : Nat) (sz : Nat) (fp : Int32) (T : Nat → Int32) (n : Nat) (q : Nat) (o9 : Int64) (ou : Nat → Int64) (hq1 : 1 ≤ q) (hq8 : q ≤ 8) (hn : n + q ≤ 400) : Met l yL_feed wsL_feed ({ frames := 7, cells := 0, slots := 0, locals := 114 }) (va_Pc [.ref q4, .int (nI q), .long o9, .ref qu] (fun U => U.heap.size = sz ∧ va_P (dC, dI) vwCl [(q4, .inr (3, [.ref qd, .ref qc, .ref qt, .ref ql, .ref qn, .ref qe, .ref qr, .ref qz, .int fp])), (qt, .inr (2, [.ref qta, .int (nI n)])), (qta, .inl (cyI, 450, .inl T)), (qu, .inl (cyJ, 1, .inr (.inl ou)))] U.heap ∧ va_K (dC, dI) vwCl [(cyI, .int), (cyZ, .boolean), (cyJ, .long)] U ∧ va_D (fun _ => True) [(q4, .inr (3, [.ref qd, .ref qc, .ref qt, .ref ql, .ref qn, .ref qe, .ref qr, .ref qz, .int fp])), (qt, .inr (2, [.ref qta, .int (nI n)])), (qta, .inl (cyI, 450, .inl T)), (qu, .inl (cyJ, 1, .inr (.inl ou)))])) (va_Qi (S := Unit) (fun (r : Int32) (_ : Unit) => r = nI 0) (fun (_ : Unit) tS => va_P (dC, dI) vwCl [(q4, .inr (3, [.ref qd, .ref qc, .ref qt, .ref ql, .ref qn, .ref qe, .ref qr, .ref qz, .int fp])), (qt, .inr (2, [.ref qta, .int (nI (n + q))])), (qta, .inl (cyI, 450, .inl (zFeed T n o9 q))), (qu, .inl (cyJ, 1, .inr (.inl (vp_updL ou 0 ((nI (n + q)).toInt64)))))] tS.heap ∧ va_K (dC, dI) vwCl [(cyI, .int), (cyZ, .boolean), (cyJ, .long)] tS ∧ va_D (va_A [(q4, .inr (3, [.ref qd, .ref qc, .ref qt, .ref ql, .ref qn, .ref qe, .ref qr, .ref qz, .int fp])), (qt, .inr (2, [.ref qta, .int (nI n)])), (qta, .inl (cyI, 450, .inl T)), (qu, .inl (cyJ, 1, .inr (.inl ou)))] sz) [(q4, .inr (3, [.ref qd, .ref qc, .ref qt, .ref ql, .ref qn, .ref qe, .ref qr, .ref qz, .int fp])), (qt, .inr (2, [.ref qta, .int (nI (n + q))])), (qta, .inl (cyI, 450, .inl (zFeed T n o9 q))), (qu, .inl (cyJ, 1, .inr (.inl (vp_updL ou 0 ((nI (n + q)).toInt64)))))]) (va_A [(q4, .inr (3, [.ref qd, .ref qc, .ref qt, .ref ql, .ref qn, .ref qe, .ref qr, .ref qz, .int fp])), (qt, .inr (2, [.ref qta, .int (nI n)])), (qta, .inl (cyI, 450, .inl T)), (qu, .inl (cyJ, 1, .inr (.inl ou)))] sz)) 0 0 (va_A [(q4, .inr (3, [.ref qd, .ref qc, .ref qt, .ref ql, .ref qn, .ref qe, .ref qr, .ref qz, .int fp])), (qt, .inr (2, [.ref qta, .int (nI n)])), (qta, .inl (cyI, 450, .inl T)), (qu, .inl (cyJ, 1, .inr (.inl ou)))] sz) := by
  refine zz_ofWH (hh := [(0, 11, 14, 13)]) (cc := cL_feed) (maxL := 6) (ret := (some .int)) (by decide) rfl ?_
  intro pz ez sS mM args below meth cC s₁ B hml hv
  obtain ⟨rfl, hsz, hP, hK, hD0⟩ := hv
  have htb := vx_table (x := yL_feed) B (atoms_spec (ws := wsL_feed) B.pre (.codeWith yL_feed cL_feed 6 (some .int) [(0, 11, 14, 13)]) List.mem_cons_self)
  have hx := B.exec
  have hb := B.bytes
  have hr := B.returns
  have hts := atoms_spec (ws := wsL_feed) B.pre
  have hown : sS.vm.findClass RL = some mM.cls := findClass_of_methodNamed B.named
  have hlocks := B.notSynchronized
  subst hsz
  have hD := hD0.self (sz := sS.heap.size)
  generalize hAe : va_A [(q4, .inr (3, [.ref qd, .ref qc, .ref qt, .ref ql, .ref qn, .ref qe, .ref qr, .ref qz, .int fp])), (qt, .inr (2, [.ref qta, .int (nI n)])), (qta, .inl (cyI, 450, .inl T)), (qu, .inl (cyJ, 1, .inr (.inl ou)))] sS.heap.size = A at hD ⊢
  have hA : ∀ q : Nat, sS.heap.size ≤ q → A q := fun q h => by rw [← hAe]; exact Or.inr h
  have hS : va_S A sS.heap sS.heap [] := va_S.rf
  have hP : va_P (dC, dI) vwCl [(q4, .inr (3, [.ref qd, .ref qc, .ref qt, .ref ql, .ref qn, .ref qe, .ref qr, .ref qz, .int fp])), (qt, .inr (2, [.ref qta, .int (nI n)])), (qta, .inl (cyI, 450, .inl T)), (qu, .inl (cyJ, 1, .inr (.inl ou)))] sS.heap := hP
  have hl := lv_entry ([.ref q4, .int (nI q), .long o9, .ref qu]) (n := 6) (Nat.le_of_ble_eq_true rfl)
  rw [lg_entry_eq]
  generalize (lg_sl ([.ref q4, .int (nI q), .long o9, .ref qu]) ++ List.replicate (6 - (lg_sl ([.ref q4, .int (nI q), .long o9, .ref qu])).length) Slot.unset).toArray = ls at hl ⊢
  have hl : lv_has ls 6 [(0, .ref q4), (1, .int (nI q)), (2, .long o9), (4, .ref qu)] := hl
  refine lv_aload hx hb dL_feed_0 (lv_at hl 3 rfl) ?_
  refine lv_iconst (v := nI 0) hx hb dL_feed_2 (by decide) ?_
  refine lv_aload_n hx hb dL_feed_3 rfl (lv_at hl 0 rfl) ?_
  refine lv_iload_n hx hb dL_feed_4 rfl (lv_at hl 1 rfl) ?_
  refine lv_lload_n hx hb dL_feed_5 rfl (lv_at hl 2 rfl) ?_
  have hPc := hP.sub (ws' := [(q4, .inr (3, [.ref qd, .ref qc, .ref qt, .ref ql, .ref qn, .ref qe, .ref qr, .ref qz, .int fp])), (qt, .inr (2, [.ref qta, .int (nI n)])), (qta, .inl (cyI, 450, .inl T))]) [0, 1, 2] rfl
  have hKc := hK.sub (tys' := [(cyI, .int), (cyZ, .boolean)]) [0, 1] rfl
  have hDc := hD.sub (ws' := [(q4, .inr (3, [.ref qd, .ref qc, .ref qt, .ref ql, .ref qn, .ref qe, .ref qr, .ref qz, .int fp])), (qt, .inr (2, [.ref qta, .int (nI n)])), (qta, .inl (cyI, 450, .inl T))]) [0, 1, 2] (by decide) rfl
  have hFc := va_free (wc := [(q4, .inr (3, [.ref qd, .ref qc, .ref qt, .ref ql, .ref qn, .ref qe, .ref qr, .ref qz, .int fp])), (qt, .inr (2, [.ref qta, .int (nI n)])), (qta, .inl (cyI, 450, .inl T))]) hD hS hA [0, 1, 2] rfl
  refine va_calli (va_runV (As := [.int (nI q), .long o9]) (rest := [.int (nI 0), .ref qu]) ⟨hx, hb, hml, hown, hts⟩ (c_X4_feed_ok l dC dI cyI cyZ q4 qt qta qd qc ql qn qe qr qz sS.heap.size fp T n q o9 (by omega) (by omega) (by omega)) (cwV 2 hts gL_feed_X4_feed rfl rfl rfl (by decide +kernel) ⟨Nat.le_of_ble_eq_true rfl, Nat.le_of_ble_eq_true rfl⟩) ⟨zz_blW, va_recv hKc hPc (ci := 3) (q0 := 0) rfl rfl, fun U hU hW => ⟨rfl, by rw [hU], by rw [hU]; exact hPc, va_K.moved hW.alike hKc, hDc.weaken (fun _ _ _ _ => trivial)⟩⟩ rfl rfl hl.1 rfl (lv_room (Nat.le_of_ble_eq_true rfl)) dL_feed_6 ⟨Nat.zero_le _, Nat.zero_le _⟩) hS (fun q _ h => hFc q h) hFc (fun r_6 uU tS H1 locs ht9 hvm9 hw9 hB9 hz1 hk1 hS => ?_)
  obtain ⟨hP1, hK1, hD1⟩ := hB9
  have hw9 : (r_6 = nI (n + q)) := hw9
  have hr_6 := hw9
  have hr_6 := Eq.symm hr_6
  subst hr_6
  rw [ht9] at hP1
  have hK1 := va_K.moved hvm9.symm hK1
  obtain ⟨hP, hD⟩ := va_join (wr := [(qu, .inl (cyJ, 1, .inr (.inl ou)))]) (w1 := [(q4, .inr (3, [.ref qd, .ref qc, .ref qt, .ref ql, .ref qn, .ref qe, .ref qr, .ref qz, .int fp])), (qt, .inr (2, [.ref qta, .int (nI (n + q))])), (qta, .inl (cyI, 450, .inl (zFeed T n o9 q)))]) hP hD [0, 1, 2] [3] rfl rfl (by decide) (by decide) hk1 hFc hP1 hD1
  generalize H1 = H at hP hS ⊢
  have hP : va_P (dC, dI) vwCl [(qu, .inl (cyJ, 1, .inr (.inl ou))), (q4, .inr (3, [.ref qd, .ref qc, .ref qt, .ref ql, .ref qn, .ref qe, .ref qr, .ref qz, .int fp])), (qt, .inr (2, [.ref qta, .int (nI (n + q))])), (qta, .inl (cyI, 450, .inl (zFeed T n o9 q)))] H := hP
  have hD : va_D A [(qu, .inl (cyJ, 1, .inr (.inl ou))), (q4, .inr (3, [.ref qd, .ref qc, .ref qt, .ref ql, .ref qn, .ref qe, .ref qr, .ref qz, .int fp])), (qt, .inr (2, [.ref qta, .int (nI (n + q))])), (qta, .inl (cyI, 450, .inl (zFeed T n o9 q)))] := hD
  refine lv_i2l (v := (nI (n + q)).toInt64) hx hb dL_feed_9 rfl ?_
  refine va_last hx hb hK hP hD hS 0 2 rfl rfl (vp_in_nI (n := 0) (by omega) (by decide)) dL_feed_10 (fun H locs hP hD hS => ?_)
  rw [nI_clamp (n := 0) (by omega)] at hP hD
  have hP : va_P (dC, dI) vwCl [(qu, .inl (cyJ, 1, .inr (.inl (vp_updL ou 0 ((nI (n + q)).toInt64))))), (q4, .inr (3, [.ref qd, .ref qc, .ref qt, .ref ql, .ref qn, .ref qe, .ref qr, .ref qz, .int fp])), (qt, .inr (2, [.ref qta, .int (nI (n + q))])), (qta, .inl (cyI, 450, .inl (zFeed T n o9 q)))] H := hP
  have hD : va_D A [(qu, .inl (cyJ, 1, .inr (.inl (vp_updL ou 0 ((nI (n + q)).toInt64))))), (q4, .inr (3, [.ref qd, .ref qc, .ref qt, .ref ql, .ref qn, .ref qe, .ref qr, .ref qz, .int fp])), (qt, .inr (2, [.ref qta, .int (nI (n + q))])), (qta, .inl (cyI, 450, .inl (zFeed T n o9 q)))] := hD
  refine lv_goto (tgt := 18) hx hb dL_feed_11 (by decide) ?_
  refine lv_iconst (v := nI 0) hx hb dL_feed_18 (by decide) ?_
  have hP9 := hP.sub (ws' := [(q4, .inr (3, [.ref qd, .ref qc, .ref qt, .ref ql, .ref qn, .ref qe, .ref qr, .ref qz, .int fp])), (qt, .inr (2, [.ref qta, .int (nI (n + q))])), (qta, .inl (cyI, 450, .inl (zFeed T n o9 q))), (qu, .inl (cyJ, 1, .inr (.inl (vp_updL ou 0 ((nI (n + q)).toInt64)))))]) [1, 2, 3, 0] rfl
  have hD9 := hD.sub (ws' := [(q4, .inr (3, [.ref qd, .ref qc, .ref qt, .ref ql, .ref qn, .ref qe, .ref qr, .ref qz, .int fp])), (qt, .inr (2, [.ref qta, .int (nI (n + q))])), (qta, .inl (cyI, 450, .inl (zFeed T n o9 q))), (qu, .inl (cyJ, 1, .inr (.inl (vp_updL ou 0 ((nI (n + q)).toInt64)))))]) [1, 2, 3, 0] (by decide) rfl
  have hK9 := hK.sub (tys' := [(cyI, .int), (cyZ, .boolean), (cyJ, .long)]) [0, 1, 2] rfl
  exact W.iret hx hb hr (fun tS ht hW => ⟨⟨_, (), rfl, rfl, by rw [ht]; exact hP9, va_K.moved hW.alike hK9, hD9⟩, hS.F ht⟩) hS.2.2 dL_feed_19
set_option maxHeartbeats 4000000 in
set_option maxRecDepth 100000 in
theorem c_L_power_bad (l : Launch) (dC : Nat → ClassId) (dI : Nat → Nat → Nat) (cyI cyZ cyJ : ClassId) (q4 qd qw qu qc qt ql qn qe qr qz : Nat) (sz : Nat) (hT : l.stackTraces = false) (fp : Int32) (w : Nat → Int32) (on : Bool) (lf : Int32) (dn : Nat) (xx : Int32) (ou : Nat → Int64) (HBAD : xx < (-1) ∨ nI 1000 < xx) : Met l yL_power wsL_power ({ frames := 7, cells := 1, slots := 6, locals := 112 }) (va_Pc [.ref q4, .int xx, .ref qu] (fun U => U.heap.size = sz ∧ va_P (dC, dI) vwCl [(q4, .inr (3, [.ref qd, .ref qc, .ref qt, .ref ql, .ref qn, .ref qe, .ref qr, .ref qz, .int fp])), (qd, .inr (1, [.ref qw, .int (bI on), .int lf, .int (nI dn)])), (qw, .inl (cyI, 512, .inl w)), (qu, .inl (cyJ, 1, .inr (.inl ou)))] U.heap ∧ va_K (dC, dI) vwCl [(cyI, .int), (cyZ, .boolean), (cyJ, .long)] U ∧ va_D (fun _ => True) [(q4, .inr (3, [.ref qd, .ref qc, .ref qt, .ref ql, .ref qn, .ref qe, .ref qr, .ref qz, .int fp])), (qd, .inr (1, [.ref qw, .int (bI on), .int lf, .int (nI dn)])), (qw, .inl (cyI, 512, .inl w)), (qu, .inl (cyJ, 1, .inr (.inl ou)))] ∧ xq (va_A [(q4, .inr (3, [.ref qd, .ref qc, .ref qt, .ref ql, .ref qn, .ref qe, .ref qr, .ref qz, .int fp])), (qd, .inr (1, [.ref qw, .int (bI on), .int lf, .int (nI dn)])), (qw, .inl (cyI, 512, .inl w)), (qu, .inl (cyJ, 1, .inr (.inl ou)))] sz) U)) (va_Qi (S := Unit) (fun (r : Int32) (_ : Unit) => r = nI 1) (fun (_ : Unit) tS => va_P (dC, dI) vwCl [(q4, .inr (3, [.ref qd, .ref qc, .ref qt, .ref ql, .ref qn, .ref qe, .ref qr, .ref qz, .int fp])), (qd, .inr (1, [.ref qw, .int (bI on), .int lf, .int (nI dn)])), (qw, .inl (cyI, 512, .inl w)), (qu, .inl (cyJ, 1, .inr (.inl ou)))] tS.heap ∧ va_K (dC, dI) vwCl [(cyI, .int), (cyZ, .boolean), (cyJ, .long)] tS ∧ va_D (va_A [(q4, .inr (3, [.ref qd, .ref qc, .ref qt, .ref ql, .ref qn, .ref qe, .ref qr, .ref qz, .int fp])), (qd, .inr (1, [.ref qw, .int (bI on), .int lf, .int (nI dn)])), (qw, .inl (cyI, 512, .inl w)), (qu, .inl (cyJ, 1, .inr (.inl ou)))] sz) [(q4, .inr (3, [.ref qd, .ref qc, .ref qt, .ref ql, .ref qn, .ref qe, .ref qr, .ref qz, .int fp])), (qd, .inr (1, [.ref qw, .int (bI on), .int lf, .int (nI dn)])), (qw, .inl (cyI, 512, .inl w)), (qu, .inl (cyJ, 1, .inr (.inl ou)))]) (va_A [(q4, .inr (3, [.ref qd, .ref qc, .ref qt, .ref ql, .ref qn, .ref qe, .ref qr, .ref qz, .int fp])), (qd, .inr (1, [.ref qw, .int (bI on), .int lf, .int (nI dn)])), (qw, .inl (cyI, 512, .inl w)), (qu, .inl (cyJ, 1, .inr (.inl ou)))] sz)) 1 6 (va_A [(q4, .inr (3, [.ref qd, .ref qc, .ref qt, .ref ql, .ref qn, .ref qe, .ref qr, .ref qz, .int fp])), (qd, .inr (1, [.ref qw, .int (bI on), .int lf, .int (nI dn)])), (qw, .inl (cyI, 512, .inl w)), (qu, .inl (cyJ, 1, .inr (.inl ou)))] sz) := by
  refine zz_ofWH (hh := [(0, 9, 12, 13), (0, 9, 15, 19)]) (cc := cL_power) (maxL := 4) (ret := (some .int)) (by decide) rfl ?_
  intro pz ez sS mM args below meth cC s₁ B hml hv
  obtain ⟨rfl, hsz, hP, hK, hD0, hXQ⟩ := hv
  have htb := vx_table (x := yL_power) B (atoms_spec (ws := wsL_power) B.pre (.codeWith yL_power cL_power 4 (some .int) [(0, 9, 12, 13), (0, 9, 15, 19)]) List.mem_cons_self)
  have hx := B.exec
  have hb := B.bytes
  have hr := B.returns
  have hts := atoms_spec (ws := wsL_power) B.pre
  have hown : sS.vm.findClass RL = some mM.cls := findClass_of_methodNamed B.named
  have hlocks := B.notSynchronized
  subst hsz
  have hD := hD0.self (sz := sS.heap.size)
  generalize hAe : va_A [(q4, .inr (3, [.ref qd, .ref qc, .ref qt, .ref ql, .ref qn, .ref qe, .ref qr, .ref qz, .int fp])), (qd, .inr (1, [.ref qw, .int (bI on), .int lf, .int (nI dn)])), (qw, .inl (cyI, 512, .inl w)), (qu, .inl (cyJ, 1, .inr (.inl ou)))] sS.heap.size = A at hD hXQ ⊢
  have hA : ∀ q : Nat, sS.heap.size ≤ q → A q := fun q h => by rw [← hAe]; exact Or.inr h
  have hS : va_S A sS.heap sS.heap [] := va_S.rf
  have hP : va_P (dC, dI) vwCl [(q4, .inr (3, [.ref qd, .ref qc, .ref qt, .ref ql, .ref qn, .ref qe, .ref qr, .ref qz, .int fp])), (qd, .inr (1, [.ref qw, .int (bI on), .int lf, .int (nI dn)])), (qw, .inl (cyI, 512, .inl w)), (qu, .inl (cyJ, 1, .inr (.inl ou)))] sS.heap := hP
  have hl := lv_entry ([.ref q4, .int xx, .ref qu]) (n := 4) (Nat.le_of_ble_eq_true rfl)
  rw [lg_entry_eq]
  generalize (lg_sl ([.ref q4, .int xx, .ref qu]) ++ List.replicate (4 - (lg_sl ([.ref q4, .int xx, .ref qu])).length) Slot.unset).toArray = ls at hl ⊢
  have hl : lv_has ls 4 [(0, .ref q4), (1, .int xx), (2, .ref qu)] := hl
  refine lv_aload_n hx hb dL_power_0 rfl (lv_at hl 2 rfl) ?_
  refine lv_iconst (v := nI 0) hx hb dL_power_1 (by decide) ?_
  refine lv_aload_n hx hb dL_power_2 rfl (lv_at hl 0 rfl) ?_
  refine lv_iload_n hx hb dL_power_3 rfl (lv_at hl 1 rfl) ?_
  have hPc := hP.sub (ws' := [(q4, .inr (3, [.ref qd, .ref qc, .ref qt, .ref ql, .ref qn, .ref qe, .ref qr, .ref qz, .int fp])), (qd, .inr (1, [.ref qw, .int (bI on), .int lf, .int (nI dn)])), (qw, .inl (cyI, 512, .inl w))]) [0, 1, 2] rfl
  have hKc := hK.sub (tys' := [(cyI, .int), (cyZ, .boolean)]) [0, 1] rfl
  have hDc := hD.sub (ws' := [(q4, .inr (3, [.ref qd, .ref qc, .ref qt, .ref ql, .ref qn, .ref qe, .ref qr, .ref qz, .int fp])), (qd, .inr (1, [.ref qw, .int (bI on), .int lf, .int (nI dn)])), (qw, .inl (cyI, 512, .inl w))]) [0, 1, 2] (by decide) rfl
  have hFc := va_free (wc := [(q4, .inr (3, [.ref qd, .ref qc, .ref qt, .ref ql, .ref qn, .ref qe, .ref qr, .ref qz, .int fp])), (qd, .inr (1, [.ref qw, .int (bI on), .int lf, .int (nI dn)])), (qw, .inl (cyI, 512, .inl w))]) hD hS hA [0, 1, 2] rfl
  refine vx_calli (vx_runV (As := [.int xx]) (rest := [.int (nI 0), .ref qu]) ⟨hx, hb, hml, hown, hts⟩ (c_X4_power_bad l dC dI cyI cyZ q4 qd qw qc qt ql qn qe qr qz sS.heap.size hT fp w on lf dn xx (HBAD)) (cwV 1 hts gL_power_X4_power rfl rfl rfl (by decide +kernel) ⟨Nat.le_of_ble_eq_true rfl, Nat.le_of_ble_eq_true rfl⟩) ⟨zz_blX, va_recv hKc hPc (ci := 3) (q0 := 0) rfl rfl, fun U hU hW => ⟨rfl, by rw [hU], by rw [hU]; exact hPc, va_K.moved hW.alike hKc, hDc.weaken (fun _ _ _ _ => trivial), hXQ.at hS hFc hU hW⟩⟩ rfl rfl hl.1 rfl (lv_room (Nat.le_of_ble_eq_true rfl)) dL_power_4 ⟨Nat.le_of_ble_eq_true rfl, Nat.le_of_ble_eq_true rfl⟩) hS (fun q _ h => hFc q h) hFc (fun q _ h => hFc q h) (fun E9 ce q9 uU tS H1 locs ht9 hvm9 hpx hB9 hz1 hk1 hS hce hcv hcl => ?_) (fun r9 uU tS H1 locs ht9 hvm9 hw9 hB9 hz1 hk1 hS => hw9.elim)
  obtain ⟨hE9, hP1, hK1, hD1⟩ := hB9
  subst hE9
  rw [ht9] at hP1
  have hK1 := va_K.moved hvm9.symm hK1
  obtain ⟨hP, hD⟩ := va_join (wr := [(qu, .inl (cyJ, 1, .inr (.inl ou)))]) (w1 := [(q4, .inr (3, [.ref qd, .ref qc, .ref qt, .ref ql, .ref qn, .ref qe, .ref qr, .ref qz, .int fp])), (qd, .inr (1, [.ref qw, .int (bI on), .int lf, .int (nI dn)])), (qw, .inl (cyI, 512, .inl w))]) hP hD [0, 1, 2] [3] rfl rfl (by decide) (by decide) hk1 hFc hP1 hD1
  generalize H1 = H at hP hS hce ⊢
  have hP : va_P (dC, dI) vwCl [(qu, .inl (cyJ, 1, .inr (.inl ou))), (q4, .inr (3, [.ref qd, .ref qc, .ref qt, .ref ql, .ref qn, .ref qe, .ref qr, .ref qz, .int fp])), (qd, .inr (1, [.ref qw, .int (bI on), .int lf, .int (nI dn)])), (qw, .inl (cyI, 512, .inl w))] H := hP
  have hD : va_D A [(qu, .inl (cyJ, 1, .inr (.inl ou))), (q4, .inr (3, [.ref qd, .ref qc, .ref qt, .ref ql, .ref qn, .ref qe, .ref qr, .ref qz, .int fp])), (qd, .inr (1, [.ref qw, .int (bI on), .int lf, .int (nI dn)])), (qw, .inl (cyI, 512, .inl w))] := hD
  refine vx_catch (name := "java/lang/IllegalArgumentException") hown [] ⟨0, 9, 12, 13⟩ [⟨0, 9, 15, 19⟩] (by rw [htb]; rfl) (fun z hz => absurd hz List.not_mem_nil) rfl (by decide) (hts (.classLink RL 13 "java/lang/IllegalArgumentException") (by decide +kernel)) ((hXQ.1 (.castable "java/lang/IllegalArgumentException" "java/lang/IllegalArgumentException") (by decide +kernel)).use rfl) hce hcv hcl ?_
  refine W.eq (g2 := F0 mM 12 ls [.ref q9]) rfl ?_
  refine lv_astore_n (lv' := [(3, .ref q9), (0, .ref q4), (1, .int xx), (2, .ref qu)]) hx hb dL_power_12 rfl hl (by decide) rfl (fun ls hl => ?_)
  refine lv_iconst (v := nI 1) hx hb dL_power_13 (by decide) ?_
  have hP9 := hP.sub (ws' := [(q4, .inr (3, [.ref qd, .ref qc, .ref qt, .ref ql, .ref qn, .ref qe, .ref qr, .ref qz, .int fp])), (qd, .inr (1, [.ref qw, .int (bI on), .int lf, .int (nI dn)])), (qw, .inl (cyI, 512, .inl w)), (qu, .inl (cyJ, 1, .inr (.inl ou)))]) [1, 2, 3, 0] rfl
  have hD9 := hD.sub (ws' := [(q4, .inr (3, [.ref qd, .ref qc, .ref qt, .ref ql, .ref qn, .ref qe, .ref qr, .ref qz, .int fp])), (qd, .inr (1, [.ref qw, .int (bI on), .int lf, .int (nI dn)])), (qw, .inl (cyI, 512, .inl w)), (qu, .inl (cyJ, 1, .inr (.inl ou)))]) [1, 2, 3, 0] (by decide) rfl
  have hK9 := hK.sub (tys' := [(cyI, .int), (cyZ, .boolean), (cyJ, .long)]) [0, 1, 2] rfl
  refine W.widen (k := 1) (n := 6) (by omega) (by omega) ?_
  exact W.iret hx hb hr (fun tS ht hW => ⟨⟨_, (), rfl, rfl, by rw [ht]; exact hP9, va_K.moved hW.alike hK9, hD9⟩, hS.F ht⟩) hS.2.2 dL_power_14
set_option maxHeartbeats 4000000 in
set_option maxRecDepth 100000 in
theorem c_L_power_off (l : Launch) (dC : Nat → ClassId) (dI : Nat → Nat → Nat) (cyI cyZ cyJ : ClassId) (q4 qd qw qu qc qt ql qn qe qr qz : Nat) (sz : Nat) (hT : l.stackTraces = false) (fp : Int32) (w : Nat → Int32) (lf : Int32) (dn : Nat) (xx : Int32) (ou : Nat → Int64) (HOK : ¬ (xx < (-1) ∨ nI 1000 < xx)) : Met l yL_power wsL_power ({ frames := 7, cells := 1, slots := 6, locals := 112 }) (va_Pc [.ref q4, .int xx, .ref qu] (fun U => U.heap.size = sz ∧ va_P (dC, dI) vwCl [(q4, .inr (3, [.ref qd, .ref qc, .ref qt, .ref ql, .ref qn, .ref qe, .ref qr, .ref qz, .int fp])), (qd, .inr (1, [.ref qw, .int (bI false), .int lf, .int (nI dn)])), (qw, .inl (cyI, 512, .inl w)), (qu, .inl (cyJ, 1, .inr (.inl ou)))] U.heap ∧ va_K (dC, dI) vwCl [(cyI, .int), (cyZ, .boolean), (cyJ, .long)] U ∧ va_D (fun _ => True) [(q4, .inr (3, [.ref qd, .ref qc, .ref qt, .ref ql, .ref qn, .ref qe, .ref qr, .ref qz, .int fp])), (qd, .inr (1, [.ref qw, .int (bI false), .int lf, .int (nI dn)])), (qw, .inl (cyI, 512, .inl w)), (qu, .inl (cyJ, 1, .inr (.inl ou)))] ∧ xq (va_A [(q4, .inr (3, [.ref qd, .ref qc, .ref qt, .ref ql, .ref qn, .ref qe, .ref qr, .ref qz, .int fp])), (qd, .inr (1, [.ref qw, .int (bI false), .int lf, .int (nI dn)])), (qw, .inl (cyI, 512, .inl w)), (qu, .inl (cyJ, 1, .inr (.inl ou)))] sz) U)) (va_Qi (S := Unit) (fun (r : Int32) (_ : Unit) => r = nI 2) (fun (_ : Unit) tS => va_P (dC, dI) vwCl [(q4, .inr (3, [.ref qd, .ref qc, .ref qt, .ref ql, .ref qn, .ref qe, .ref qr, .ref qz, .int fp])), (qd, .inr (1, [.ref qw, .int (bI false), .int lf, .int (nI dn)])), (qw, .inl (cyI, 512, .inl w)), (qu, .inl (cyJ, 1, .inr (.inl ou)))] tS.heap ∧ va_K (dC, dI) vwCl [(cyI, .int), (cyZ, .boolean), (cyJ, .long)] tS ∧ va_D (va_A [(q4, .inr (3, [.ref qd, .ref qc, .ref qt, .ref ql, .ref qn, .ref qe, .ref qr, .ref qz, .int fp])), (qd, .inr (1, [.ref qw, .int (bI false), .int lf, .int (nI dn)])), (qw, .inl (cyI, 512, .inl w)), (qu, .inl (cyJ, 1, .inr (.inl ou)))] sz) [(q4, .inr (3, [.ref qd, .ref qc, .ref qt, .ref ql, .ref qn, .ref qe, .ref qr, .ref qz, .int fp])), (qd, .inr (1, [.ref qw, .int (bI false), .int lf, .int (nI dn)])), (qw, .inl (cyI, 512, .inl w)), (qu, .inl (cyJ, 1, .inr (.inl ou)))]) (va_A [(q4, .inr (3, [.ref qd, .ref qc, .ref qt, .ref ql, .ref qn, .ref qe, .ref qr, .ref qz, .int fp])), (qd, .inr (1, [.ref qw, .int (bI false), .int lf, .int (nI dn)])), (qw, .inl (cyI, 512, .inl w)), (qu, .inl (cyJ, 1, .inr (.inl ou)))] sz)) 1 6 (va_A [(q4, .inr (3, [.ref qd, .ref qc, .ref qt, .ref ql, .ref qn, .ref qe, .ref qr, .ref qz, .int fp])), (qd, .inr (1, [.ref qw, .int (bI false), .int lf, .int (nI dn)])), (qw, .inl (cyI, 512, .inl w)), (qu, .inl (cyJ, 1, .inr (.inl ou)))] sz) := by
  refine zz_ofWH (hh := [(0, 9, 12, 13), (0, 9, 15, 19)]) (cc := cL_power) (maxL := 4) (ret := (some .int)) (by decide) rfl ?_
  intro pz ez sS mM args below meth cC s₁ B hml hv
  obtain ⟨rfl, hsz, hP, hK, hD0, hXQ⟩ := hv
  have htb := vx_table (x := yL_power) B (atoms_spec (ws := wsL_power) B.pre (.codeWith yL_power cL_power 4 (some .int) [(0, 9, 12, 13), (0, 9, 15, 19)]) List.mem_cons_self)
  have hx := B.exec
  have hb := B.bytes
  have hr := B.returns
  have hts := atoms_spec (ws := wsL_power) B.pre
  have hown : sS.vm.findClass RL = some mM.cls := findClass_of_methodNamed B.named
  have hlocks := B.notSynchronized
  subst hsz
  have hD := hD0.self (sz := sS.heap.size)
  generalize hAe : va_A [(q4, .inr (3, [.ref qd, .ref qc, .ref qt, .ref ql, .ref qn, .ref qe, .ref qr, .ref qz, .int fp])), (qd, .inr (1, [.ref qw, .int (bI false), .int lf, .int (nI dn)])), (qw, .inl (cyI, 512, .inl w)), (qu, .inl (cyJ, 1, .inr (.inl ou)))] sS.heap.size = A at hD hXQ ⊢
  have hA : ∀ q : Nat, sS.heap.size ≤ q → A q := fun q h => by rw [← hAe]; exact Or.inr h
  have hS : va_S A sS.heap sS.heap [] := va_S.rf
  have hP : va_P (dC, dI) vwCl [(q4, .inr (3, [.ref qd, .ref qc, .ref qt, .ref ql, .ref qn, .ref qe, .ref qr, .ref qz, .int fp])), (qd, .inr (1, [.ref qw, .int (bI false), .int lf, .int (nI dn)])), (qw, .inl (cyI, 512, .inl w)), (qu, .inl (cyJ, 1, .inr (.inl ou)))] sS.heap := hP
  have hl := lv_entry ([.ref q4, .int xx, .ref qu]) (n := 4) (Nat.le_of_ble_eq_true rfl)
  rw [lg_entry_eq]
  generalize (lg_sl ([.ref q4, .int xx, .ref qu]) ++ List.replicate (4 - (lg_sl ([.ref q4, .int xx, .ref qu])).length) Slot.unset).toArray = ls at hl ⊢
  have hl : lv_has ls 4 [(0, .ref q4), (1, .int xx), (2, .ref qu)] := hl
  refine lv_aload_n hx hb dL_power_0 rfl (lv_at hl 2 rfl) ?_
  refine lv_iconst (v := nI 0) hx hb dL_power_1 (by decide) ?_
  refine lv_aload_n hx hb dL_power_2 rfl (lv_at hl 0 rfl) ?_
  refine lv_iload_n hx hb dL_power_3 rfl (lv_at hl 1 rfl) ?_
  have hPc := hP.sub (ws' := [(q4, .inr (3, [.ref qd, .ref qc, .ref qt, .ref ql, .ref qn, .ref qe, .ref qr, .ref qz, .int fp])), (qd, .inr (1, [.ref qw, .int (bI false), .int lf, .int (nI dn)])), (qw, .inl (cyI, 512, .inl w))]) [0, 1, 2] rfl
  have hKc := hK.sub (tys' := [(cyI, .int), (cyZ, .boolean)]) [0, 1] rfl
  have hDc := hD.sub (ws' := [(q4, .inr (3, [.ref qd, .ref qc, .ref qt, .ref ql, .ref qn, .ref qe, .ref qr, .ref qz, .int fp])), (qd, .inr (1, [.ref qw, .int (bI false), .int lf, .int (nI dn)])), (qw, .inl (cyI, 512, .inl w))]) [0, 1, 2] (by decide) rfl
  have hFc := va_free (wc := [(q4, .inr (3, [.ref qd, .ref qc, .ref qt, .ref ql, .ref qn, .ref qe, .ref qr, .ref qz, .int fp])), (qd, .inr (1, [.ref qw, .int (bI false), .int lf, .int (nI dn)])), (qw, .inl (cyI, 512, .inl w))]) hD hS hA [0, 1, 2] rfl
  refine vx_calli (vx_runV (As := [.int xx]) (rest := [.int (nI 0), .ref qu]) ⟨hx, hb, hml, hown, hts⟩ (c_X4_power_off l dC dI cyI cyZ q4 qd qw qc qt ql qn qe qr qz sS.heap.size hT fp w lf dn xx (HOK)) (cwV 1 hts gL_power_X4_power rfl rfl rfl (by decide +kernel) ⟨Nat.le_of_ble_eq_true rfl, Nat.le_of_ble_eq_true rfl⟩) ⟨zz_blX, va_recv hKc hPc (ci := 3) (q0 := 0) rfl rfl, fun U hU hW => ⟨rfl, by rw [hU], by rw [hU]; exact hPc, va_K.moved hW.alike hKc, hDc.weaken (fun _ _ _ _ => trivial), hXQ.at hS hFc hU hW⟩⟩ rfl rfl hl.1 rfl (lv_room (Nat.le_of_ble_eq_true rfl)) dL_power_4 ⟨Nat.le_of_ble_eq_true rfl, Nat.le_of_ble_eq_true rfl⟩) hS (fun q _ h => hFc q h) hFc (fun q _ h => hFc q h) (fun E9 ce q9 uU tS H1 locs ht9 hvm9 hpx hB9 hz1 hk1 hS hce hcv hcl => ?_) (fun r9 uU tS H1 locs ht9 hvm9 hw9 hB9 hz1 hk1 hS => hw9.elim)
  obtain ⟨hE9, hP1, hK1, hD1⟩ := hB9
  subst hE9
  rw [ht9] at hP1
  have hK1 := va_K.moved hvm9.symm hK1
  obtain ⟨hP, hD⟩ := va_join (wr := [(qu, .inl (cyJ, 1, .inr (.inl ou)))]) (w1 := [(q4, .inr (3, [.ref qd, .ref qc, .ref qt, .ref ql, .ref qn, .ref qe, .ref qr, .ref qz, .int fp])), (qd, .inr (1, [.ref qw, .int (bI false), .int lf, .int (nI dn)])), (qw, .inl (cyI, 512, .inl w))]) hP hD [0, 1, 2] [3] rfl rfl (by decide) (by decide) hk1 hFc hP1 hD1
  generalize H1 = H at hP hS hce ⊢
  have hP : va_P (dC, dI) vwCl [(qu, .inl (cyJ, 1, .inr (.inl ou))), (q4, .inr (3, [.ref qd, .ref qc, .ref qt, .ref ql, .ref qn, .ref qe, .ref qr, .ref qz, .int fp])), (qd, .inr (1, [.ref qw, .int (bI false), .int lf, .int (nI dn)])), (qw, .inl (cyI, 512, .inl w))] H := hP
  have hD : va_D A [(qu, .inl (cyJ, 1, .inr (.inl ou))), (q4, .inr (3, [.ref qd, .ref qc, .ref qt, .ref ql, .ref qn, .ref qe, .ref qr, .ref qz, .int fp])), (qd, .inr (1, [.ref qw, .int (bI false), .int lf, .int (nI dn)])), (qw, .inl (cyI, 512, .inl w))] := hD
  refine vx_catch (name := "java/lang/IllegalStateException") hown [⟨0, 9, 12, 13⟩] ⟨0, 9, 15, 19⟩ [] (by rw [htb]; rfl) (fun z hz => by rw [List.mem_singleton.mp hz]; exact Or.inr ⟨by decide, "java/lang/IllegalArgumentException", hts (.classLink RL 13 "java/lang/IllegalArgumentException") (by decide +kernel), hXQ.2.2.2⟩) rfl (by decide) (hts (.classLink RL 19 "java/lang/IllegalStateException") (by decide +kernel)) ((hXQ.1 (.castable "java/lang/IllegalStateException" "java/lang/IllegalStateException") (by decide +kernel)).use rfl) hce hcv hcl ?_
  refine W.eq (g2 := F0 mM 15 ls [.ref q9]) rfl ?_
  refine lv_astore_n (lv' := [(3, .ref q9), (0, .ref q4), (1, .int xx), (2, .ref qu)]) hx hb dL_power_15 rfl hl (by decide) rfl (fun ls hl => ?_)
  refine lv_iconst (v := nI 2) hx hb dL_power_16 (by decide) ?_
  have hP9 := hP.sub (ws' := [(q4, .inr (3, [.ref qd, .ref qc, .ref qt, .ref ql, .ref qn, .ref qe, .ref qr, .ref qz, .int fp])), (qd, .inr (1, [.ref qw, .int (bI false), .int lf, .int (nI dn)])), (qw, .inl (cyI, 512, .inl w)), (qu, .inl (cyJ, 1, .inr (.inl ou)))]) [1, 2, 3, 0] rfl
  have hD9 := hD.sub (ws' := [(q4, .inr (3, [.ref qd, .ref qc, .ref qt, .ref ql, .ref qn, .ref qe, .ref qr, .ref qz, .int fp])), (qd, .inr (1, [.ref qw, .int (bI false), .int lf, .int (nI dn)])), (qw, .inl (cyI, 512, .inl w)), (qu, .inl (cyJ, 1, .inr (.inl ou)))]) [1, 2, 3, 0] (by decide) rfl
  have hK9 := hK.sub (tys' := [(cyI, .int), (cyZ, .boolean), (cyJ, .long)]) [0, 1, 2] rfl
  refine W.widen (k := 1) (n := 6) (by omega) (by omega) ?_
  exact W.iret hx hb hr (fun tS ht hW => ⟨⟨_, (), rfl, rfl, by rw [ht]; exact hP9, va_K.moved hW.alike hK9, hD9⟩, hS.F ht⟩) hS.2.2 dL_power_17
set_option maxHeartbeats 4000000 in
set_option maxRecDepth 100000 in
theorem c_L_power_ok (l : Launch) (dC : Nat → ClassId) (dI : Nat → Nat → Nat) (cyI cyZ cyJ : ClassId) (q4 qd qw qu qc qt ql qn qe qr qz : Nat) (sz : Nat) (fp : Int32) (w : Nat → Int32) (lf : Int32) (dn : Nat) (xx : Int32) (ou : Nat → Int64) (HOK : ¬ (xx < (-1) ∨ nI 1000 < xx)) : Met l yL_power wsL_power ({ frames := 7, cells := 0, slots := 0, locals := 112 }) (va_Pc [.ref q4, .int xx, .ref qu] (fun U => U.heap.size = sz ∧ va_P (dC, dI) vwCl [(q4, .inr (3, [.ref qd, .ref qc, .ref qt, .ref ql, .ref qn, .ref qe, .ref qr, .ref qz, .int fp])), (qd, .inr (1, [.ref qw, .int (bI true), .int lf, .int (nI dn)])), (qw, .inl (cyI, 512, .inl w)), (qu, .inl (cyJ, 1, .inr (.inl ou)))] U.heap ∧ va_K (dC, dI) vwCl [(cyI, .int), (cyZ, .boolean), (cyJ, .long)] U ∧ va_D (fun _ => True) [(q4, .inr (3, [.ref qd, .ref qc, .ref qt, .ref ql, .ref qn, .ref qe, .ref qr, .ref qz, .int fp])), (qd, .inr (1, [.ref qw, .int (bI true), .int lf, .int (nI dn)])), (qw, .inl (cyI, 512, .inl w)), (qu, .inl (cyJ, 1, .inr (.inl ou)))])) (va_Qi (S := Unit) (fun (r : Int32) (_ : Unit) => r = nI 0) (fun (_ : Unit) tS => va_P (dC, dI) vwCl [(q4, .inr (3, [.ref qd, .ref qc, .ref qt, .ref ql, .ref qn, .ref qe, .ref qr, .ref qz, .int fp])), (qd, .inr (1, [.ref qw, .int (bI true), .int xx, .int (nI dn)])), (qw, .inl (cyI, 512, .inl w)), (qu, .inl (cyJ, 1, .inr (.inl (vp_updL ou 0 ((lf).toInt64)))))] tS.heap ∧ va_K (dC, dI) vwCl [(cyI, .int), (cyZ, .boolean), (cyJ, .long)] tS ∧ va_D (va_A [(q4, .inr (3, [.ref qd, .ref qc, .ref qt, .ref ql, .ref qn, .ref qe, .ref qr, .ref qz, .int fp])), (qd, .inr (1, [.ref qw, .int (bI true), .int lf, .int (nI dn)])), (qw, .inl (cyI, 512, .inl w)), (qu, .inl (cyJ, 1, .inr (.inl ou)))] sz) [(q4, .inr (3, [.ref qd, .ref qc, .ref qt, .ref ql, .ref qn, .ref qe, .ref qr, .ref qz, .int fp])), (qd, .inr (1, [.ref qw, .int (bI true), .int xx, .int (nI dn)])), (qw, .inl (cyI, 512, .inl w)), (qu, .inl (cyJ, 1, .inr (.inl (vp_updL ou 0 ((lf).toInt64)))))]) (va_A [(q4, .inr (3, [.ref qd, .ref qc, .ref qt, .ref ql, .ref qn, .ref qe, .ref qr, .ref qz, .int fp])), (qd, .inr (1, [.ref qw, .int (bI true), .int lf, .int (nI dn)])), (qw, .inl (cyI, 512, .inl w)), (qu, .inl (cyJ, 1, .inr (.inl ou)))] sz)) 0 0 (va_A [(q4, .inr (3, [.ref qd, .ref qc, .ref qt, .ref ql, .ref qn, .ref qe, .ref qr, .ref qz, .int fp])), (qd, .inr (1, [.ref qw, .int (bI true), .int lf, .int (nI dn)])), (qw, .inl (cyI, 512, .inl w)), (qu, .inl (cyJ, 1, .inr (.inl ou)))] sz) := by
  refine zz_ofWH (hh := [(0, 9, 12, 13), (0, 9, 15, 19)]) (cc := cL_power) (maxL := 4) (ret := (some .int)) (by decide) rfl ?_
  intro pz ez sS mM args below meth cC s₁ B hml hv
  obtain ⟨rfl, hsz, hP, hK, hD0⟩ := hv
  have htb := vx_table (x := yL_power) B (atoms_spec (ws := wsL_power) B.pre (.codeWith yL_power cL_power 4 (some .int) [(0, 9, 12, 13), (0, 9, 15, 19)]) List.mem_cons_self)
  have hx := B.exec
  have hb := B.bytes
  have hr := B.returns
  have hts := atoms_spec (ws := wsL_power) B.pre
  have hown : sS.vm.findClass RL = some mM.cls := findClass_of_methodNamed B.named
  have hlocks := B.notSynchronized
  subst hsz
  have hD := hD0.self (sz := sS.heap.size)
  generalize hAe : va_A [(q4, .inr (3, [.ref qd, .ref qc, .ref qt, .ref ql, .ref qn, .ref qe, .ref qr, .ref qz, .int fp])), (qd, .inr (1, [.ref qw, .int (bI true), .int lf, .int (nI dn)])), (qw, .inl (cyI, 512, .inl w)), (qu, .inl (cyJ, 1, .inr (.inl ou)))] sS.heap.size = A at hD ⊢
  have hA : ∀ q : Nat, sS.heap.size ≤ q → A q := fun q h => by rw [← hAe]; exact Or.inr h
  have hS : va_S A sS.heap sS.heap [] := va_S.rf
  have hP : va_P (dC, dI) vwCl [(q4, .inr (3, [.ref qd, .ref qc, .ref qt, .ref ql, .ref qn, .ref qe, .ref qr, .ref qz, .int fp])), (qd, .inr (1, [.ref qw, .int (bI true), .int lf, .int (nI dn)])), (qw, .inl (cyI, 512, .inl w)), (qu, .inl (cyJ, 1, .inr (.inl ou)))] sS.heap := hP
  have hl := lv_entry ([.ref q4, .int xx, .ref qu]) (n := 4) (Nat.le_of_ble_eq_true rfl)
  rw [lg_entry_eq]
  generalize (lg_sl ([.ref q4, .int xx, .ref qu]) ++ List.replicate (4 - (lg_sl ([.ref q4, .int xx, .ref qu])).length) Slot.unset).toArray = ls at hl ⊢
  have hl : lv_has ls 4 [(0, .ref q4), (1, .int xx), (2, .ref qu)] := hl
  refine lv_aload_n hx hb dL_power_0 rfl (lv_at hl 2 rfl) ?_
  refine lv_iconst (v := nI 0) hx hb dL_power_1 (by decide) ?_
  refine lv_aload_n hx hb dL_power_2 rfl (lv_at hl 0 rfl) ?_
  refine lv_iload_n hx hb dL_power_3 rfl (lv_at hl 1 rfl) ?_
  have hPc := hP.sub (ws' := [(q4, .inr (3, [.ref qd, .ref qc, .ref qt, .ref ql, .ref qn, .ref qe, .ref qr, .ref qz, .int fp])), (qd, .inr (1, [.ref qw, .int (bI true), .int lf, .int (nI dn)])), (qw, .inl (cyI, 512, .inl w))]) [0, 1, 2] rfl
  have hKc := hK.sub (tys' := [(cyI, .int), (cyZ, .boolean)]) [0, 1] rfl
  have hDc := hD.sub (ws' := [(q4, .inr (3, [.ref qd, .ref qc, .ref qt, .ref ql, .ref qn, .ref qe, .ref qr, .ref qz, .int fp])), (qd, .inr (1, [.ref qw, .int (bI true), .int lf, .int (nI dn)])), (qw, .inl (cyI, 512, .inl w))]) [0, 1, 2] (by decide) rfl
  have hFc := va_free (wc := [(q4, .inr (3, [.ref qd, .ref qc, .ref qt, .ref ql, .ref qn, .ref qe, .ref qr, .ref qz, .int fp])), (qd, .inr (1, [.ref qw, .int (bI true), .int lf, .int (nI dn)])), (qw, .inl (cyI, 512, .inl w))]) hD hS hA [0, 1, 2] rfl
  refine va_calli (va_runV (As := [.int xx]) (rest := [.int (nI 0), .ref qu]) ⟨hx, hb, hml, hown, hts⟩ (c_X4_power_ok l dC dI cyI cyZ q4 qd qw qc qt ql qn qe qr qz sS.heap.size fp w lf dn xx (HOK)) (cwV 1 hts gL_power_X4_power rfl rfl rfl (by decide +kernel) ⟨Nat.le_of_ble_eq_true rfl, Nat.le_of_ble_eq_true rfl⟩) ⟨zz_blW, va_recv hKc hPc (ci := 3) (q0 := 0) rfl rfl, fun U hU hW => ⟨rfl, by rw [hU], by rw [hU]; exact hPc, va_K.moved hW.alike hKc, hDc.weaken (fun _ _ _ _ => trivial)⟩⟩ rfl rfl hl.1 rfl (lv_room (Nat.le_of_ble_eq_true rfl)) dL_power_4 ⟨Nat.zero_le _, Nat.zero_le _⟩) hS (fun q _ h => hFc q h) hFc (fun r_4 uU tS H1 locs ht9 hvm9 hw9 hB9 hz1 hk1 hS => ?_)
  obtain ⟨hP1, hK1, hD1⟩ := hB9
  have hw9 : (r_4 = lf) := hw9
  have hr_4 := hw9
  have hr_4 := Eq.symm hr_4
  subst hr_4
  rw [ht9] at hP1
  have hK1 := va_K.moved hvm9.symm hK1
  obtain ⟨hP, hD⟩ := va_join (wr := [(qu, .inl (cyJ, 1, .inr (.inl ou)))]) (w1 := [(q4, .inr (3, [.ref qd, .ref qc, .ref qt, .ref ql, .ref qn, .ref qe, .ref qr, .ref qz, .int fp])), (qd, .inr (1, [.ref qw, .int (bI true), .int xx, .int (nI dn)])), (qw, .inl (cyI, 512, .inl w))]) hP hD [0, 1, 2] [3] rfl rfl (by decide) (by decide) hk1 hFc hP1 hD1
  generalize H1 = H at hP hS ⊢
  have hP : va_P (dC, dI) vwCl [(qu, .inl (cyJ, 1, .inr (.inl ou))), (q4, .inr (3, [.ref qd, .ref qc, .ref qt, .ref ql, .ref qn, .ref qe, .ref qr, .ref qz, .int fp])), (qd, .inr (1, [.ref qw, .int (bI true), .int xx, .int (nI dn)])), (qw, .inl (cyI, 512, .inl w))] H := hP
  have hD : va_D A [(qu, .inl (cyJ, 1, .inr (.inl ou))), (q4, .inr (3, [.ref qd, .ref qc, .ref qt, .ref ql, .ref qn, .ref qe, .ref qr, .ref qz, .int fp])), (qd, .inr (1, [.ref qw, .int (bI true), .int xx, .int (nI dn)])), (qw, .inl (cyI, 512, .inl w))] := hD
  refine lv_i2l (v := (lf).toInt64) hx hb dL_power_7 rfl ?_
  refine va_last hx hb hK hP hD hS 0 2 rfl rfl (vp_in_nI (n := 0) (by omega) (by decide)) dL_power_8 (fun H locs hP hD hS => ?_)
  rw [nI_clamp (n := 0) (by omega)] at hP hD
  have hP : va_P (dC, dI) vwCl [(qu, .inl (cyJ, 1, .inr (.inl (vp_updL ou 0 ((lf).toInt64))))), (q4, .inr (3, [.ref qd, .ref qc, .ref qt, .ref ql, .ref qn, .ref qe, .ref qr, .ref qz, .int fp])), (qd, .inr (1, [.ref qw, .int (bI true), .int xx, .int (nI dn)])), (qw, .inl (cyI, 512, .inl w))] H := hP
  have hD : va_D A [(qu, .inl (cyJ, 1, .inr (.inl (vp_updL ou 0 ((lf).toInt64))))), (q4, .inr (3, [.ref qd, .ref qc, .ref qt, .ref ql, .ref qn, .ref qe, .ref qr, .ref qz, .int fp])), (qd, .inr (1, [.ref qw, .int (bI true), .int xx, .int (nI dn)])), (qw, .inl (cyI, 512, .inl w))] := hD
  refine lv_goto (tgt := 18) hx hb dL_power_9 (by decide) ?_
  refine lv_iconst (v := nI 0) hx hb dL_power_18 (by decide) ?_
  have hP9 := hP.sub (ws' := [(q4, .inr (3, [.ref qd, .ref qc, .ref qt, .ref ql, .ref qn, .ref qe, .ref qr, .ref qz, .int fp])), (qd, .inr (1, [.ref qw, .int (bI true), .int xx, .int (nI dn)])), (qw, .inl (cyI, 512, .inl w)), (qu, .inl (cyJ, 1, .inr (.inl (vp_updL ou 0 ((lf).toInt64)))))]) [1, 2, 3, 0] rfl
  have hD9 := hD.sub (ws' := [(q4, .inr (3, [.ref qd, .ref qc, .ref qt, .ref ql, .ref qn, .ref qe, .ref qr, .ref qz, .int fp])), (qd, .inr (1, [.ref qw, .int (bI true), .int xx, .int (nI dn)])), (qw, .inl (cyI, 512, .inl w)), (qu, .inl (cyJ, 1, .inr (.inl (vp_updL ou 0 ((lf).toInt64)))))]) [1, 2, 3, 0] (by decide) rfl
  have hK9 := hK.sub (tys' := [(cyI, .int), (cyZ, .boolean), (cyJ, .long)]) [0, 1, 2] rfl
  exact W.iret hx hb hr (fun tS ht hW => ⟨⟨_, (), rfl, rfl, by rw [ht]; exact hP9, va_K.moved hW.alike hK9, hD9⟩, hS.F ht⟩) hS.2.2 dL_power_19
set_option maxHeartbeats 4000000 in
set_option maxRecDepth 100000 in
theorem c_L_word_bad (l : Launch) (dC : Nat → ClassId) (dI : Nat → Nat → Nat) (cyI cyZ cyJ : ClassId) (q4 qd qw qu qc qt ql qn qe qr qz : Nat) (sz : Nat) (hT : l.stackTraces = false) (fp : Int32) (w : Nat → Int32) (on : Bool) (lf : Int32) (dn : Nat) (xx yy : Int32) (ou : Nat → Int64) (HBAD : ¬ ∃ b i : Nat, xx = nI b ∧ b < 64 ∧ yy = nI i ∧ i < 8) : Met l yL_word wsL_word ({ frames := 7, cells := 1, slots := 6, locals := 112 }) (va_Pc [.ref q4, .int xx, .int yy, .ref qu] (fun U => U.heap.size = sz ∧ va_P (dC, dI) vwCl [(q4, .inr (3, [.ref qd, .ref qc, .ref qt, .ref ql, .ref qn, .ref qe, .ref qr, .ref qz, .int fp])), (qd, .inr (1, [.ref qw, .int (bI on), .int lf, .int (nI dn)])), (qw, .inl (cyI, 512, .inl w)), (qu, .inl (cyJ, 1, .inr (.inl ou)))] U.heap ∧ va_K (dC, dI) vwCl [(cyI, .int), (cyZ, .boolean), (cyJ, .long)] U ∧ va_D (fun _ => True) [(q4, .inr (3, [.ref qd, .ref qc, .ref qt, .ref ql, .ref qn, .ref qe, .ref qr, .ref qz, .int fp])), (qd, .inr (1, [.ref qw, .int (bI on), .int lf, .int (nI dn)])), (qw, .inl (cyI, 512, .inl w)), (qu, .inl (cyJ, 1, .inr (.inl ou)))] ∧ xq (va_A [(q4, .inr (3, [.ref qd, .ref qc, .ref qt, .ref ql, .ref qn, .ref qe, .ref qr, .ref qz, .int fp])), (qd, .inr (1, [.ref qw, .int (bI on), .int lf, .int (nI dn)])), (qw, .inl (cyI, 512, .inl w)), (qu, .inl (cyJ, 1, .inr (.inl ou)))] sz) U)) (va_Qi (S := Unit) (fun (r : Int32) (_ : Unit) => r = nI 1) (fun (_ : Unit) tS => va_P (dC, dI) vwCl [(q4, .inr (3, [.ref qd, .ref qc, .ref qt, .ref ql, .ref qn, .ref qe, .ref qr, .ref qz, .int fp])), (qd, .inr (1, [.ref qw, .int (bI on), .int lf, .int (nI dn)])), (qw, .inl (cyI, 512, .inl w)), (qu, .inl (cyJ, 1, .inr (.inl ou)))] tS.heap ∧ va_K (dC, dI) vwCl [(cyI, .int), (cyZ, .boolean), (cyJ, .long)] tS ∧ va_D (va_A [(q4, .inr (3, [.ref qd, .ref qc, .ref qt, .ref ql, .ref qn, .ref qe, .ref qr, .ref qz, .int fp])), (qd, .inr (1, [.ref qw, .int (bI on), .int lf, .int (nI dn)])), (qw, .inl (cyI, 512, .inl w)), (qu, .inl (cyJ, 1, .inr (.inl ou)))] sz) [(q4, .inr (3, [.ref qd, .ref qc, .ref qt, .ref ql, .ref qn, .ref qe, .ref qr, .ref qz, .int fp])), (qd, .inr (1, [.ref qw, .int (bI on), .int lf, .int (nI dn)])), (qw, .inl (cyI, 512, .inl w)), (qu, .inl (cyJ, 1, .inr (.inl ou)))]) (va_A [(q4, .inr (3, [.ref qd, .ref qc, .ref qt, .ref ql, .ref qn, .ref qe, .ref qr, .ref qz, .int fp])), (qd, .inr (1, [.ref qw, .int (bI on), .int lf, .int (nI dn)])), (qw, .inl (cyI, 512, .inl w)), (qu, .inl (cyJ, 1, .inr (.inl ou)))] sz)) 1 6 (va_A [(q4, .inr (3, [.ref qd, .ref qc, .ref qt, .ref ql, .ref qn, .ref qe, .ref qr, .ref qz, .int fp])), (qd, .inr (1, [.ref qw, .int (bI on), .int lf, .int (nI dn)])), (qw, .inl (cyI, 512, .inl w)), (qu, .inl (cyJ, 1, .inr (.inl ou)))] sz) := by
  refine zz_ofWH (hh := [(0, 10, 13, 25)]) (cc := cL_word) (maxL := 5) (ret := (some .int)) (by decide) rfl ?_
  intro pz ez sS mM args below meth cC s₁ B hml hv
  obtain ⟨rfl, hsz, hP, hK, hD0, hXQ⟩ := hv
  have htb := vx_table (x := yL_word) B (atoms_spec (ws := wsL_word) B.pre (.codeWith yL_word cL_word 5 (some .int) [(0, 10, 13, 25)]) List.mem_cons_self)
  have hx := B.exec
  have hb := B.bytes
  have hr := B.returns
  have hts := atoms_spec (ws := wsL_word) B.pre
  have hown : sS.vm.findClass RL = some mM.cls := findClass_of_methodNamed B.named
  have hlocks := B.notSynchronized
  subst hsz
  have hD := hD0.self (sz := sS.heap.size)
  generalize hAe : va_A [(q4, .inr (3, [.ref qd, .ref qc, .ref qt, .ref ql, .ref qn, .ref qe, .ref qr, .ref qz, .int fp])), (qd, .inr (1, [.ref qw, .int (bI on), .int lf, .int (nI dn)])), (qw, .inl (cyI, 512, .inl w)), (qu, .inl (cyJ, 1, .inr (.inl ou)))] sS.heap.size = A at hD hXQ ⊢
  have hA : ∀ q : Nat, sS.heap.size ≤ q → A q := fun q h => by rw [← hAe]; exact Or.inr h
  have hS : va_S A sS.heap sS.heap [] := va_S.rf
  have hP : va_P (dC, dI) vwCl [(q4, .inr (3, [.ref qd, .ref qc, .ref qt, .ref ql, .ref qn, .ref qe, .ref qr, .ref qz, .int fp])), (qd, .inr (1, [.ref qw, .int (bI on), .int lf, .int (nI dn)])), (qw, .inl (cyI, 512, .inl w)), (qu, .inl (cyJ, 1, .inr (.inl ou)))] sS.heap := hP
  have hl := lv_entry ([.ref q4, .int xx, .int yy, .ref qu]) (n := 5) (Nat.le_of_ble_eq_true rfl)
  rw [lg_entry_eq]
  generalize (lg_sl ([.ref q4, .int xx, .int yy, .ref qu]) ++ List.replicate (5 - (lg_sl ([.ref q4, .int xx, .int yy, .ref qu])).length) Slot.unset).toArray = ls at hl ⊢
  have hl : lv_has ls 5 [(0, .ref q4), (1, .int xx), (2, .int yy), (3, .ref qu)] := hl
  refine lv_aload_n hx hb dL_word_0 rfl (lv_at hl 3 rfl) ?_
  refine lv_iconst (v := nI 0) hx hb dL_word_1 (by decide) ?_
  refine lv_aload_n hx hb dL_word_2 rfl (lv_at hl 0 rfl) ?_
  refine lv_iload_n hx hb dL_word_3 rfl (lv_at hl 1 rfl) ?_
  refine lv_iload_n hx hb dL_word_4 rfl (lv_at hl 2 rfl) ?_
  have hPc := hP.sub (ws' := [(q4, .inr (3, [.ref qd, .ref qc, .ref qt, .ref ql, .ref qn, .ref qe, .ref qr, .ref qz, .int fp])), (qd, .inr (1, [.ref qw, .int (bI on), .int lf, .int (nI dn)])), (qw, .inl (cyI, 512, .inl w))]) [0, 1, 2] rfl
  have hKc := hK.sub (tys' := [(cyI, .int), (cyZ, .boolean)]) [0, 1] rfl
  have hDc := hD.sub (ws' := [(q4, .inr (3, [.ref qd, .ref qc, .ref qt, .ref ql, .ref qn, .ref qe, .ref qr, .ref qz, .int fp])), (qd, .inr (1, [.ref qw, .int (bI on), .int lf, .int (nI dn)])), (qw, .inl (cyI, 512, .inl w))]) [0, 1, 2] (by decide) rfl
  have hFc := va_free (wc := [(q4, .inr (3, [.ref qd, .ref qc, .ref qt, .ref ql, .ref qn, .ref qe, .ref qr, .ref qz, .int fp])), (qd, .inr (1, [.ref qw, .int (bI on), .int lf, .int (nI dn)])), (qw, .inl (cyI, 512, .inl w))]) hD hS hA [0, 1, 2] rfl
  refine vx_calli (vx_runV (As := [.int xx, .int yy]) (rest := [.int (nI 0), .ref qu]) ⟨hx, hb, hml, hown, hts⟩ (c_X4_word_bad l dC dI cyI cyZ q4 qd qw qc qt ql qn qe qr qz sS.heap.size hT fp w on lf dn xx yy (HBAD)) (cwV 2 hts gL_word_X4_word rfl rfl rfl (by decide +kernel) ⟨Nat.le_of_ble_eq_true rfl, Nat.le_of_ble_eq_true rfl⟩) ⟨zz_blX, va_recv hKc hPc (ci := 3) (q0 := 0) rfl rfl, fun U hU hW => ⟨rfl, by rw [hU], by rw [hU]; exact hPc, va_K.moved hW.alike hKc, hDc.weaken (fun _ _ _ _ => trivial), hXQ.at hS hFc hU hW⟩⟩ rfl rfl hl.1 rfl (lv_room (Nat.le_of_ble_eq_true rfl)) dL_word_5 ⟨Nat.le_of_ble_eq_true rfl, Nat.le_of_ble_eq_true rfl⟩) hS (fun q _ h => hFc q h) hFc (fun q _ h => hFc q h) (fun E9 ce q9 uU tS H1 locs ht9 hvm9 hpx hB9 hz1 hk1 hS hce hcv hcl => ?_) (fun r9 uU tS H1 locs ht9 hvm9 hw9 hB9 hz1 hk1 hS => hw9.elim)
  obtain ⟨hE9, hP1, hK1, hD1⟩ := hB9
  subst hE9
  rw [ht9] at hP1
  have hK1 := va_K.moved hvm9.symm hK1
  obtain ⟨hP, hD⟩ := va_join (wr := [(qu, .inl (cyJ, 1, .inr (.inl ou)))]) (w1 := [(q4, .inr (3, [.ref qd, .ref qc, .ref qt, .ref ql, .ref qn, .ref qe, .ref qr, .ref qz, .int fp])), (qd, .inr (1, [.ref qw, .int (bI on), .int lf, .int (nI dn)])), (qw, .inl (cyI, 512, .inl w))]) hP hD [0, 1, 2] [3] rfl rfl (by decide) (by decide) hk1 hFc hP1 hD1
  generalize H1 = H at hP hS hce ⊢
  have hP : va_P (dC, dI) vwCl [(qu, .inl (cyJ, 1, .inr (.inl ou))), (q4, .inr (3, [.ref qd, .ref qc, .ref qt, .ref ql, .ref qn, .ref qe, .ref qr, .ref qz, .int fp])), (qd, .inr (1, [.ref qw, .int (bI on), .int lf, .int (nI dn)])), (qw, .inl (cyI, 512, .inl w))] H := hP
  have hD : va_D A [(qu, .inl (cyJ, 1, .inr (.inl ou))), (q4, .inr (3, [.ref qd, .ref qc, .ref qt, .ref ql, .ref qn, .ref qe, .ref qr, .ref qz, .int fp])), (qd, .inr (1, [.ref qw, .int (bI on), .int lf, .int (nI dn)])), (qw, .inl (cyI, 512, .inl w))] := hD
  refine vx_catch (name := "java/lang/IndexOutOfBoundsException") hown [] ⟨0, 10, 13, 25⟩ [] (by rw [htb]; rfl) (fun z hz => absurd hz List.not_mem_nil) rfl (by decide) (hts (.classLink RL 25 "java/lang/IndexOutOfBoundsException") (by decide +kernel)) ((hXQ.1 (.castable "java/lang/IndexOutOfBoundsException" "java/lang/IndexOutOfBoundsException") (by decide +kernel)).use rfl) hce hcv hcl ?_
  refine W.eq (g2 := F0 mM 13 ls [.ref q9]) rfl ?_
  refine lv_astore (lv' := [(4, .ref q9), (0, .ref q4), (1, .int xx), (2, .int yy), (3, .ref qu)]) hx hb dL_word_13 hl (by decide) rfl (fun ls hl => ?_)
  refine lv_iconst (v := nI 1) hx hb dL_word_15 (by decide) ?_
  have hP9 := hP.sub (ws' := [(q4, .inr (3, [.ref qd, .ref qc, .ref qt, .ref ql, .ref qn, .ref qe, .ref qr, .ref qz, .int fp])), (qd, .inr (1, [.ref qw, .int (bI on), .int lf, .int (nI dn)])), (qw, .inl (cyI, 512, .inl w)), (qu, .inl (cyJ, 1, .inr (.inl ou)))]) [1, 2, 3, 0] rfl
  have hD9 := hD.sub (ws' := [(q4, .inr (3, [.ref qd, .ref qc, .ref qt, .ref ql, .ref qn, .ref qe, .ref qr, .ref qz, .int fp])), (qd, .inr (1, [.ref qw, .int (bI on), .int lf, .int (nI dn)])), (qw, .inl (cyI, 512, .inl w)), (qu, .inl (cyJ, 1, .inr (.inl ou)))]) [1, 2, 3, 0] (by decide) rfl
  have hK9 := hK.sub (tys' := [(cyI, .int), (cyZ, .boolean), (cyJ, .long)]) [0, 1, 2] rfl
  refine W.widen (k := 1) (n := 6) (by omega) (by omega) ?_
  exact W.iret hx hb hr (fun tS ht hW => ⟨⟨_, (), rfl, rfl, by rw [ht]; exact hP9, va_K.moved hW.alike hK9, hD9⟩, hS.F ht⟩) hS.2.2 dL_word_16
set_option maxHeartbeats 4000000 in
set_option maxRecDepth 100000 in
theorem c_L_word_ok (l : Launch) (dC : Nat → ClassId) (dI : Nat → Nat → Nat) (cyI cyZ cyJ : ClassId) (q4 qd qw qu qc qt ql qn qe qr qz : Nat) (sz : Nat) (fp : Int32) (w : Nat → Int32) (on : Bool) (lf : Int32) (dn : Nat) (b i : Nat) (ou : Nat → Int64) (hb9 : b < 64) (hi : i < 8) : Met l yL_word wsL_word ({ frames := 7, cells := 0, slots := 0, locals := 112 }) (va_Pc [.ref q4, .int (nI b), .int (nI i), .ref qu] (fun U => U.heap.size = sz ∧ va_P (dC, dI) vwCl [(q4, .inr (3, [.ref qd, .ref qc, .ref qt, .ref ql, .ref qn, .ref qe, .ref qr, .ref qz, .int fp])), (qd, .inr (1, [.ref qw, .int (bI on), .int lf, .int (nI dn)])), (qw, .inl (cyI, 512, .inl w)), (qu, .inl (cyJ, 1, .inr (.inl ou)))] U.heap ∧ va_K (dC, dI) vwCl [(cyI, .int), (cyZ, .boolean), (cyJ, .long)] U ∧ va_D (fun _ => True) [(q4, .inr (3, [.ref qd, .ref qc, .ref qt, .ref ql, .ref qn, .ref qe, .ref qr, .ref qz, .int fp])), (qd, .inr (1, [.ref qw, .int (bI on), .int lf, .int (nI dn)])), (qw, .inl (cyI, 512, .inl w)), (qu, .inl (cyJ, 1, .inr (.inl ou)))])) (va_Qi (S := Unit) (fun (r : Int32) (_ : Unit) => r = nI 0) (fun (_ : Unit) tS => va_P (dC, dI) vwCl [(q4, .inr (3, [.ref qd, .ref qc, .ref qt, .ref ql, .ref qn, .ref qe, .ref qr, .ref qz, .int fp])), (qd, .inr (1, [.ref qw, .int (bI on), .int lf, .int (nI dn)])), (qw, .inl (cyI, 512, .inl w)), (qu, .inl (cyJ, 1, .inr (.inl (vp_updL ou 0 ((w (8 * b + i)).toInt64)))))] tS.heap ∧ va_K (dC, dI) vwCl [(cyI, .int), (cyZ, .boolean), (cyJ, .long)] tS ∧ va_D (va_A [(q4, .inr (3, [.ref qd, .ref qc, .ref qt, .ref ql, .ref qn, .ref qe, .ref qr, .ref qz, .int fp])), (qd, .inr (1, [.ref qw, .int (bI on), .int lf, .int (nI dn)])), (qw, .inl (cyI, 512, .inl w)), (qu, .inl (cyJ, 1, .inr (.inl ou)))] sz) [(q4, .inr (3, [.ref qd, .ref qc, .ref qt, .ref ql, .ref qn, .ref qe, .ref qr, .ref qz, .int fp])), (qd, .inr (1, [.ref qw, .int (bI on), .int lf, .int (nI dn)])), (qw, .inl (cyI, 512, .inl w)), (qu, .inl (cyJ, 1, .inr (.inl (vp_updL ou 0 ((w (8 * b + i)).toInt64)))))]) (va_A [(q4, .inr (3, [.ref qd, .ref qc, .ref qt, .ref ql, .ref qn, .ref qe, .ref qr, .ref qz, .int fp])), (qd, .inr (1, [.ref qw, .int (bI on), .int lf, .int (nI dn)])), (qw, .inl (cyI, 512, .inl w)), (qu, .inl (cyJ, 1, .inr (.inl ou)))] sz)) 0 0 (va_A [(q4, .inr (3, [.ref qd, .ref qc, .ref qt, .ref ql, .ref qn, .ref qe, .ref qr, .ref qz, .int fp])), (qd, .inr (1, [.ref qw, .int (bI on), .int lf, .int (nI dn)])), (qw, .inl (cyI, 512, .inl w)), (qu, .inl (cyJ, 1, .inr (.inl ou)))] sz) := by
  refine zz_ofWH (hh := [(0, 10, 13, 25)]) (cc := cL_word) (maxL := 5) (ret := (some .int)) (by decide) rfl ?_
  intro pz ez sS mM args below meth cC s₁ B hml hv
  obtain ⟨rfl, hsz, hP, hK, hD0⟩ := hv
  have htb := vx_table (x := yL_word) B (atoms_spec (ws := wsL_word) B.pre (.codeWith yL_word cL_word 5 (some .int) [(0, 10, 13, 25)]) List.mem_cons_self)
  have hx := B.exec
  have hb := B.bytes
  have hr := B.returns
  have hts := atoms_spec (ws := wsL_word) B.pre
  have hown : sS.vm.findClass RL = some mM.cls := findClass_of_methodNamed B.named
  have hlocks := B.notSynchronized
  subst hsz
  have hD := hD0.self (sz := sS.heap.size)
  generalize hAe : va_A [(q4, .inr (3, [.ref qd, .ref qc, .ref qt, .ref ql, .ref qn, .ref qe, .ref qr, .ref qz, .int fp])), (qd, .inr (1, [.ref qw, .int (bI on), .int lf, .int (nI dn)])), (qw, .inl (cyI, 512, .inl w)), (qu, .inl (cyJ, 1, .inr (.inl ou)))] sS.heap.size = A at hD ⊢
  have hA : ∀ q : Nat, sS.heap.size ≤ q → A q := fun q h => by rw [← hAe]; exact Or.inr h
  have hS : va_S A sS.heap sS.heap [] := va_S.rf
  have hP : va_P (dC, dI) vwCl [(q4, .inr (3, [.ref qd, .ref qc, .ref qt, .ref ql, .ref qn, .ref qe, .ref qr, .ref qz, .int fp])), (qd, .inr (1, [.ref qw, .int (bI on), .int lf, .int (nI dn)])), (qw, .inl (cyI, 512, .inl w)), (qu, .inl (cyJ, 1, .inr (.inl ou)))] sS.heap := hP
  have hl := lv_entry ([.ref q4, .int (nI b), .int (nI i), .ref qu]) (n := 5) (Nat.le_of_ble_eq_true rfl)
  rw [lg_entry_eq]
  generalize (lg_sl ([.ref q4, .int (nI b), .int (nI i), .ref qu]) ++ List.replicate (5 - (lg_sl ([.ref q4, .int (nI b), .int (nI i), .ref qu])).length) Slot.unset).toArray = ls at hl ⊢
  have hl : lv_has ls 5 [(0, .ref q4), (1, .int (nI b)), (2, .int (nI i)), (3, .ref qu)] := hl
  refine lv_aload_n hx hb dL_word_0 rfl (lv_at hl 3 rfl) ?_
  refine lv_iconst (v := nI 0) hx hb dL_word_1 (by decide) ?_
  refine lv_aload_n hx hb dL_word_2 rfl (lv_at hl 0 rfl) ?_
  refine lv_iload_n hx hb dL_word_3 rfl (lv_at hl 1 rfl) ?_
  refine lv_iload_n hx hb dL_word_4 rfl (lv_at hl 2 rfl) ?_
  have hPc := hP.sub (ws' := [(q4, .inr (3, [.ref qd, .ref qc, .ref qt, .ref ql, .ref qn, .ref qe, .ref qr, .ref qz, .int fp])), (qd, .inr (1, [.ref qw, .int (bI on), .int lf, .int (nI dn)])), (qw, .inl (cyI, 512, .inl w))]) [0, 1, 2] rfl
  have hKc := hK.sub (tys' := [(cyI, .int), (cyZ, .boolean)]) [0, 1] rfl
  have hDc := hD.sub (ws' := [(q4, .inr (3, [.ref qd, .ref qc, .ref qt, .ref ql, .ref qn, .ref qe, .ref qr, .ref qz, .int fp])), (qd, .inr (1, [.ref qw, .int (bI on), .int lf, .int (nI dn)])), (qw, .inl (cyI, 512, .inl w))]) [0, 1, 2] (by decide) rfl
  have hFc := va_free (wc := [(q4, .inr (3, [.ref qd, .ref qc, .ref qt, .ref ql, .ref qn, .ref qe, .ref qr, .ref qz, .int fp])), (qd, .inr (1, [.ref qw, .int (bI on), .int lf, .int (nI dn)])), (qw, .inl (cyI, 512, .inl w))]) hD hS hA [0, 1, 2] rfl
  refine va_calli (va_runV (As := [.int (nI b), .int (nI i)]) (rest := [.int (nI 0), .ref qu]) ⟨hx, hb, hml, hown, hts⟩ (c_X4_word_ok l dC dI cyI cyZ q4 qd qw qc qt ql qn qe qr qz sS.heap.size fp w on lf dn b i (by omega) (by omega)) (cwV 2 hts gL_word_X4_word rfl rfl rfl (by decide +kernel) ⟨Nat.le_of_ble_eq_true rfl, Nat.le_of_ble_eq_true rfl⟩) ⟨zz_blW, va_recv hKc hPc (ci := 3) (q0 := 0) rfl rfl, fun U hU hW => ⟨rfl, by rw [hU], by rw [hU]; exact hPc, va_K.moved hW.alike hKc, hDc.weaken (fun _ _ _ _ => trivial)⟩⟩ rfl rfl hl.1 rfl (lv_room (Nat.le_of_ble_eq_true rfl)) dL_word_5 ⟨Nat.zero_le _, Nat.zero_le _⟩) hS (fun q _ h => hFc q h) hFc (fun r_5 uU tS H1 locs ht9 hvm9 hw9 hB9 hz1 hk1 hS => ?_)
  obtain ⟨hP1, hK1, hD1⟩ := hB9
  have hw9 : (r_5 = w (8 * b + i)) := hw9
  have hr_5 := hw9
  have hr_5 := Eq.symm hr_5
  subst hr_5
  rw [ht9] at hP1
  have hK1 := va_K.moved hvm9.symm hK1
  obtain ⟨hP, hD⟩ := va_join (wr := [(qu, .inl (cyJ, 1, .inr (.inl ou)))]) (w1 := [(q4, .inr (3, [.ref qd, .ref qc, .ref qt, .ref ql, .ref qn, .ref qe, .ref qr, .ref qz, .int fp])), (qd, .inr (1, [.ref qw, .int (bI on), .int lf, .int (nI dn)])), (qw, .inl (cyI, 512, .inl w))]) hP hD [0, 1, 2] [3] rfl rfl (by decide) (by decide) hk1 hFc hP1 hD1
  generalize H1 = H at hP hS ⊢
  have hP : va_P (dC, dI) vwCl [(qu, .inl (cyJ, 1, .inr (.inl ou))), (q4, .inr (3, [.ref qd, .ref qc, .ref qt, .ref ql, .ref qn, .ref qe, .ref qr, .ref qz, .int fp])), (qd, .inr (1, [.ref qw, .int (bI on), .int lf, .int (nI dn)])), (qw, .inl (cyI, 512, .inl w))] H := hP
  have hD : va_D A [(qu, .inl (cyJ, 1, .inr (.inl ou))), (q4, .inr (3, [.ref qd, .ref qc, .ref qt, .ref ql, .ref qn, .ref qe, .ref qr, .ref qz, .int fp])), (qd, .inr (1, [.ref qw, .int (bI on), .int lf, .int (nI dn)])), (qw, .inl (cyI, 512, .inl w))] := hD
  refine lv_i2l (v := (w (8 * b + i)).toInt64) hx hb dL_word_8 rfl ?_
  refine va_last hx hb hK hP hD hS 0 2 rfl rfl (vp_in_nI (n := 0) (by omega) (by decide)) dL_word_9 (fun H locs hP hD hS => ?_)
  rw [nI_clamp (n := 0) (by omega)] at hP hD
  have hP : va_P (dC, dI) vwCl [(qu, .inl (cyJ, 1, .inr (.inl (vp_updL ou 0 ((w (8 * b + i)).toInt64))))), (q4, .inr (3, [.ref qd, .ref qc, .ref qt, .ref ql, .ref qn, .ref qe, .ref qr, .ref qz, .int fp])), (qd, .inr (1, [.ref qw, .int (bI on), .int lf, .int (nI dn)])), (qw, .inl (cyI, 512, .inl w))] H := hP
  have hD : va_D A [(qu, .inl (cyJ, 1, .inr (.inl (vp_updL ou 0 ((w (8 * b + i)).toInt64))))), (q4, .inr (3, [.ref qd, .ref qc, .ref qt, .ref ql, .ref qn, .ref qe, .ref qr, .ref qz, .int fp])), (qd, .inr (1, [.ref qw, .int (bI on), .int lf, .int (nI dn)])), (qw, .inl (cyI, 512, .inl w))] := hD
  refine lv_goto (tgt := 17) hx hb dL_word_10 (by decide) ?_
  refine lv_iconst (v := nI 0) hx hb dL_word_17 (by decide) ?_
  have hP9 := hP.sub (ws' := [(q4, .inr (3, [.ref qd, .ref qc, .ref qt, .ref ql, .ref qn, .ref qe, .ref qr, .ref qz, .int fp])), (qd, .inr (1, [.ref qw, .int (bI on), .int lf, .int (nI dn)])), (qw, .inl (cyI, 512, .inl w)), (qu, .inl (cyJ, 1, .inr (.inl (vp_updL ou 0 ((w (8 * b + i)).toInt64)))))]) [1, 2, 3, 0] rfl
  have hD9 := hD.sub (ws' := [(q4, .inr (3, [.ref qd, .ref qc, .ref qt, .ref ql, .ref qn, .ref qe, .ref qr, .ref qz, .int fp])), (qd, .inr (1, [.ref qw, .int (bI on), .int lf, .int (nI dn)])), (qw, .inl (cyI, 512, .inl w)), (qu, .inl (cyJ, 1, .inr (.inl (vp_updL ou 0 ((w (8 * b + i)).toInt64)))))]) [1, 2, 3, 0] (by decide) rfl
  have hK9 := hK.sub (tys' := [(cyI, .int), (cyZ, .boolean), (cyJ, .long)]) [0, 1, 2] rfl
  exact W.iret hx hb hr (fun tS ht hW => ⟨⟨_, (), rfl, rfl, by rw [ht]; exact hP9, va_K.moved hW.alike hK9, hD9⟩, hS.F ht⟩) hS.2.2 dL_word_18
set_option maxHeartbeats 4000000 in
set_option maxRecDepth 100000 in
theorem c_L_told_bad (l : Launch) (dC : Nat → ClassId) (dI : Nat → Nat → Nat) (cyI cyZ cyJ : ClassId) (q4 qd qw qu qc qt ql qn qe qr qz : Nat) (sz : Nat) (hT : l.stackTraces = false) (fp : Int32) (w : Nat → Int32) (on : Bool) (lf : Int32) (dn : Nat) (xx : Int32) (ou : Nat → Int64) (HBAD : ¬ ∃ q : Nat, xx = nI q ∧ q ≤ 7) : Met l yL_told wsL_told ({ frames := 7, cells := 1, slots := 6, locals := 128 }) (va_Pc [.ref q4, .int xx, .ref qu] (fun U => U.heap.size = sz ∧ va_P (dC, dI) vwCl [(q4, .inr (3, [.ref qd, .ref qc, .ref qt, .ref ql, .ref qn, .ref qe, .ref qr, .ref qz, .int fp])), (qd, .inr (1, [.ref qw, .int (bI on), .int lf, .int (nI dn)])), (qw, .inl (cyI, 512, .inl w)), (qu, .inl (cyJ, 1, .inr (.inl ou)))] U.heap ∧ va_K (dC, dI) vwCl [(cyI, .int), (cyZ, .boolean), (cyJ, .long)] U ∧ va_D (fun _ => True) [(q4, .inr (3, [.ref qd, .ref qc, .ref qt, .ref ql, .ref qn, .ref qe, .ref qr, .ref qz, .int fp])), (qd, .inr (1, [.ref qw, .int (bI on), .int lf, .int (nI dn)])), (qw, .inl (cyI, 512, .inl w)), (qu, .inl (cyJ, 1, .inr (.inl ou)))] ∧ xq (va_A [(q4, .inr (3, [.ref qd, .ref qc, .ref qt, .ref ql, .ref qn, .ref qe, .ref qr, .ref qz, .int fp])), (qd, .inr (1, [.ref qw, .int (bI on), .int lf, .int (nI dn)])), (qw, .inl (cyI, 512, .inl w)), (qu, .inl (cyJ, 1, .inr (.inl ou)))] sz) U)) (va_Qi (S := Unit) (fun (r : Int32) (_ : Unit) => r = nI 1) (fun (_ : Unit) tS => va_P (dC, dI) vwCl [(q4, .inr (3, [.ref qd, .ref qc, .ref qt, .ref ql, .ref qn, .ref qe, .ref qr, .ref qz, .int fp])), (qd, .inr (1, [.ref qw, .int (bI on), .int lf, .int (nI dn)])), (qw, .inl (cyI, 512, .inl w)), (qu, .inl (cyJ, 1, .inr (.inl ou)))] tS.heap ∧ va_K (dC, dI) vwCl [(cyI, .int), (cyZ, .boolean), (cyJ, .long)] tS ∧ va_D (va_A [(q4, .inr (3, [.ref qd, .ref qc, .ref qt, .ref ql, .ref qn, .ref qe, .ref qr, .ref qz, .int fp])), (qd, .inr (1, [.ref qw, .int (bI on), .int lf, .int (nI dn)])), (qw, .inl (cyI, 512, .inl w)), (qu, .inl (cyJ, 1, .inr (.inl ou)))] sz) [(q4, .inr (3, [.ref qd, .ref qc, .ref qt, .ref ql, .ref qn, .ref qe, .ref qr, .ref qz, .int fp])), (qd, .inr (1, [.ref qw, .int (bI on), .int lf, .int (nI dn)])), (qw, .inl (cyI, 512, .inl w)), (qu, .inl (cyJ, 1, .inr (.inl ou)))]) (va_A [(q4, .inr (3, [.ref qd, .ref qc, .ref qt, .ref ql, .ref qn, .ref qe, .ref qr, .ref qz, .int fp])), (qd, .inr (1, [.ref qw, .int (bI on), .int lf, .int (nI dn)])), (qw, .inl (cyI, 512, .inl w)), (qu, .inl (cyJ, 1, .inr (.inl ou)))] sz)) 1 6 (va_A [(q4, .inr (3, [.ref qd, .ref qc, .ref qt, .ref ql, .ref qn, .ref qe, .ref qr, .ref qz, .int fp])), (qd, .inr (1, [.ref qw, .int (bI on), .int lf, .int (nI dn)])), (qw, .inl (cyI, 512, .inl w)), (qu, .inl (cyJ, 1, .inr (.inl ou)))] sz) := by
  refine zz_ofWH (hh := [(0, 9, 12, 25)]) (cc := cL_told) (maxL := 4) (ret := (some .int)) (by decide) rfl ?_
  intro pz ez sS mM args below meth cC s₁ B hml hv
  obtain ⟨rfl, hsz, hP, hK, hD0, hXQ⟩ := hv
  have htb := vx_table (x := yL_told) B (atoms_spec (ws := wsL_told) B.pre (.codeWith yL_told cL_told 4 (some .int) [(0, 9, 12, 25)]) List.mem_cons_self)
  have hx := B.exec
  have hb := B.bytes
  have hr := B.returns
  have hts := atoms_spec (ws := wsL_told) B.pre
  have hown : sS.vm.findClass RL = some mM.cls := findClass_of_methodNamed B.named
  have hlocks := B.notSynchronized
  subst hsz
  have hD := hD0.self (sz := sS.heap.size)
  generalize hAe : va_A [(q4, .inr (3, [.ref qd, .ref qc, .ref qt, .ref ql, .ref qn, .ref qe, .ref qr, .ref qz, .int fp])), (qd, .inr (1, [.ref qw, .int (bI on), .int lf, .int (nI dn)])), (qw, .inl (cyI, 512, .inl w)), (qu, .inl (cyJ, 1, .inr (.inl ou)))] sS.heap.size = A at hD hXQ ⊢
  have hA : ∀ q : Nat, sS.heap.size ≤ q → A q := fun q h => by rw [← hAe]; exact Or.inr h
  have hS : va_S A sS.heap sS.heap [] := va_S.rf
  have hP : va_P (dC, dI) vwCl [(q4, .inr (3, [.ref qd, .ref qc, .ref qt, .ref ql, .ref qn, .ref qe, .ref qr, .ref qz, .int fp])), (qd, .inr (1, [.ref qw, .int (bI on), .int lf, .int (nI dn)])), (qw, .inl (cyI, 512, .inl w)), (qu, .inl (cyJ, 1, .inr (.inl ou)))] sS.heap := hP
  have hl := lv_entry ([.ref q4, .int xx, .ref qu]) (n := 4) (Nat.le_of_ble_eq_true rfl)
  rw [lg_entry_eq]
  generalize (lg_sl ([.ref q4, .int xx, .ref qu]) ++ List.replicate (4 - (lg_sl ([.ref q4, .int xx, .ref qu])).length) Slot.unset).toArray = ls at hl ⊢
  have hl : lv_has ls 4 [(0, .ref q4), (1, .int xx), (2, .ref qu)] := hl
  refine lv_aload_n hx hb dL_told_0 rfl (lv_at hl 2 rfl) ?_
  refine lv_iconst (v := nI 0) hx hb dL_told_1 (by decide) ?_
  refine lv_aload_n hx hb dL_told_2 rfl (lv_at hl 0 rfl) ?_
  refine lv_iload_n hx hb dL_told_3 rfl (lv_at hl 1 rfl) ?_
  have hPc := hP.sub (ws' := [(q4, .inr (3, [.ref qd, .ref qc, .ref qt, .ref ql, .ref qn, .ref qe, .ref qr, .ref qz, .int fp])), (qd, .inr (1, [.ref qw, .int (bI on), .int lf, .int (nI dn)])), (qw, .inl (cyI, 512, .inl w))]) [0, 1, 2] rfl
  have hKc := hK.sub (tys' := [(cyI, .int), (cyZ, .boolean)]) [0, 1] rfl
  have hDc := hD.sub (ws' := [(q4, .inr (3, [.ref qd, .ref qc, .ref qt, .ref ql, .ref qn, .ref qe, .ref qr, .ref qz, .int fp])), (qd, .inr (1, [.ref qw, .int (bI on), .int lf, .int (nI dn)])), (qw, .inl (cyI, 512, .inl w))]) [0, 1, 2] (by decide) rfl
  have hFc := va_free (wc := [(q4, .inr (3, [.ref qd, .ref qc, .ref qt, .ref ql, .ref qn, .ref qe, .ref qr, .ref qz, .int fp])), (qd, .inr (1, [.ref qw, .int (bI on), .int lf, .int (nI dn)])), (qw, .inl (cyI, 512, .inl w))]) hD hS hA [0, 1, 2] rfl
  refine vx_calli (vx_runV (As := [.int xx]) (rest := [.int (nI 0), .ref qu]) ⟨hx, hb, hml, hown, hts⟩ (c_X4_told_bad l dC dI cyI cyZ q4 qd qw qc qt ql qn qe qr qz sS.heap.size hT fp w on lf dn xx (HBAD)) (cwV 1 hts gL_told_X4_told rfl rfl rfl (by decide +kernel) ⟨Nat.le_of_ble_eq_true rfl, Nat.le_of_ble_eq_true rfl⟩) ⟨zz_blX, va_recv hKc hPc (ci := 3) (q0 := 0) rfl rfl, fun U hU hW => ⟨rfl, by rw [hU], by rw [hU]; exact hPc, va_K.moved hW.alike hKc, hDc.weaken (fun _ _ _ _ => trivial), hXQ.at hS hFc hU hW⟩⟩ rfl rfl hl.1 rfl (lv_room (Nat.le_of_ble_eq_true rfl)) dL_told_4 ⟨Nat.le_of_ble_eq_true rfl, Nat.le_of_ble_eq_true rfl⟩) hS (fun q _ h => hFc q h) hFc (fun q _ h => hFc q h) (fun E9 ce q9 uU tS H1 locs ht9 hvm9 hpx hB9 hz1 hk1 hS hce hcv hcl => ?_) (fun r9 uU tS H1 locs ht9 hvm9 hw9 hB9 hz1 hk1 hS => hw9.elim)
  obtain ⟨hE9, hP1, hK1, hD1⟩ := hB9
  subst hE9
  rw [ht9] at hP1
  have hK1 := va_K.moved hvm9.symm hK1
  obtain ⟨hP, hD⟩ := va_join (wr := [(qu, .inl (cyJ, 1, .inr (.inl ou)))]) (w1 := [(q4, .inr (3, [.ref qd, .ref qc, .ref qt, .ref ql, .ref qn, .ref qe, .ref qr, .ref qz, .int fp])), (qd, .inr (1, [.ref qw, .int (bI on), .int lf, .int (nI dn)])), (qw, .inl (cyI, 512, .inl w))]) hP hD [0, 1, 2] [3] rfl rfl (by decide) (by decide) hk1 hFc hP1 hD1
  generalize H1 = H at hP hS hce ⊢
  have hP : va_P (dC, dI) vwCl [(qu, .inl (cyJ, 1, .inr (.inl ou))), (q4, .inr (3, [.ref qd, .ref qc, .ref qt, .ref ql, .ref qn, .ref qe, .ref qr, .ref qz, .int fp])), (qd, .inr (1, [.ref qw, .int (bI on), .int lf, .int (nI dn)])), (qw, .inl (cyI, 512, .inl w))] H := hP
  have hD : va_D A [(qu, .inl (cyJ, 1, .inr (.inl ou))), (q4, .inr (3, [.ref qd, .ref qc, .ref qt, .ref ql, .ref qn, .ref qe, .ref qr, .ref qz, .int fp])), (qd, .inr (1, [.ref qw, .int (bI on), .int lf, .int (nI dn)])), (qw, .inl (cyI, 512, .inl w))] := hD
  refine vx_catch (name := "java/lang/IndexOutOfBoundsException") hown [] ⟨0, 9, 12, 25⟩ [] (by rw [htb]; rfl) (fun z hz => absurd hz List.not_mem_nil) rfl (by decide) (hts (.classLink RL 25 "java/lang/IndexOutOfBoundsException") (by decide +kernel)) ((hXQ.1 (.castable "java/lang/IndexOutOfBoundsException" "java/lang/IndexOutOfBoundsException") (by decide +kernel)).use rfl) hce hcv hcl ?_
  refine W.eq (g2 := F0 mM 12 ls [.ref q9]) rfl ?_
  refine lv_astore_n (lv' := [(3, .ref q9), (0, .ref q4), (1, .int xx), (2, .ref qu)]) hx hb dL_told_12 rfl hl (by decide) rfl (fun ls hl => ?_)
  refine lv_iconst (v := nI 1) hx hb dL_told_13 (by decide) ?_
  have hP9 := hP.sub (ws' := [(q4, .inr (3, [.ref qd, .ref qc, .ref qt, .ref ql, .ref qn, .ref qe, .ref qr, .ref qz, .int fp])), (qd, .inr (1, [.ref qw, .int (bI on), .int lf, .int (nI dn)])), (qw, .inl (cyI, 512, .inl w)), (qu, .inl (cyJ, 1, .inr (.inl ou)))]) [1, 2, 3, 0] rfl
  have hD9 := hD.sub (ws' := [(q4, .inr (3, [.ref qd, .ref qc, .ref qt, .ref ql, .ref qn, .ref qe, .ref qr, .ref qz, .int fp])), (qd, .inr (1, [.ref qw, .int (bI on), .int lf, .int (nI dn)])), (qw, .inl (cyI, 512, .inl w)), (qu, .inl (cyJ, 1, .inr (.inl ou)))]) [1, 2, 3, 0] (by decide) rfl
  have hK9 := hK.sub (tys' := [(cyI, .int), (cyZ, .boolean), (cyJ, .long)]) [0, 1, 2] rfl
  refine W.widen (k := 1) (n := 6) (by omega) (by omega) ?_
  exact W.iret hx hb hr (fun tS ht hW => ⟨⟨_, (), rfl, rfl, by rw [ht]; exact hP9, va_K.moved hW.alike hK9, hD9⟩, hS.F ht⟩) hS.2.2 dL_told_14
set_option maxHeartbeats 4000000 in
set_option maxRecDepth 100000 in
theorem c_L_told_ok (l : Launch) (dC : Nat → ClassId) (dI : Nat → Nat → Nat) (cyI cyZ cyJ : ClassId) (q4 qd qw qc qwh qlv qt qta qu ql qn qe qr qz : Nat) (sz : Nat) (fp : Int32) (w : Nat → Int32) (on : Bool) (lf : Int32) (dn : Nat) (WH LV : Nat → Int32) (sa : Int32) (T : Nat → Int32) (n : Nat) (j : Nat) (ou : Nat → Int64) (hj7 : j ≤ 7) (HS : sa = nI dn → ∀ j, j < 64 → LV j = bI (kLive w j)) : Met l yL_told wsL_told ({ frames := 7, cells := 0, slots := 0, locals := 128 }) (va_Pc [.ref q4, .int (nI j), .ref qu] (fun U => U.heap.size = sz ∧ va_P (dC, dI) vwCl [(q4, .inr (3, [.ref qd, .ref qc, .ref qt, .ref ql, .ref qn, .ref qe, .ref qr, .ref qz, .int fp])), (qd, .inr (1, [.ref qw, .int (bI on), .int lf, .int (nI dn)])), (qw, .inl (cyI, 512, .inl w)), (qc, .inr (0, [.ref qd, .ref qwh, .ref qlv, .int sa])), (qwh, .inl (cyZ, 64, .inl WH)), (qlv, .inl (cyZ, 64, .inl LV)), (qt, .inr (2, [.ref qta, .int (nI n)])), (qta, .inl (cyI, 450, .inl T)), (qu, .inl (cyJ, 1, .inr (.inl ou)))] U.heap ∧ va_K (dC, dI) vwCl [(cyI, .int), (cyZ, .boolean), (cyJ, .long)] U ∧ va_D (fun _ => True) [(q4, .inr (3, [.ref qd, .ref qc, .ref qt, .ref ql, .ref qn, .ref qe, .ref qr, .ref qz, .int fp])), (qd, .inr (1, [.ref qw, .int (bI on), .int lf, .int (nI dn)])), (qw, .inl (cyI, 512, .inl w)), (qc, .inr (0, [.ref qd, .ref qwh, .ref qlv, .int sa])), (qwh, .inl (cyZ, 64, .inl WH)), (qlv, .inl (cyZ, 64, .inl LV)), (qt, .inr (2, [.ref qta, .int (nI n)])), (qta, .inl (cyI, 450, .inl T)), (qu, .inl (cyJ, 1, .inr (.inl ou)))])) (va_Qi (S := (Nat → Int32) × (Nat → Int32) × Int32) (fun (r : Int32) (uU : (Nat → Int32) × (Nat → Int32) × Int32) => match uU with | (WH1, LV1, sa1) => r = nI 0 ∧ (sa1 = nI dn → ∀ j, j < 64 → LV1 j = bI (kLive w j))) (fun (uU : (Nat → Int32) × (Nat → Int32) × Int32) tS => match uU with | (WH1, LV1, sa1) => va_P (dC, dI) vwCl [(q4, .inr (3, [.ref qd, .ref qc, .ref qt, .ref ql, .ref qn, .ref qe, .ref qr, .ref qz, .int fp])), (qd, .inr (1, [.ref qw, .int (bI on), .int lf, .int (nI dn)])), (qw, .inl (cyI, 512, .inl w)), (qc, .inr (0, [.ref qd, .ref qwh, .ref qlv, .int sa1])), (qwh, .inl (cyZ, 64, .inl WH1)), (qlv, .inl (cyZ, 64, .inl LV1)), (qt, .inr (2, [.ref qta, .int (nI n)])), (qta, .inl (cyI, 450, .inl T)), (qu, .inl (cyJ, 1, .inr (.inl (vp_updL ou 0 ((zTold w on dn n j).toInt64)))))] tS.heap ∧ va_K (dC, dI) vwCl [(cyI, .int), (cyZ, .boolean), (cyJ, .long)] tS ∧ va_D (va_A [(q4, .inr (3, [.ref qd, .ref qc, .ref qt, .ref ql, .ref qn, .ref qe, .ref qr, .ref qz, .int fp])), (qd, .inr (1, [.ref qw, .int (bI on), .int lf, .int (nI dn)])), (qw, .inl (cyI, 512, .inl w)), (qc, .inr (0, [.ref qd, .ref qwh, .ref qlv, .int sa])), (qwh, .inl (cyZ, 64, .inl WH)), (qlv, .inl (cyZ, 64, .inl LV)), (qt, .inr (2, [.ref qta, .int (nI n)])), (qta, .inl (cyI, 450, .inl T)), (qu, .inl (cyJ, 1, .inr (.inl ou)))] sz) [(q4, .inr (3, [.ref qd, .ref qc, .ref qt, .ref ql, .ref qn, .ref qe, .ref qr, .ref qz, .int fp])), (qd, .inr (1, [.ref qw, .int (bI on), .int lf, .int (nI dn)])), (qw, .inl (cyI, 512, .inl w)), (qc, .inr (0, [.ref qd, .ref qwh, .ref qlv, .int sa1])), (qwh, .inl (cyZ, 64, .inl WH1)), (qlv, .inl (cyZ, 64, .inl LV1)), (qt, .inr (2, [.ref qta, .int (nI n)])), (qta, .inl (cyI, 450, .inl T)), (qu, .inl (cyJ, 1, .inr (.inl (vp_updL ou 0 ((zTold w on dn n j).toInt64)))))]) (va_A [(q4, .inr (3, [.ref qd, .ref qc, .ref qt, .ref ql, .ref qn, .ref qe, .ref qr, .ref qz, .int fp])), (qd, .inr (1, [.ref qw, .int (bI on), .int lf, .int (nI dn)])), (qw, .inl (cyI, 512, .inl w)), (qc, .inr (0, [.ref qd, .ref qwh, .ref qlv, .int sa])), (qwh, .inl (cyZ, 64, .inl WH)), (qlv, .inl (cyZ, 64, .inl LV)), (qt, .inr (2, [.ref qta, .int (nI n)])), (qta, .inl (cyI, 450, .inl T)), (qu, .inl (cyJ, 1, .inr (.inl ou)))] sz)) 0 0 (va_A [(q4, .inr (3, [.ref qd, .ref qc, .ref qt, .ref ql, .ref qn, .ref qe, .ref qr, .ref qz, .int fp])), (qd, .inr (1, [.ref qw, .int (bI on), .int lf, .int (nI dn)])), (qw, .inl (cyI, 512, .inl w)), (qc, .inr (0, [.ref qd, .ref qwh, .ref qlv, .int sa])), (qwh, .inl (cyZ, 64, .inl WH)), (qlv, .inl (cyZ, 64, .inl LV)), (qt, .inr (2, [.ref qta, .int (nI n)])), (qta, .inl (cyI, 450, .inl T)), (qu, .inl (cyJ, 1, .inr (.inl ou)))] sz) := by
  refine zz_ofWH (hh := [(0, 9, 12, 25)]) (cc := cL_told) (maxL := 4) (ret := (some .int)) (by decide) rfl ?_
  intro pz ez sS mM args below meth cC s₁ B hml hv
  obtain ⟨rfl, hsz, hP, hK, hD0⟩ := hv
  have htb := vx_table (x := yL_told) B (atoms_spec (ws := wsL_told) B.pre (.codeWith yL_told cL_told 4 (some .int) [(0, 9, 12, 25)]) List.mem_cons_self)
  have hx := B.exec
  have hb := B.bytes
  have hr := B.returns
  have hts := atoms_spec (ws := wsL_told) B.pre
  have hown : sS.vm.findClass RL = some mM.cls := findClass_of_methodNamed B.named
  have hlocks := B.notSynchronized
  subst hsz
  have hD := hD0.self (sz := sS.heap.size)
  generalize hAe : va_A [(q4, .inr (3, [.ref qd, .ref qc, .ref qt, .ref ql, .ref qn, .ref qe, .ref qr, .ref qz, .int fp])), (qd, .inr (1, [.ref qw, .int (bI on), .int lf, .int (nI dn)])), (qw, .inl (cyI, 512, .inl w)), (qc, .inr (0, [.ref qd, .ref qwh, .ref qlv, .int sa])), (qwh, .inl (cyZ, 64, .inl WH)), (qlv, .inl (cyZ, 64, .inl LV)), (qt, .inr (2, [.ref qta, .int (nI n)])), (qta, .inl (cyI, 450, .inl T)), (qu, .inl (cyJ, 1, .inr (.inl ou)))] sS.heap.size = A at hD ⊢
  have hA : ∀ q : Nat, sS.heap.size ≤ q → A q := fun q h => by rw [← hAe]; exact Or.inr h
  have hS : va_S A sS.heap sS.heap [] := va_S.rf
  have hP : va_P (dC, dI) vwCl [(q4, .inr (3, [.ref qd, .ref qc, .ref qt, .ref ql, .ref qn, .ref qe, .ref qr, .ref qz, .int fp])), (qd, .inr (1, [.ref qw, .int (bI on), .int lf, .int (nI dn)])), (qw, .inl (cyI, 512, .inl w)), (qc, .inr (0, [.ref qd, .ref qwh, .ref qlv, .int sa])), (qwh, .inl (cyZ, 64, .inl WH)), (qlv, .inl (cyZ, 64, .inl LV)), (qt, .inr (2, [.ref qta, .int (nI n)])), (qta, .inl (cyI, 450, .inl T)), (qu, .inl (cyJ, 1, .inr (.inl ou)))] sS.heap := hP
  have hl := lv_entry ([.ref q4, .int (nI j), .ref qu]) (n := 4) (Nat.le_of_ble_eq_true rfl)
  rw [lg_entry_eq]
  generalize (lg_sl ([.ref q4, .int (nI j), .ref qu]) ++ List.replicate (4 - (lg_sl ([.ref q4, .int (nI j), .ref qu])).length) Slot.unset).toArray = ls at hl ⊢
  have hl : lv_has ls 4 [(0, .ref q4), (1, .int (nI j)), (2, .ref qu)] := hl
  refine lv_aload_n hx hb dL_told_0 rfl (lv_at hl 2 rfl) ?_
  refine lv_iconst (v := nI 0) hx hb dL_told_1 (by decide) ?_
  refine lv_aload_n hx hb dL_told_2 rfl (lv_at hl 0 rfl) ?_
  refine lv_iload_n hx hb dL_told_3 rfl (lv_at hl 1 rfl) ?_
  have hPc := hP.sub (ws' := [(q4, .inr (3, [.ref qd, .ref qc, .ref qt, .ref ql, .ref qn, .ref qe, .ref qr, .ref qz, .int fp])), (qd, .inr (1, [.ref qw, .int (bI on), .int lf, .int (nI dn)])), (qw, .inl (cyI, 512, .inl w)), (qc, .inr (0, [.ref qd, .ref qwh, .ref qlv, .int sa])), (qwh, .inl (cyZ, 64, .inl WH)), (qlv, .inl (cyZ, 64, .inl LV)), (qt, .inr (2, [.ref qta, .int (nI n)])), (qta, .inl (cyI, 450, .inl T))]) [0, 1, 2, 3, 4, 5, 6, 7] rfl
  have hKc := hK.sub (tys' := [(cyI, .int), (cyZ, .boolean)]) [0, 1] rfl
  have hDc := hD.sub (ws' := [(q4, .inr (3, [.ref qd, .ref qc, .ref qt, .ref ql, .ref qn, .ref qe, .ref qr, .ref qz, .int fp])), (qd, .inr (1, [.ref qw, .int (bI on), .int lf, .int (nI dn)])), (qw, .inl (cyI, 512, .inl w)), (qc, .inr (0, [.ref qd, .ref qwh, .ref qlv, .int sa])), (qwh, .inl (cyZ, 64, .inl WH)), (qlv, .inl (cyZ, 64, .inl LV)), (qt, .inr (2, [.ref qta, .int (nI n)])), (qta, .inl (cyI, 450, .inl T))]) [0, 1, 2, 3, 4, 5, 6, 7] (by decide) rfl
  have hFc := va_free (wc := [(q4, .inr (3, [.ref qd, .ref qc, .ref qt, .ref ql, .ref qn, .ref qe, .ref qr, .ref qz, .int fp])), (qd, .inr (1, [.ref qw, .int (bI on), .int lf, .int (nI dn)])), (qw, .inl (cyI, 512, .inl w)), (qc, .inr (0, [.ref qd, .ref qwh, .ref qlv, .int sa])), (qwh, .inl (cyZ, 64, .inl WH)), (qlv, .inl (cyZ, 64, .inl LV)), (qt, .inr (2, [.ref qta, .int (nI n)])), (qta, .inl (cyI, 450, .inl T))]) hD hS hA [0, 1, 2, 3, 4, 5, 6, 7] rfl
  refine va_calli (va_runV (As := [.int (nI j)]) (rest := [.int (nI 0), .ref qu]) ⟨hx, hb, hml, hown, hts⟩ (c_X4_told_ok l dC dI cyI cyZ q4 qd qw qc qwh qlv qt qta ql qn qe qr qz sS.heap.size fp w on lf dn WH LV sa T n j (by omega) (HS)) (cwV 1 hts gL_told_X4_told rfl rfl rfl (by decide +kernel) ⟨Nat.le_of_ble_eq_true rfl, Nat.le_of_ble_eq_true rfl⟩) ⟨zz_blW, va_recv hKc hPc (ci := 3) (q0 := 0) rfl rfl, fun U hU hW => ⟨rfl, by rw [hU], by rw [hU]; exact hPc, va_K.moved hW.alike hKc, hDc.weaken (fun _ _ _ _ => trivial)⟩⟩ rfl rfl hl.1 rfl (lv_room (Nat.le_of_ble_eq_true rfl)) dL_told_4 ⟨Nat.zero_le _, Nat.zero_le _⟩) hS (fun q _ h => hFc q h) hFc (fun r_4 uU tS H1 locs ht9 hvm9 hw9 hB9 hz1 hk1 hS => ?_)
  obtain ⟨WH1_4, LV1_4, sa1_4⟩ := uU
  obtain ⟨hP1, hK1, hD1⟩ := hB9
  have hw9 : (r_4 = zTold w on dn n j) ∧ (sa1_4 = nI dn → ∀ j, j < 64 → LV1_4 j = bI (kLive w j)) := hw9
  obtain ⟨hr_4, HS1_4⟩ := hw9
  have hr_4 := Eq.symm hr_4
  subst hr_4
  rw [ht9] at hP1
  have hK1 := va_K.moved hvm9.symm hK1
  obtain ⟨hP, hD⟩ := va_join (wr := [(qu, .inl (cyJ, 1, .inr (.inl ou)))]) (w1 := [(q4, .inr (3, [.ref qd, .ref qc, .ref qt, .ref ql, .ref qn, .ref qe, .ref qr, .ref qz, .int fp])), (qd, .inr (1, [.ref qw, .int (bI on), .int lf, .int (nI dn)])), (qw, .inl (cyI, 512, .inl w)), (qc, .inr (0, [.ref qd, .ref qwh, .ref qlv, .int sa1_4])), (qwh, .inl (cyZ, 64, .inl WH1_4)), (qlv, .inl (cyZ, 64, .inl LV1_4)), (qt, .inr (2, [.ref qta, .int (nI n)])), (qta, .inl (cyI, 450, .inl T))]) hP hD [0, 1, 2, 3, 4, 5, 6, 7] [8] rfl rfl (by decide) (by decide) hk1 hFc hP1 hD1
  generalize H1 = H at hP hS ⊢
  have hP : va_P (dC, dI) vwCl [(qu, .inl (cyJ, 1, .inr (.inl ou))), (q4, .inr (3, [.ref qd, .ref qc, .ref qt, .ref ql, .ref qn, .ref qe, .ref qr, .ref qz, .int fp])), (qd, .inr (1, [.ref qw, .int (bI on), .int lf, .int (nI dn)])), (qw, .inl (cyI, 512, .inl w)), (qc, .inr (0, [.ref qd, .ref qwh, .ref qlv, .int sa1_4])), (qwh, .inl (cyZ, 64, .inl WH1_4)), (qlv, .inl (cyZ, 64, .inl LV1_4)), (qt, .inr (2, [.ref qta, .int (nI n)])), (qta, .inl (cyI, 450, .inl T))] H := hP
  have hD : va_D A [(qu, .inl (cyJ, 1, .inr (.inl ou))), (q4, .inr (3, [.ref qd, .ref qc, .ref qt, .ref ql, .ref qn, .ref qe, .ref qr, .ref qz, .int fp])), (qd, .inr (1, [.ref qw, .int (bI on), .int lf, .int (nI dn)])), (qw, .inl (cyI, 512, .inl w)), (qc, .inr (0, [.ref qd, .ref qwh, .ref qlv, .int sa1_4])), (qwh, .inl (cyZ, 64, .inl WH1_4)), (qlv, .inl (cyZ, 64, .inl LV1_4)), (qt, .inr (2, [.ref qta, .int (nI n)])), (qta, .inl (cyI, 450, .inl T))] := hD
  refine lv_i2l (v := (zTold w on dn n j).toInt64) hx hb dL_told_7 rfl ?_
  refine va_last hx hb hK hP hD hS 0 2 rfl rfl (vp_in_nI (n := 0) (by omega) (by decide)) dL_told_8 (fun H locs hP hD hS => ?_)
  rw [nI_clamp (n := 0) (by omega)] at hP hD
  have hP : va_P (dC, dI) vwCl [(qu, .inl (cyJ, 1, .inr (.inl (vp_updL ou 0 ((zTold w on dn n j).toInt64))))), (q4, .inr (3, [.ref qd, .ref qc, .ref qt, .ref ql, .ref qn, .ref qe, .ref qr, .ref qz, .int fp])), (qd, .inr (1, [.ref qw, .int (bI on), .int lf, .int (nI dn)])), (qw, .inl (cyI, 512, .inl w)), (qc, .inr (0, [.ref qd, .ref qwh, .ref qlv, .int sa1_4])), (qwh, .inl (cyZ, 64, .inl WH1_4)), (qlv, .inl (cyZ, 64, .inl LV1_4)), (qt, .inr (2, [.ref qta, .int (nI n)])), (qta, .inl (cyI, 450, .inl T))] H := hP
  have hD : va_D A [(qu, .inl (cyJ, 1, .inr (.inl (vp_updL ou 0 ((zTold w on dn n j).toInt64))))), (q4, .inr (3, [.ref qd, .ref qc, .ref qt, .ref ql, .ref qn, .ref qe, .ref qr, .ref qz, .int fp])), (qd, .inr (1, [.ref qw, .int (bI on), .int lf, .int (nI dn)])), (qw, .inl (cyI, 512, .inl w)), (qc, .inr (0, [.ref qd, .ref qwh, .ref qlv, .int sa1_4])), (qwh, .inl (cyZ, 64, .inl WH1_4)), (qlv, .inl (cyZ, 64, .inl LV1_4)), (qt, .inr (2, [.ref qta, .int (nI n)])), (qta, .inl (cyI, 450, .inl T))] := hD
  refine lv_goto (tgt := 15) hx hb dL_told_9 (by decide) ?_
  refine lv_iconst (v := nI 0) hx hb dL_told_15 (by decide) ?_
  have hP9 := hP.sub (ws' := [(q4, .inr (3, [.ref qd, .ref qc, .ref qt, .ref ql, .ref qn, .ref qe, .ref qr, .ref qz, .int fp])), (qd, .inr (1, [.ref qw, .int (bI on), .int lf, .int (nI dn)])), (qw, .inl (cyI, 512, .inl w)), (qc, .inr (0, [.ref qd, .ref qwh, .ref qlv, .int sa1_4])), (qwh, .inl (cyZ, 64, .inl WH1_4)), (qlv, .inl (cyZ, 64, .inl LV1_4)), (qt, .inr (2, [.ref qta, .int (nI n)])), (qta, .inl (cyI, 450, .inl T)), (qu, .inl (cyJ, 1, .inr (.inl (vp_updL ou 0 ((zTold w on dn n j).toInt64)))))]) [1, 2, 3, 4, 5, 6, 7, 8, 0] rfl
  have hD9 := hD.sub (ws' := [(q4, .inr (3, [.ref qd, .ref qc, .ref qt, .ref ql, .ref qn, .ref qe, .ref qr, .ref qz, .int fp])), (qd, .inr (1, [.ref qw, .int (bI on), .int lf, .int (nI dn)])), (qw, .inl (cyI, 512, .inl w)), (qc, .inr (0, [.ref qd, .ref qwh, .ref qlv, .int sa1_4])), (qwh, .inl (cyZ, 64, .inl WH1_4)), (qlv, .inl (cyZ, 64, .inl LV1_4)), (qt, .inr (2, [.ref qta, .int (nI n)])), (qta, .inl (cyI, 450, .inl T)), (qu, .inl (cyJ, 1, .inr (.inl (vp_updL ou 0 ((zTold w on dn n j).toInt64)))))]) [1, 2, 3, 4, 5, 6, 7, 8, 0] (by decide) rfl
  have hK9 := hK.sub (tys' := [(cyI, .int), (cyZ, .boolean), (cyJ, .long)]) [0, 1, 2] rfl
  exact W.iret hx hb hr (fun tS ht hW => ⟨⟨_, (WH1_4, LV1_4, sa1_4), rfl, ⟨rfl, HS1_4⟩, by rw [ht]; exact hP9, va_K.moved hW.alike hK9, hD9⟩, hS.F ht⟩) hS.2.2 dL_told_16
