/-! the law's own pieces -/
section ZLAW
variable {p : Program} {l : Launch} {e : Env} {R : Room} {s : State} {m : MethodId} {args : Array Value} {below : List Frame} {meth : Method} {c : Code} {H : Heap} {locs : List Loc} {cells slots : Nat} {Q : State → Prop}
variable {cc : ByteArray} {pc : Nat} {ls : Array Slot} {rest : List Value}
theorem zz_lcmp (hexec : p.tables.exec = Jvm.exec) (hb : c.code = cc) {x : Int64} (hdg : decode cc pc = .ok (.lcmp, 1))
    (k : W p l e R s m args below meth c H locs cells slots Q (F0 m (pc + 1) ls (.int (nI 0) :: rest))) : W p l e R s m args below meth c H locs cells slots Q (F0 m pc ls (.long x :: .long x :: rest)) := by
  intro T hT X
  obtain ⟨t, a, b⟩ := k T hT X
  refine ⟨t, ?_, b⟩
  have h1 : ¬ x > x := Int64.lt_irrefl
  have h2 : (x == x) = true := beq_self_eq_true x
  jvm_step X.here [X.here.top, hexec, hb, hdg, h1, h2]
  exact a
end ZLAW
theorem i_gt4 {a L : Nat} (ha : a ≤ 300) (hL : L ≤ 300) : (nI L - nI 4 < nI a → ¬ a + 4 ≤ L) ∧ (nI a ≤ nI L - nI 4 → a + 4 ≤ L) := by
  rcases Nat.lt_or_ge L 4 with h | h
  · have hn : nI L - nI 4 < 0 := by
      rcases (show L = 0 ∨ L = 1 ∨ L = 2 ∨ L = 3 by omega) with rfl | rfl | rfl | rfl <;> decide
    refine ⟨fun _ => by omega, fun q => absurd (Int32.lt_of_le_of_lt q hn) (nI_pos (by omega))⟩
  · rw [pk_sub (a := L) (b := 4) h]
    refine ⟨fun q => ?_, fun q => ?_⟩
    · have := (nI_ltI (by omega) (by omega)).mp q; omega
    · rcases Nat.lt_or_ge (L - 4) a with z | z
      · exact absurd ((nI_ltI (by omega) (by omega)).mpr z) (Int32.not_lt.mpr q)
      · omega
theorem zOut_cong {P P' : Nat → Int32} {k : Nat} {i : Int32} (hk : k ≤ 450) (h : ∀ j, j < k → P' j = P j) : zOut P k i = zOut P' k i := by
  by_cases h0 : i < 0
  · rw [zOut_lo h0, zOut_lo h0]
  · by_cases h1 : nI k ≤ i
    · rw [zOut_hi h1, zOut_hi h1]
    · obtain ⟨j, hj, rfl⟩ := i_nat h0 (Int32.not_le.mp h1) (by omega)
      rw [zOut_in hj (by omega), zOut_in hj (by omega), h j hj]
theorem zLoad_cong {w : Nat → Int32} {ky : Int32} {k : Nat} {P P' : Nat → Int32} (h : ∀ j, j < k → P' j = P j) :
    (zLoad w ky k P).1 = (zLoad w ky k P').1 ∧ (zLoad w ky k P).2.1 = (zLoad w ky k P').2.1 ∧ ∀ j, j < (zLoad w ky k P).2.1 → (zLoad w ky k P').2.2 j = (zLoad w ky k P).2.2 j := by
  unfold zLoad
  split
  · split
    · exact ⟨rfl, rfl, fun _ _ => rfl⟩
    · exact ⟨rfl, rfl, fun _ _ => rfl⟩
  · exact ⟨rfl, rfl, h⟩
theorem kCommit_w {r : Int32} {on : Bool} {w : Nat → Int32} {lf : Int32} {dn : Nat} {Z : Int32 × Bool × (Nat → Int32) × Int32 × Nat} (h : (r, on, w, lf, dn) = Z) : w = Z.2.2.1 := congrArg (fun z => z.2.2.1) h
theorem tup5 {r r' : Int32} {on on' : Bool} {w w' : Nat → Int32} {lf lf' : Int32} {dn dn' : Nat} {Z : Int32 × Bool × (Nat → Int32) × Int32 × Nat} (h : (r, on, w, lf, dn) = Z) (h' : (r', on', w', lf', dn') = Z) : r = r' ∧ on = on' ∧ w = w' ∧ lf = lf' ∧ dn = dn' := by
  have e := h.trans h'.symm
  exact ⟨congrArg (fun z => z.1) e, congrArg (fun z => z.2.1) e, congrArg (fun z => z.2.2.1) e, congrArg (fun z => z.2.2.2.1) e, congrArg (fun z => z.2.2.2.2) e⟩
