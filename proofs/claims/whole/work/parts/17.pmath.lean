/-! what the public calls answer, over words, tape and what is loaded -/
def zOut (P : Nat → Int32) (k : Nat) (i : Int32) : Int32 := if i < 0 ∨ nI k ≤ i then (-1) else P (vN i)
theorem zOut_lo {P : Nat → Int32} {k : Nat} {i : Int32} (h : i < 0) : zOut P k i = (-1) := if_pos (Or.inl h)
theorem zOut_hi {P : Nat → Int32} {k : Nat} {i : Int32} (h : nI k ≤ i) : zOut P k i = (-1) := if_pos (Or.inr h)
theorem zOut_in {P : Nat → Int32} {k j : Nat} (h : j < k) (hk : k < 2 ^ 31) : zOut P k (nI j) = P j := by
  unfold zOut
  rw [if_neg]
  · show P (nI j).toNatClampNeg = P j
    rw [nI_clamp (by omega)]
  · rintro (q | q)
    · exact nI_pos (by omega) q
    · exact nI_ge h hk q
theorem i_nat {i : Int32} {k : Nat} (h0 : ¬ i < 0) (h : i < nI k) (hk : k < 2 ^ 31) : ∃ j : Nat, j < k ∧ i = nI j := by
  obtain ⟨j, hj, rfl⟩ := nI_of h0
  exact ⟨j, (nI_ltI hj hk).mp h, rfl⟩
theorem kText_grave {L : Nat → Bool} {w : Nat → Int32} {b : Nat} (h : kText L w b = true) : kGrave L w b = false := by
  unfold kText at h; unfold kGrave
  rw [Bool.and_eq_true, Bool.and_eq_true, Bool.not_eq_true'] at h
  rw [h.2.2, Bool.and_false]
theorem kIs_grave {L : Nat → Bool} {w : Nat → Int32} {ky : Int32} {b : Nat} (h : kIs L w ky b = true) (h2 : kText L w b = false) : kGrave L w b = true := by
  unfold kIs at h; unfold kText at h2; unfold kGrave
  rw [Bool.and_eq_true, Bool.and_eq_true] at h
  rw [h.1, h.2.1, Bool.true_and, Bool.true_and, Bool.not_eq_false'] at h2
  rw [h.1, h2]; rfl
def kF (w : Nat → Int32) (ky : Int32) : Nat := zFst (kIs (kLive w) w ky) 64
theorem kNo_0 {w : Nat → Int32} {ky : Int32} (h : ¬ kF w ky < 64) : kNo w ky = (-2) := if_neg h
theorem kNo_t {w : Nat → Int32} {ky : Int32} (h : kF w ky < 64) (h2 : kText (kLive w) w (kF w ky) = true) : kNo w ky = kNum w (kF w ky) := by
  unfold kNo; rw [if_pos (show zFst (kIs (kLive w) w ky) 64 < 64 from h), if_neg]; · rfl
  rw [show kGrave (kLive w) w (zFst (kIs (kLive w) w ky) 64) = false from kText_grave h2]; exact Bool.false_ne_true
theorem kNo_g {w : Nat → Int32} {ky : Int32} (h : kF w ky < 64) (h2 : kText (kLive w) w (kF w ky) = false) : kNo w ky = -(kNum w (kF w ky)) := by
  unfold kNo; rw [if_pos (show zFst (kIs (kLive w) w ky) 64 < 64 from h), if_pos]; · rfl
  exact kIs_grave (zFst_yes h) h2
def kDel (w : Nat → Int32) (lf : Int32) (dn : Nat) (ky : Int32) : Int32 × Bool × (Nat → Int32) × Int32 × Nat :=
  if kF w ky < 64 ∧ kText (kLive w) w (kF w ky) = true then kPut w lf dn ky 2 0 (fun _ => nI 0) else ((-2), true, w, lf, dn)
theorem kDel_n {w : Nat → Int32} {lf : Int32} {dn : Nat} {ky : Int32} (h : kF w ky < 64 → kText (kLive w) w (kF w ky) = false) : kDel w lf dn ky = ((-2), true, w, lf, dn) := if_neg (fun q => by rw [h q.1] at q; exact Bool.false_ne_true q.2)
theorem kDel_y {w : Nat → Int32} {lf : Int32} {dn : Nat} {ky : Int32} {C : Nat → Int32} (h : kF w ky < 64) (h2 : kText (kLive w) w (kF w ky) = true) : kDel w lf dn ky = kPut w lf dn ky 2 0 C := by
  unfold kDel; rw [if_pos ⟨h, h2⟩]; exact kPut_cong (fun j hj => absurd hj (Nat.not_lt_zero _))
/-- answer, how many are loaded, what is loaded -/
def zLoad (w : Nat → Int32) (ky : Int32) (k : Nat) (P : Nat → Int32) : Int32 × Nat × (Nat → Int32) :=
  if kF w ky < 64 ∧ kText (kLive w) w (kF w ky) = true then
    (if kForm w (kF w ky) = nI 1 then (nI (zD (zGat w (kF w ky)) (vN (kOct w (kF w ky)))).2.1, (zD (zGat w (kF w ky)) (vN (kOct w (kF w ky)))).2.1, (zD (zGat w (kF w ky)) (vN (kOct w (kF w ky)))).2.2)
    else (nI (vN (kOct w (kF w ky))), vN (kOct w (kF w ky)), zGat w (kF w ky)))
  else ((-2), k, P)
theorem zLoad_n {w : Nat → Int32} {ky : Int32} {k : Nat} {P : Nat → Int32} (h : kF w ky < 64 → kText (kLive w) w (kF w ky) = false) : zLoad w ky k P = ((-2), k, P) := if_neg (fun q => by rw [h q.1] at q; exact Bool.false_ne_true q.2)
theorem zLoad_1 {w : Nat → Int32} {ky : Int32} {k n : Nat} {P : Nat → Int32} (h : kF w ky < 64) (h2 : kText (kLive w) w (kF w ky) = true) (h3 : kForm w (kF w ky) = nI 1) (h4 : vN (kOct w (kF w ky)) = n) : zLoad w ky k P = (nI (zD (zGat w (kF w ky)) n).2.1, (zD (zGat w (kF w ky)) n).2.1, (zD (zGat w (kF w ky)) n).2.2) := by
  unfold zLoad; rw [if_pos ⟨h, h2⟩, if_pos h3, h4]
theorem zLoad_0 {w : Nat → Int32} {ky : Int32} {k n : Nat} {P : Nat → Int32} (h : kF w ky < 64) (h2 : kText (kLive w) w (kF w ky) = true) (h3 : ¬ kForm w (kF w ky) = nI 1) (h4 : vN (kOct w (kF w ky)) = n) : zLoad w ky k P = (nI n, n, zGat w (kF w ky)) := by
  unfold zLoad; rw [if_pos ⟨h, h2⟩, if_neg h3, h4]
theorem dF_le {t : Nat → Int32} {n : Nat} : ∀ f i b g m o, g ≤ n → (dF t n f i b g m o).1 ≤ n + 1
  | 0, _, _, _, _, _, _ => Nat.zero_le _
  | f + 1, i, b, g, m, o, hg => by
    rw [dF]
    split
    · rename_i hi
      split
      · exact dF_le _ _ _ _ _ _ (by omega)
      · split
        · split
          · show i + 1 ≤ n + 1; omega
          · exact dF_le _ _ _ _ _ _ hg
        · split
          · exact Nat.le_refl _
          · split
            · show i + 1 ≤ n + 1; omega
            · exact dF_le _ _ _ _ _ _ hg
    · split
      · exact Nat.zero_le _
      · split
        · show g + 1 ≤ n + 1; omega
        · exact Nat.zero_le _
theorem zD_le (t : Nat → Int32) (n : Nat) : (zD t n).1 ≤ n + 1 := dF_le _ _ _ _ _ _ (Nat.zero_le _)
theorem zPl_n {k n : Nat} (h : ¬ k = 0) (hk : k ≤ n + 1) (hn : n ≤ 1000) : zPl k = nI (k - 1) ∧ ¬ zPl k = (-1) := by
  have e : zPl k = nI (k - 1) := if_neg h
  exact ⟨e, by rw [e]; exact nI_nm1 (by omega)⟩
/-- what a disk must be like that its texts can be gathered -/
def kGood (w : Nat → Int32) : Prop := ∀ b, b < 64 → kText (kLive w) w b = true → ∃ ps zn : Nat, kParts w b = nI ps ∧ ps ≤ 64 ∧ kOct w b = nI zn ∧ zn ≤ 400 ∧ zn ≤ 16 * ps ∧ ∀ q, q < ps → zPB w b q < 64
theorem vN_nI {n : Nat} (h : n < 2 ^ 31) : vN (nI n) = n := nI_clamp h
theorem kRank_at {w : Nat → Int32} {r : Int32} (h : zFst (kRank (kLive w) w r) 64 < 64) : kKth w r = kKey w (zFst (kRank (kLive w) w r) 64) := if_pos h
theorem kRank_no {w : Nat → Int32} {r : Int32} (h : ¬ zFst (kRank (kLive w) w r) 64 < 64) : kKth w r = nI 0 := if_neg h
