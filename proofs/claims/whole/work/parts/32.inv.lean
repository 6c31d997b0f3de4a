/-! what the disk is like: whose rows its blocks hold -/
abbrev zRc : Type := Int32 × Nat × Nat × (Nat → Int32)
/-- a record: key, form, octets, what they are -/
def zRok (x : zRc) : Prop := x.2.1 ≤ 2 ∧ x.2.2.1 ≤ 400 ∧ (∀ j, j < x.2.2.1 → zO (x.2.2.2 j)) ∧ (x.2.1 = 1 → (zD x.2.2.2 x.2.2.1).1 = 0)
def zAs (R : Nat → zRc) (r q : Nat) : Nat → Int32 := zRow (nI r) (zParts (R r).2.2.1) (R r).2.1 (R r).1 (R r).2.2.1 (R r).2.2.2 q
def zBk9 (R : Nat → zRc) (m : Nat) (w : Nat → Int32) (b r q : Nat) : Prop := 1 ≤ r ∧ r ≤ m ∧ q < zParts (R r).2.2.1 ∧ ∀ j, j < 8 → w (8 * b + j) = zAs R r q j
def zInvR (R : Nat → zRc) (m : Nat) (w : Nat → Int32) : Prop := (∀ r, zRok (R r)) ∧ (∀ b, b < 64 → kNum w b = nI 0 ∨ ∃ r q, zBk9 R m w b r q) ∧ kUniq w
def zInv (m : Nat) (w : Nat → Int32) : Prop := ∃ R, zInvR R m w
theorem zParts_b {n : Nat} (h : n ≤ 400) : 1 ≤ zParts n ∧ zParts n ≤ 25 ∧ n ≤ 16 * zParts n := by unfold zParts; split <;> omega
theorem zInvR.mono {R : Nat → zRc} {m m' : Nat} {w : Nat → Int32} (h : m ≤ m') (hI : zInvR R m w) : zInvR R m' w :=
  ⟨hI.1, fun b hb => (hI.2.1 b hb).imp id (fun ⟨r, q, h1, h2, h3⟩ => ⟨r, q, h1, Nat.le_trans h2 h, h3⟩), hI.2.2⟩
theorem zInv.mono {m m' : Nat} {w : Nat → Int32} (h : m ≤ m') (hI : zInv m w) : zInv m' w := hI.elim fun R hR => ⟨R, hR.mono h⟩
theorem zInv_0 : zInv 0 (fun _ => nI 0) := ⟨fun _ => (nI 0, 0, 0, fun _ => nI 0), fun _ => ⟨Nat.zero_le _, Nat.zero_le _, no_lt0, fun h => absurd (show (0 : Nat) = 1 from h) (by decide)⟩, fun _ _ => Or.inl rfl, fun _ _ _ _ h => absurd rfl h⟩
/-- a block's head -/
theorem zBk9.head {R : Nat → zRc} {m : Nat} {w : Nat → Int32} {b r q : Nat} (hR : ∀ r, zRok (R r)) (h : zBk9 R m w b r q) :
    kNum w b = nI r ∧ kPart w b = nI q ∧ kParts w b = nI (zParts (R r).2.2.1) ∧ kForm w b = nI (R r).2.1 ∧ kOct w b = nI (R r).2.2.1 ∧ ∀ j, j < 4 → w (8 * b + (4 + j)) = zfour (R r).2.2.2 (R r).2.2.1 (16 * q + 4 * j) := by
  obtain ⟨h1, h2, h3, h4⟩ := h
  obtain ⟨k1, k2, -, -⟩ := hR r
  obtain ⟨p1, p2, p3⟩ := zParts_b k2
  have e0 : w (8 * b) = nI r := h4 0 (by decide)
  have e1 : w (8 * b + 1) = nI (q + 256 * zParts (R r).2.2.1 + 65536 * (R r).2.1) := h4 1 (by decide)
  have e3 : w (8 * b + 3) = nI (R r).2.2.1 := h4 3 (by decide)
  have hX : q + 256 * zParts (R r).2.2.1 + 65536 * (R r).2.1 < 2 ^ 31 := by omega
  have hX2 : q + 256 * zParts (R r).2.2.1 + 65536 * (R r).2.1 < 2 ^ 32 := by omega
  refine ⟨e0, ?_, ?_, ?_, e3, fun j hj => ?_⟩
  · unfold kPart kTag
    rw [e1, pk_andN hX2 (m := nI 255) 8 rfl]
    exact congrArg nI (by show (q + 256 * zParts (R r).2.2.1 + 65536 * (R r).2.1) % 256 = q; omega)
  · unfold kParts kTag
    rw [e1, pk_shrN hX (nI 8 &&& 31) 8 (s_l 8 (by omega)), pk_andN (n := (q + 256 * zParts (R r).2.2.1 + 65536 * (R r).2.1) / 2 ^ 8) (by omega) (m := nI 255) 8 rfl]
    exact congrArg nI (by show (q + 256 * zParts (R r).2.2.1 + 65536 * (R r).2.1) / 256 % 256 = _; omega)
  · unfold kForm kTag
    rw [e1, pk_shrN hX (nI 16 &&& 31) 16 (s_l 16 (by omega))]
    exact congrArg nI (by show (q + 256 * zParts (R r).2.2.1 + 65536 * (R r).2.1) / 65536 = _; omega)
  · rw [h4 (4 + j) (by omega)]
    exact zRow_4
theorem zInvR.pos {R : Nat → zRc} {m : Nat} {w : Nat → Int32} (hm : m ≤ 1000) (h : zInvR R m w) : kPos w := fun b hb => by
  rcases h.2.1 b hb with e | ⟨r, q, hk⟩
  · rw [e]; decide
  · rw [(hk.head h.1).1]; exact nI_pos (by have := hk.2.1; omega)
/-! counting -/
theorem ct_one {p : Nat → Bool} : ∀ {n : Nat}, (∀ a b, a < n → b < n → p a = true → p b = true → a = b) → fb_ct p n ≤ 1
  | 0, _ => Nat.zero_le _
  | n + 1, h => by
    rw [fb_ct_succ]
    by_cases e : p n = true
    · rw [if_pos e, fb_ct_zero.mpr (fun k hk => Bool.eq_false_iff.mpr (fun q => by have := h k n (by omega) (by omega) q e; omega))]
      exact Nat.le_refl 1
    · rw [if_neg e]
      exact ct_one (fun a b ha hb => h a b (by omega) (by omega))
theorem ct_lt {S : Nat → Bool} {pt : Nat → Nat} {N : Nat} (hu : ∀ a b, a < N → b < N → S a = true → S b = true → pt a = pt b → a = b) : ∀ c, fb_ct (fun b => S b && decide (pt b < c)) N ≤ c
  | 0 => by
    rw [fb_ct_zero.mpr]
    · exact Nat.le_refl 0
    · intro k _; exact b_and_f2 (d_f (Nat.not_lt_zero _))
  | c + 1 => by
    have ih := ct_lt hu c
    have e : fb_ct (fun b => S b && decide (pt b < c + 1)) N = fb_ct (fun b => (S b && decide (pt b < c)) || (S b && decide (pt b = c))) N := fb_ct_cong (fun k _ => by
      by_cases h1 : pt k < c
      · rw [decide_eq_true h1, decide_eq_true (show pt k < c + 1 by omega), decide_eq_false (show ¬ pt k = c by omega)]; simp
      · by_cases h2 : pt k = c
        · rw [decide_eq_false h1, decide_eq_true (show pt k < c + 1 by omega), decide_eq_true h2]; simp
        · rw [decide_eq_false h1, decide_eq_false (show ¬ pt k < c + 1 by omega), decide_eq_false h2]; simp)
    have e2 := fb_ct_or (p := fun b => S b && decide (pt b < c)) (q := fun b => S b && decide (pt b = c)) (n := N) (fun k _ h => by
      have h1 := of_decide_eq_true (Bool.and_eq_true_iff.mp h.1).2
      have h2 := of_decide_eq_true (Bool.and_eq_true_iff.mp h.2).2
      omega)
    have e3 : fb_ct (fun b => S b && decide (pt b = c)) N ≤ 1 := ct_one (fun a b ha hb h1 h2 => by
      have a1 := Bool.and_eq_true_iff.mp h1
      have a2 := Bool.and_eq_true_iff.mp h2
      exact hu a b ha hb a1.1 a2.1 ((of_decide_eq_true a1.2).trans (of_decide_eq_true a2.2).symm))
    rw [e, e2]; omega
theorem ct_miss {S : Nat → Bool} {pt : Nat → Nat} {N q0 : Nat} (hu : ∀ a b, a < N → b < N → S a = true → S b = true → pt a = pt b → a = b) (hm : ∀ a, a < N → S a = true → ¬ pt a = q0) : ∀ c, q0 < c → fb_ct (fun b => S b && decide (pt b < c)) N + 1 ≤ c
  | 0, h => absurd h (Nat.not_lt_zero _)
  | c + 1, h => by
    have e : fb_ct (fun b => S b && decide (pt b < c + 1)) N = fb_ct (fun b => (S b && decide (pt b < c)) || (S b && decide (pt b = c))) N := fb_ct_cong (fun k _ => by
      by_cases h1 : pt k < c
      · rw [decide_eq_true h1, decide_eq_true (show pt k < c + 1 by omega), decide_eq_false (show ¬ pt k = c by omega)]; simp
      · by_cases h2 : pt k = c
        · rw [decide_eq_false h1, decide_eq_true (show pt k < c + 1 by omega), decide_eq_true h2]; simp
        · rw [decide_eq_false h1, decide_eq_false (show ¬ pt k < c + 1 by omega), decide_eq_false h2]; simp)
    have e2 := fb_ct_or (p := fun b => S b && decide (pt b < c)) (q := fun b => S b && decide (pt b = c)) (n := N) (fun k _ h => by
      have h1 := of_decide_eq_true (Bool.and_eq_true_iff.mp h.1).2
      have h2 := of_decide_eq_true (Bool.and_eq_true_iff.mp h.2).2
      omega)
    rw [e, e2]
    by_cases hc : q0 = c
    · have e3 : fb_ct (fun b => S b && decide (pt b = c)) N = 0 := fb_ct_zero.mpr (fun k hk => Bool.eq_false_iff.mpr (fun z => by
        have a1 := Bool.and_eq_true_iff.mp z
        exact hm k hk a1.1 (by rw [hc]; exact of_decide_eq_true a1.2)))
      have := ct_lt hu c
      omega
    · have e3 : fb_ct (fun b => S b && decide (pt b = c)) N ≤ 1 := ct_one (fun a b ha hb h1 h2 => by
        have a1 := Bool.and_eq_true_iff.mp h1
        have a2 := Bool.and_eq_true_iff.mp h2
        exact hu a b ha hb a1.1 a2.1 ((of_decide_eq_true a1.2).trans (of_decide_eq_true a2.2).symm))
      have := ct_miss hu hm c (by omega)
      omega
theorem zFst_lt {q : Nat → Bool} {n k : Nat} (hk : k < n) (h : q k = true) : zFst q n < n := by
  rcases Nat.lt_or_ge (zFst q n) n with h1 | h1
  · exact h1
  · have := zFst_bel (q := q) (n := n) (j := k) (by omega)
    rw [h] at this; cases this
theorem kText_and {L : Nat → Bool} {w : Nat → Int32} {b : Nat} (h : kText L w b = true) : L b = true ∧ kPart w b = nI 0 ∧ ¬ kForm w b = nI 2 := by
  unfold kText at h
  rw [Bool.and_eq_true, Bool.and_eq_true, decide_eq_true_eq, Bool.not_eq_true', decide_eq_false_iff_not] at h
  exact h
theorem kLive_all {w : Nat → Int32} {b : Nat} (h : kLive w b = true) : ¬ kNum w b = nI 0 ∧ nI (fb_ct (kSame w b) 64) = kParts w b := by
  unfold kLive kWh kAll at h
  rw [Bool.and_eq_true, Bool.and_eq_true, Bool.not_eq_true', decide_eq_false_iff_not, decide_eq_true_eq] at h
  exact h.1
/-- every part of a live record is there -/
theorem zInvR.parts {R : Nat → zRc} {m : Nat} {w : Nat → Int32} (hm : m ≤ 1000) (h : zInvR R m w) {b r q : Nat} (hb : b < 64) (hk : zBk9 R m w b r q) (hL : kLive w b = true) : ∀ q0, q0 < zParts (R r).2.2.1 → zPB w b q0 < 64 := by
  intro q0 hq0
  obtain ⟨hH, hI, hU⟩ := h
  obtain ⟨g1, g2, g3, g4, g5, g6⟩ := hk.head hH
  obtain ⟨p1, p2, p3⟩ := zParts_b (hH r).2.1
  obtain ⟨l1, l2⟩ := kLive_all hL
  have hct := fb_ct_le (kSame w b) 64
  have hct2 : fb_ct (kSame w b) 64 = zParts (R r).2.2.1 := (nI_eq (by omega) (by omega)).mp (l2.trans g3)
  -- a block of the same number
  have hS : ∀ a, a < 64 → kSame w b a = true → ∃ q', q' < zParts (R r).2.2.1 ∧ kPart w a = nI q' ∧ kNum w a = kNum w b := fun a ha hs => by
    have e : kNum w a = kNum w b := of_decide_eq_true hs
    rcases hI a ha with z | ⟨r', q', hk'⟩
    · exact absurd (e.symm.trans z) l1
    · obtain ⟨f1, f2, -⟩ := hk'.head hH
      have er : r' = r := (nI_eq (by have := hk'.2.1; omega) (by have := hk.2.1; omega)).mp (f1.symm.trans (e.trans g1))
      subst er
      exact ⟨q', hk'.2.2.1, f2, e⟩
  have hu : ∀ a b', a < 64 → b' < 64 → kSame w b a = true → kSame w b b' = true → vN (kPart w a) = vN (kPart w b') → a = b' := fun a b' ha hb' s1 s2 e => by
    obtain ⟨q1, x1, x2, x3⟩ := hS a ha s1
    obtain ⟨q2, y1, y2, y3⟩ := hS b' hb' s2
    refine hU a b' ha hb' (by rw [x3]; exact l1) (x3.trans y3.symm) ?_
    rw [x2, y2, vN_nI (by omega), vN_nI (by omega)] at e
    rw [x2, y2, e]
  have hall : fb_ct (fun a => kSame w b a && decide (vN (kPart w a) < zParts (R r).2.2.1)) 64 = zParts (R r).2.2.1 := by
    rw [← hct2]
    refine fb_ct_cong (fun a ha => ?_)
    by_cases hs : kSame w b a = true
    · obtain ⟨q1, x1, x2, x3⟩ := hS a ha hs
      rw [hs, x2, vN_nI (by omega), hct2, decide_eq_true x1]; rfl
    · rw [Bool.eq_false_iff.mpr hs]; rfl
  have hex : ∃ a, a < 64 ∧ kSame w b a = true ∧ vN (kPart w a) = q0 := Classical.byContradiction (fun hno => by
    have := ct_miss hu (q0 := q0) (fun a ha hs e => hno ⟨a, ha, hs, e⟩) _ hq0
    omega)
  obtain ⟨a, ha, hs, e⟩ := hex
  obtain ⟨q1, x1, x2, x3⟩ := hS a ha hs
  rw [x2, vN_nI (by omega)] at e
  subst e
  refine zFst_lt (k := a) ha ?_
  unfold kAt
  rw [x3, x2, decide_eq_true rfl, decide_eq_true rfl]; rfl
theorem zInvR.text {R : Nat → zRc} {m : Nat} {w : Nat → Int32} (h : zInvR R m w) {b : Nat} (hb : b < 64) (ht : kText (kLive w) w b = true) : ∃ r, zBk9 R m w b r 0 := by
  obtain ⟨t1, t2, t3⟩ := kText_and ht
  rcases h.2.1 b hb with z | ⟨r, q, hk⟩
  · exact absurd z (kLive_all t1).1
  · obtain ⟨g1, g2, g3, g4, g5, g6⟩ := hk.head h.1
    obtain ⟨p1, p2, p3⟩ := zParts_b (h.1 r).2.1
    have hq := hk.2.2.1
    have e : q = 0 := (nI_eq (by omega) (by omega)).mp (g2.symm.trans t2)
    subst e
    exact ⟨r, hk⟩
theorem zInvR.good {R : Nat → zRc} {m : Nat} {w : Nat → Int32} (hm : m ≤ 1000) (h : zInvR R m w) : kGood w := fun b hb ht => by
  obtain ⟨r, hk⟩ := h.text hb ht
  obtain ⟨g1, g2, g3, g4, g5, g6⟩ := hk.head h.1
  obtain ⟨p1, p2, p3⟩ := zParts_b (h.1 r).2.1
  exact ⟨zParts (R r).2.2.1, (R r).2.2.1, g3, by omega, g5, (h.1 r).2.1, p3, h.parts hm hb hk (kText_and ht).1⟩
/-! an octet out of four -/
theorem zO_hi {x : Int32} (h : zO x) {i : Nat} (hi : 8 ≤ i) : bt x i = false := by
  have e := congrArg (fun y => bt y i) (zO_and h)
  have e2 : (bt x i && decide (i < 8)) = bt x i := by rw [← show bt (nI 255) i = decide (i < 8) from b_255 i, ← b_and]; exact e
  rw [← e2, decide_eq_false (by omega), Bool.and_false]
theorem zO_lo {x : Int32} (h : zO x) (i : Nat) : (decide (i < 8) && bt x i) = bt x i := by
  by_cases q : i < 8
  · rw [decide_eq_true q]; rfl
  · rw [decide_eq_false q, zO_hi h (by omega)]; rfl
theorem zfour_at {f : Nat → Int32} {n : Nat} (h : ∀ j, zO (zat f n j)) (i : Nat) {c : Nat} (hc : c < 4) : ((zfour f n i).toUInt32 >>> ((nI (8 * c)).toUInt32 &&& Int32.toUInt32 31)).toInt32 &&& nI 255 = zat f n (i + c) := b_ext (fun k hk => by
  rw [b_and, b_ushr _ (by omega), show bt (nI 255) k = decide (k < 8) from b_255 k]
  by_cases h8 : k < 8
  · rw [decide_eq_true h8, Bool.and_true]
    unfold zfour
    rw [b_or, b_or, b_or, b_shl 8 (by omega) _ (by omega), b_shl 16 (by omega) _ (by omega), b_shl 24 (by omega) _ (by omega)]
    rcases (show c = 0 ∨ c = 1 ∨ c = 2 ∨ c = 3 by omega) with rfl | rfl | rfl | rfl
    · rw [decide_eq_false (show ¬ 8 ≤ 8 * 0 + k by omega), decide_eq_false (show ¬ 16 ≤ 8 * 0 + k by omega), decide_eq_false (show ¬ 24 ≤ 8 * 0 + k by omega), show 8 * 0 + k = k by omega]
      simp
    · rw [decide_eq_true (show 8 ≤ 8 * 1 + k by omega), decide_eq_false (show ¬ 16 ≤ 8 * 1 + k by omega), decide_eq_false (show ¬ 24 ≤ 8 * 1 + k by omega), zO_hi (h i) (show 8 ≤ 8 * 1 + k by omega), show 8 * 1 + k - 8 = k by omega]
      simp
    · rw [decide_eq_true (show 8 ≤ 8 * 2 + k by omega), decide_eq_true (show 16 ≤ 8 * 2 + k by omega), decide_eq_false (show ¬ 24 ≤ 8 * 2 + k by omega), zO_hi (h i) (show 8 ≤ 8 * 2 + k by omega), zO_hi (h (i + 1)) (show 8 ≤ 8 * 2 + k - 8 by omega), show 8 * 2 + k - 16 = k by omega]
      simp
    · rw [decide_eq_true (show 8 ≤ 8 * 3 + k by omega), decide_eq_true (show 16 ≤ 8 * 3 + k by omega), decide_eq_true (show 24 ≤ 8 * 3 + k by omega), zO_hi (h i) (show 8 ≤ 8 * 3 + k by omega), zO_hi (h (i + 1)) (show 8 ≤ 8 * 3 + k - 8 by omega), zO_hi (h (i + 2)) (show 8 ≤ 8 * 3 + k - 16 by omega), show 8 * 3 + k - 24 = k by omega]
      simp
  · rw [decide_eq_false h8, Bool.and_false, zO_hi (h (i + c)) (by omega)])
theorem zat_O {f : Nat → Int32} {n : Nat} (h : ∀ j, j < n → zO (f j)) (j : Nat) : zO (zat f n j) := by
  by_cases q : j < n
  · rw [zat_in q]; exact h j q
  · rw [zat_out (by omega)]; exact zO_0
theorem zInvR.gat {R : Nat → zRc} {m : Nat} {w : Nat → Int32} (hm : m ≤ 1000) (h : zInvR R m w) {b r : Nat} (hb : b < 64) (hk : zBk9 R m w b r 0) (hL : kLive w b = true) : ∀ j, j < (R r).2.2.1 → zGat w b j = (R r).2.2.2 j := by
  intro j hj
  obtain ⟨g1, g2, g3, g4, g5, g6⟩ := hk.head h.1
  obtain ⟨p1, p2, p3⟩ := zParts_b (h.1 r).2.1
  have hp := h.parts hm hb hk hL (j / 16) (by omega)
  obtain ⟨a1, a2⟩ := zPB_at hp
  rcases h.2.1 _ hp with z | ⟨r', q', hk'⟩
  · exact absurd (a1.symm.trans z) (kLive_all hL).1
  · obtain ⟨f1, f2, f3, f4, f5, f6⟩ := hk'.head h.1
    have er : r' = r := (nI_eq (by have := hk'.2.1; omega) (by have := hk.2.1; omega)).mp (f1.symm.trans (a1.trans g1))
    subst er
    have hq := hk'.2.2.1
    have eq : q' = j / 16 := (nI_eq (by omega) (by omega)).mp (f2.symm.trans a2)
    subst eq
    unfold zGat
    rw [f6 (j % 16 / 4) (by omega), zfour_at (zat_O (h.1 r').2.2.1) _ (by omega), show 16 * (j / 16) + 4 * (j % 16 / 4) + j % 16 % 4 = j by omega, zat_in hj]
theorem zInvR.read {R : Nat → zRc} {m : Nat} {w : Nat → Int32} (hm : m ≤ 1000) (h : zInvR R m w) : kRead w := fun b hb ht hf => by
  obtain ⟨r, hk⟩ := h.text hb ht
  obtain ⟨g1, g2, g3, g4, g5, g6⟩ := hk.head h.1
  obtain ⟨k1, k2, k3, k4⟩ := h.1 r
  have e1 : (R r).2.1 = 1 := (nI_eq (by omega) (by omega)).mp (g4.symm.trans hf)
  rw [g5, vN_nI (by omega), zD_cong (h.gat hm hb hk (kText_and ht).1)]
  exact k4 e1
theorem zInv.all {m : Nat} {w : Nat → Int32} (hm : m ≤ 1000) (h : zInv m w) : kPos w ∧ kGood w ∧ kUniq w ∧ kRead w := h.elim fun _ hR => ⟨hR.pos hm, hR.good hm, hR.2.2, hR.read hm⟩
/-! writes -/
theorem put_at {w g : Nat → Int32} {b j : Nat} (hj : j < 8) : fb_put w g (8 * b) 8 (8 * b + j) = g j := by
  rw [fb_put_in (by omega) (by omega), Nat.add_sub_cancel_left]
theorem put_ne {w g : Nat → Int32} {a b j : Nat} (hab : ¬ a = b) (hj : j < 8) : fb_put w g (8 * b) 8 (8 * a + j) = w (8 * a + j) := fb_put_out (by omega)
theorem put_num {w g : Nat → Int32} {a b : Nat} (hab : ¬ a = b) : kNum (fb_put w g (8 * b) 8) a = kNum w a ∧ kPart (fb_put w g (8 * b) 8) a = kPart w a := by
  refine ⟨put_ne (j := 0) hab (by decide), ?_⟩
  unfold kPart kTag
  rw [put_ne hab (by decide)]
theorem zInvR.put {R : Nat → zRc} {m : Nat} {w : Nat → Int32} (hm : m ≤ 1000) (h : zInvR R m w) {b r q : Nat} (hr1 : 1 ≤ r) (hr : r ≤ m) (hq : q < zParts (R r).2.2.1) (hno : ∀ a, a < 64 → kNum w a = nI r → ¬ kPart w a = nI q) : zInvR R m (fb_put w (zAs R r q) (8 * b) 8) := by
  have hB : zBk9 R m (fb_put w (zAs R r q) (8 * b) 8) b r q := ⟨hr1, hr, hq, fun j hj => put_at hj⟩
  obtain ⟨g1, g2, -⟩ := hB.head h.1
  refine ⟨h.1, fun a ha => ?_, fun a a' ha ha' h1 h2 h3 => ?_⟩
  · by_cases e : a = b
    · subst e; exact Or.inr ⟨r, q, hB⟩
    · rcases h.2.1 a ha with z | ⟨r', q', k1, k2, k3, k4⟩
      · exact Or.inl ((put_num e).1.trans z)
      · exact Or.inr ⟨r', q', k1, k2, k3, fun j hj => (put_ne e hj).trans (k4 j hj)⟩
  · by_cases e : a = b
    · by_cases e' : a' = b
      · rw [e, e']
      · subst e
        rw [g1, (put_num e').1] at h2
        rw [g2, (put_num e').2] at h3
        exact absurd h3.symm (hno a' ha' h2.symm)
    · by_cases e' : a' = b
      · subst e'
        rw [g1, (put_num e).1] at h2
        rw [g2, (put_num e).2] at h3
        exact absurd h3 (hno a ha h2)
      · rw [(put_num e).1] at h1 h2
        rw [(put_num e').1] at h2
        rw [(put_num e).2, (put_num e').2] at h3
        exact h.2.2 a a' ha ha' h1 h2 h3
theorem zInvR.zero {R : Nat → zRc} {m : Nat} {w : Nat → Int32} (h : zInvR R m w) (b : Nat) : zInvR R m (fb_put w (fun _ => nI 0) (8 * b) 8) := by
  have g1 : kNum (fb_put w (fun _ => nI 0) (8 * b) 8) b = nI 0 := put_at (j := 0) (by decide)
  refine ⟨h.1, fun a ha => ?_, fun a a' ha ha' h1 h2 h3 => ?_⟩
  · by_cases e : a = b
    · subst e; exact Or.inl g1
    · rcases h.2.1 a ha with z | ⟨r', q', k1, k2, k3, k4⟩
      · exact Or.inl ((put_num e).1.trans z)
      · exact Or.inr ⟨r', q', k1, k2, k3, fun j hj => (put_ne e hj).trans (k4 j hj)⟩
  · by_cases e : a = b
    · subst e; exact absurd g1 h1
    · by_cases e' : a' = b
      · subst e'; exact absurd (h2.trans g1) h1
      · rw [(put_num e).1] at h1 h2
        rw [(put_num e').1] at h2
        rw [(put_num e).2, (put_num e').2] at h3
        exact h.2.2 a a' ha ha' h1 h2 h3
theorem zInvR.putF {R : Nat → zRc} {m r : Nat} {L : Nat → Bool} (hm : m ≤ 1000) (hr1 : 1 ≤ r) (hr : r ≤ m) : ∀ (f b q : Nat) (w : Nat → Int32) (lf : Int32) (dn : Nat), zInvR R m w → (∀ a, a < 64 → kNum w a = nI r → ∃ q', q' < q ∧ kPart w a = nI q') → zInvR R m (kPutF L (zAs R r) (zParts (R r).2.2.1) f b q w lf dn).2.1
  | 0, _, _, _, _, _, h, _ => h
  | f + 1, b, q, w, lf, dn, h, hq => by
    have hp := zParts_b (h.1 r).2.1
    rw [kPutF]
    split
    · rename_i hlt
      split
      · exact zInvR.putF hm hr1 hr f _ _ _ _ _ h hq
      · split
        · exact h
        · have hI := h.put hm (b := b) hr1 hr hlt (fun a ha h1 h2 => by
            obtain ⟨q', x1, x2⟩ := hq a ha h1
            have := (nI_eq (by omega) (by omega)).mp (x2.symm.trans h2)
            omega)
          refine zInvR.putF hm hr1 hr f _ _ _ _ _ hI (fun a ha h1 => ?_)
          by_cases e : a = b
          · subst e
            have hB : zBk9 R m (fb_put w (zAs R r q) (8 * a) 8) a r q := ⟨hr1, hr, hlt, fun j hj => put_at hj⟩
            exact ⟨q, Nat.lt_succ_self _, (hB.head h.1).2.1⟩
          · rw [(put_num e).1] at h1
            obtain ⟨q', x1, x2⟩ := hq a ha h1
            exact ⟨q', by omega, (put_num e).2.trans x2⟩
    · exact h
theorem zInvR.zapF {R : Nat → zRc} {m : Nat} {mk : (Nat → Int32) → Nat → Bool} : ∀ (f b : Nat) (w : Nat → Int32) (lf : Int32) (dn k : Nat), zInvR R m w → zInvR R m (kZapF mk f b w lf dn k).2.1
  | 0, _, _, _, _, _, h => h
  | f + 1, b, w, lf, dn, k, h => by
    rw [kZapF]
    split
    · split
      · exact h
      · exact zInvR.zapF f _ _ _ _ _ (h.zero b)
    · exact zInvR.zapF f _ _ _ _ _ h
theorem zInv.clean {m : Nat} {w : Nat → Int32} (h : zInv m w) (lf : Int32) (dn : Nat) : zInv m (kClean w lf dn).2.2.1 := by
  obtain ⟨R, hR⟩ := h
  have h1 := hR.zapF (mk := kLeft (kLive w)) 64 0 w lf dn 0
  unfold kClean
  dsimp only
  split
  · exact ⟨R, h1.zapF (mk := kGrave (kLive w)) 64 0 _ _ _ _⟩
  · exact ⟨R, h1⟩
theorem kGr_n {w : Nat → Int32} {m : Nat} (hm : m ≤ 1000) : ∀ n, (∀ b, b < n → ∃ r, r ≤ m ∧ kNum w b = nI r) → ∃ g, g ≤ m ∧ kGr w n = nI g ∧ ∀ b, b < n → ∀ r, r ≤ m → kNum w b = nI r → r ≤ g
  | 0, _ => ⟨0, Nat.zero_le _, rfl, fun b hb => absurd hb (Nat.not_lt_zero _)⟩
  | n + 1, h => by
    obtain ⟨g, g1, g2, g3⟩ := kGr_n hm n (fun b hb => h b (by omega))
    obtain ⟨r, r1, r2⟩ := h n (by omega)
    rw [kGr, g2, r2]
    by_cases q : g < r
    · rw [if_pos ((nI_ltI (by omega) (by omega)).mpr q)]
      refine ⟨r, r1, rfl, fun b hb r' h1 h2 => ?_⟩
      rcases Nat.lt_or_ge b n with z | z
      · have := g3 b z r' h1 h2; omega
      · rw [show b = n by omega, r2] at h2
        exact Nat.le_of_eq ((nI_eq (by omega) (by omega)).mp h2.symm)
    · rw [if_neg (fun z => q ((nI_ltI (by omega) (by omega)).mp z))]
      refine ⟨g, g1, rfl, fun b hb r' h1 h2 => ?_⟩
      rcases Nat.lt_or_ge b n with z | z
      · exact g3 b z r' h1 h2
      · rw [show b = n by omega, r2] at h2
        have := (nI_eq (by omega) (by omega)).mp h2.symm
        omega
theorem zInv.kput {m : Nat} {w : Nat → Int32} (hm : m < 1000) (h : zInv m w) {ky : Int32} {fm n : Nat} {cc : Nat → Int32} (hok : zRok (ky, fm, n, cc)) (lf : Int32) (dn : Nat) : zInv (m + 1) (kPut w lf dn ky fm n cc).2.2.1 := by
  obtain ⟨R, hR⟩ := h
  by_cases hroom : 64 - fb_ct (kLive w) 64 < zParts n
  · rw [kPut_room hroom]
    exact ⟨R, hR.mono (Nat.le_succ m)⟩
  · have hw : ∀ b, b < 64 → ∃ r, r ≤ m ∧ kNum w b = nI r := fun b hb => by
      rcases hR.2.1 b hb with z | ⟨r, q, hk⟩
      · exact ⟨0, Nat.zero_le _, z⟩
      · exact ⟨r, hk.2.1, (hk.head hR.1).1⟩
    obtain ⟨g, g1, g2, g3⟩ := kGr_n (by omega) 64 hw
    let R' : Nat → zRc := fun x => if x = g + 1 then (ky, fm, n, cc) else R x
    have hR' : ∀ x, ¬ x = g + 1 → R' x = R x := fun x hx => if_neg hx
    have hRg : R' (g + 1) = (ky, fm, n, cc) := if_pos rfl
    have hI : zInvR R' (m + 1) w := by
      refine ⟨fun x => ?_, fun b hb => ?_, hR.2.2⟩
      · by_cases e : x = g + 1
        · rw [e, hRg]; exact hok
        · rw [hR' x e]; exact hR.1 x
      · rcases hR.2.1 b hb with z | ⟨r, q, hk⟩
        · exact Or.inl z
        · have hrg := g3 b hb r hk.2.1 (hk.head hR.1).1
          obtain ⟨k1, k2, k3, k4⟩ := hk
          refine Or.inr ⟨r, q, k1, by omega, ?_, fun j hj => ?_⟩
          · rw [hR' r (by omega)]; exact k3
          · rw [k4 j hj]; unfold zAs; rw [hR' r (by omega)]
    have h2 := hI.putF (L := kLive w) (r := g + 1) (by omega) (by omega) (by omega) 64 0 0 w lf dn (fun a ha h1 => by
      obtain ⟨r, r1, r2⟩ := hw a ha
      have := g3 a ha r r1 r2
      have := (nI_eq (by omega) (by omega)).mp (r2.symm.trans h1)
      omega)
    have e : kPutF (kLive w) (zRow (kGr w 64 + nI 1) (zParts n) fm ky n cc) (zParts n) 64 0 0 w lf dn = kPutF (kLive w) (zAs R' (g + 1)) (zParts (R' (g + 1)).2.2.1) 64 0 0 w lf dn := by
      have e1 : zAs R' (g + 1) = zRow (kGr w 64 + nI 1) (zParts n) fm ky n cc := by
        unfold zAs; rw [hRg, g2, nI_add]
      rw [e1, hRg]
    refine ⟨R', ?_⟩
    rw [← e] at h2
    unfold kPut
    rw [if_neg hroom]
    exact h2
theorem zInv.del {m : Nat} {w : Nat → Int32} (hm : m < 1000) (h : zInv m w) (lf : Int32) (dn : Nat) (ky : Int32) : zInv (m + 1) (kDel w lf dn ky).2.2.1 := by
  unfold kDel
  split
  · exact h.kput hm ⟨Nat.le_refl 2, Nat.zero_le _, no_lt0, fun e => absurd (show (2 : Nat) = 1 from e) (by decide)⟩ lf dn
  · exact h.mono (Nat.le_succ m)
theorem zInv.commit {m : Nat} {w : Nat → Int32} (hm : m < 1000) (h : zInv m w) {n : Nat} {T : Nat → Int32} (hn : n ≤ 400) (hT : ∀ j, j < n → zO (T j)) (lf : Int32) (dn : Nat) (ky : Int32) : zInv (m + 1) (kCommit w lf dn ky n T).2.2.1 := by
  unfold kCommit
  split
  · obtain ⟨e1, e2⟩ := zE_ok hn hT
    exact h.kput hm ⟨by show 1 ≤ 2; decide, by show (zE T n).1 ≤ 400; omega, e1, fun _ => e2⟩ lf dn
  · exact h.kput hm ⟨Nat.zero_le _, hn, hT, fun e => absurd (show (0 : Nat) = 1 from e) (by decide)⟩ lf dn
