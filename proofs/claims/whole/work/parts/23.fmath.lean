/-! octets of a long; what is told -/
def zOc (J : Int64) (k : Nat) : Int32 := (((J).toUInt64 >>> ((nI (8 * k)).toInt64.toUInt64 &&& Int64.toUInt64 63)).toInt64).toInt32 &&& nI 255
theorem oc_s : ∀ n, n < 64 → (((nI n).toInt64 &&& 63).toBitVec.smod 64).toNat = n := by decide +kernel
theorem oc_u : ∀ n, n < 64 → (((nI n).toInt64.toUInt64 &&& Int64.toUInt64 63).toBitVec % 64).toNat = n := by decide +kernel
theorem oc_255 : ∀ i, i < 64 → (255 : Int64).toBitVec.getLsbD i = decide (i < 8) := by decide +kernel
theorem oc_tr (x : Int64) {i : Nat} (hi : i < 32) : bt x.toInt32 i = x.toBitVec.getLsbD i := by
  unfold bt
  rw [Int64.toBitVec_toInt32, BitVec.getLsbD_signExtend, if_pos (by omega), decide_eq_true hi, Bool.true_and]
theorem zOc_m (J : Int64) {n : Nat} (hn : n ≤ 56) : (J >>> ((nI n).toInt64 &&& 63) &&& 255).toInt32 = (((J).toUInt64 >>> ((nI n).toInt64.toUInt64 &&& Int64.toUInt64 63)).toInt64).toInt32 &&& nI 255 := b_ext (fun i hi => by
  rw [oc_tr _ hi, b_and, oc_tr _ hi, show bt (nI 255) i = decide (i < 8) from b_255 i, Int64.toBitVec_and, BitVec.getLsbD_and, oc_255 i (by omega)]
  by_cases h : i < 8
  · congr 1
    rw [Int64.toBitVec_shiftRight]
    show (J.toBitVec.sshiftRight (((nI n).toInt64 &&& 63).toBitVec.smod 64).toNat).getLsbD i = (J.toUInt64 >>> ((nI n).toInt64.toUInt64 &&& Int64.toUInt64 63)).toBitVec.getLsbD i
    rw [UInt64.toBitVec_shiftRight, oc_s n (by omega)]
    show _ = (J.toUInt64.toBitVec >>> (((nI n).toInt64.toUInt64 &&& Int64.toUInt64 63).toBitVec % 64).toNat).getLsbD i
    rw [oc_u n (by omega), BitVec.getLsbD_ushiftRight, BitVec.getLsbD_sshiftRight]
    have h1 : ¬ 64 ≤ i := by omega
    have h2 : n + i < 64 := by omega
    simp [h2]
    omega
  · rw [decide_eq_false h, Bool.and_false, Bool.and_false])
def zFeed (T : Nat → Int32) (n : Nat) (J : Int64) : Nat → Nat → Int32
  | 0 => T
  | k + 1 => upd (zFeed T n J k) (n + k) (zOc J k)
theorem zOc_O (J : Int64) (k : Nat) : zO (zOc J k) := zO_of _
theorem zFeed_O {T : Nat → Int32} {n : Nat} (J : Int64) (h : ∀ j, j < n → zO (T j)) : ∀ k j, j < n + k → zO (zFeed T n J k j)
  | 0, j, hj => h j hj
  | k + 1, j, hj => by
    rw [zFeed]
    by_cases e : j = n + k
    · rw [e, upd_at]; exact zOc_O J k
    · rw [upd_ne e]; exact zFeed_O J h k j (by omega)
def zTold (w : Nat → Int32) (on : Bool) (dn n j : Nat) : Int32 :=
  if j = 0 then nI (fb_ct (kText (kLive w) w) 64) else if j = 1 then nI (fb_ct (kLive w) 64) else if j = 2 then nI (64 - fb_ct (kLive w) 64) else if j = 3 then nI (fb_ct (kGrave (kLive w) w) 64) else if j = 4 then kGr w 64 else if j = 5 then nI dn else if j = 6 then bI on else nI n
theorem i_1to8 {x : Int32} (h1 : ¬ x < nI 1) (h8 : ¬ nI 8 < x) : ∃ q : Nat, 1 ≤ q ∧ q ≤ 8 ∧ x = nI q := by
  have h0 : ¬ x < 0 := fun q => h1 (Int32.lt_trans q (by decide))
  obtain ⟨q, hq, e⟩ := nI_of2 (n := 8) (M := nI 8) rfl h0 (Int32.not_lt.mp h8)
  subst e
  refine ⟨q, ?_, hq, rfl⟩
  rcases Nat.eq_zero_or_pos q with z | z
  · subst z; exact absurd (by decide) h1
  · exact z
theorem i_0to {x : Int32} {n : Nat} (hn : n < 1000) (h0 : ¬ x < 0) (h : x ≤ nI n) : ∃ q : Nat, q ≤ n ∧ x = nI q :=
  nI_of2 (M := nI n) (nI_toInt (by omega)) h0 h
theorem i_0lt {x : Int32} {n : Nat} (hn : n < 1000) (h0 : ¬ x < 0) (h : x < nI n) : ∃ q : Nat, q < n ∧ x = nI q := i_nat h0 h (by omega)
theorem zPB_u {w : Nat → Int32} (HU : kUniq w) {B v q : Nat} (hv : v < 64) (hB : ¬ kNum w B = nI 0) (hp : zPB w B q < 64) (hn : kNum w v = kNum w B) (hq : kPart w v = nI q) : zPB w B q = v := by
  obtain ⟨h1, h2⟩ := zPB_at hp
  exact HU _ _ hp hv (by rw [h1]; exact hB) (by rw [h1, hn]) (by rw [h2, hq])
/-- what is at hand, block after block -/
def zHd (w : Nat → Int32) (B zn v q i : Nat) (F : Nat → Int32) : Prop := ∀ j, j < zn → (zPB w B (j / 16) < v ∨ (kNum w v = kNum w B ∧ j / 16 = q ∧ j % 16 < i)) → F j = zGat w B j
theorem zHd_0 {w : Nat → Int32} {B zn v q q' i' : Nat} {F : Nat → Int32} (h : zHd w B zn v q' 0 F) : zHd w B zn v q 0 F := fun j hj hh => h j hj (hh.elim Or.inl (fun z => absurd z.2.2 (Nat.not_lt_zero _)))
theorem zHd_st {w : Nat → Int32} (HU : kUniq w) {B zn v q i ps : Nat} {F : Nat → Int32} (hv : v < 64) (hi : i < 16) (hB : ¬ kNum w B = nI 0) (hz : zn ≤ 16 * ps) (g6 : ∀ q, q < ps → zPB w B q < 64) (hn : kNum w v = kNum w B) (hq : kPart w v = nI q) (hj : 16 * q + i < zn) (h : zHd w B zn v q i F) :
    zHd w B zn v q (i + 1) (upd F (16 * q + i) ((w (8 * v + 4 + i / 4) >>> (nI (8 * (i % 4)) &&& 31)) &&& nI 255)) := fun j hjn hh => by
  by_cases e : j = 16 * q + i
  · subst e
    rw [upd_at, zGat_at hi, zPB_u HU hv hB (g6 q (by omega)) hn hq, shr_255 _ (by omega), Nat.add_assoc]
  · rw [upd_ne e]
    exact h j hjn (hh.elim Or.inl (fun z => Or.inr ⟨z.1, z.2.1, by omega⟩))
theorem zHd_no {w : Nat → Int32} {B zn v q i : Nat} {F : Nat → Int32} (hj : ¬ 16 * q + i < zn) (h : zHd w B zn v q i F) : zHd w B zn v q (i + 1) F := fun j hjn hh =>
  h j hjn (hh.elim Or.inl (fun z => Or.inr ⟨z.1, z.2.1, by omega⟩))
theorem zHd_end {w : Nat → Int32} {B zn v q i : Nat} {F : Nat → Int32} (hv : v < 64) (hq256 : q < 256) (hq : kPart w v = nI q) (hz : zn ≤ 450) (he : 16 ≤ i ∨ ¬ kNum w v = kNum w B) (h : zHd w B zn v q i F) : zHd w B zn (v + 1) 0 0 F := fun j hjn hh => by
  rcases hh with hh | hh
  · rcases Nat.lt_or_ge (zPB w B (j / 16)) v with z | z
    · exact h j hjn (Or.inl z)
    · have e : zPB w B (j / 16) = v := by omega
      obtain ⟨h1, h2⟩ := zPB_at (w := w) (b := B) (q := j / 16) (by omega)
      rw [e] at h1 h2
      have e2 : j / 16 = q := ((nI_eq (by omega) (by omega)).mp (h2.symm.trans hq))
      rcases he with he | he
      · exact h j hjn (Or.inr ⟨h1, e2, by omega⟩)
      · exact absurd h1 he
  · exact absurd hh.2.2 (Nat.not_lt_zero _)
theorem zHd_all {w : Nat → Int32} {B zn v ps : Nat} {F : Nat → Int32} (hv : 64 ≤ v) (hz : zn ≤ 16 * ps) (g6 : ∀ q, q < ps → zPB w B q < 64) (h : zHd w B zn v 0 0 F) : ∀ j, j < zn → F j = zGat w B j := fun j hj => h j hj (Or.inl (by have := g6 (j / 16) (by omega); omega))
theorem zTold_0 {w : Nat → Int32} {on : Bool} {dn n : Nat} : zTold w on dn n 0 = nI (fb_ct (kText (kLive w) w) 64) := by unfold zTold; rw [if_pos rfl]
theorem zTold_1 {w : Nat → Int32} {on : Bool} {dn n : Nat} : zTold w on dn n 1 = nI (fb_ct (kLive w) 64) := by unfold zTold; rw [if_neg (by decide), if_pos rfl]
theorem zTold_2 {w : Nat → Int32} {on : Bool} {dn n : Nat} : zTold w on dn n 2 = nI (64 - fb_ct (kLive w) 64) := by unfold zTold; rw [if_neg (by decide), if_neg (by decide), if_pos rfl]
theorem zTold_3 {w : Nat → Int32} {on : Bool} {dn n : Nat} : zTold w on dn n 3 = nI (fb_ct (kGrave (kLive w) w) 64) := by unfold zTold; rw [if_neg (by decide), if_neg (by decide), if_neg (by decide), if_pos rfl]
theorem zTold_4 {w : Nat → Int32} {on : Bool} {dn n : Nat} : zTold w on dn n 4 = kGr w 64 := by unfold zTold; rw [if_neg (by decide), if_neg (by decide), if_neg (by decide), if_neg (by decide), if_pos rfl]
theorem zTold_5 {w : Nat → Int32} {on : Bool} {dn n : Nat} : zTold w on dn n 5 = nI dn := by unfold zTold; rw [if_neg (by decide), if_neg (by decide), if_neg (by decide), if_neg (by decide), if_neg (by decide), if_pos rfl]
theorem zTold_6 {w : Nat → Int32} {on : Bool} {dn n : Nat} : zTold w on dn n 6 = bI on := by unfold zTold; rw [if_neg (by decide), if_neg (by decide), if_neg (by decide), if_neg (by decide), if_neg (by decide), if_neg (by decide), if_pos rfl]
theorem zTold_7 {w : Nat → Int32} {on : Bool} {dn n : Nat} : zTold w on dn n 7 = nI n := by unfold zTold; rw [if_neg (by decide), if_neg (by decide), if_neg (by decide), if_neg (by decide), if_neg (by decide), if_neg (by decide), if_neg (by decide)]
