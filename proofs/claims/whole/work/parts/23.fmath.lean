/-! octets of a long; what is told -/
def zOc (J : Int64) (k : Nat) : Int32 := (((J).toUInt64 >>> ((nI (8 * k)).toInt64.toUInt64 &&& Int64.toUInt64 63)).toInt64).toInt32 &&& nI 255
theorem oc_s : ∀ n, n < 64 → (((nI n).toInt64 &&& 63).toBitVec.smod 64).toNat = n := by decide +kernel
theorem oc_u : ∀ n, n < 64 → (((nI n).toInt64.toUInt64 &&& Int64.toUInt64 63).toBitVec % 64).toNat = n := by decide +kernel
theorem oc_255 : ∀ i, i < 64 → (255 : Int64).toBitVec.getLsbD i = decide (i < 8) := by decide +kernel
theorem oc_tr (x : Int64) {i : Nat} (hi : i < 32) : bt x.toInt32 i = x.toBitVec.getLsbD i := by
  unfold bt
  rw [Int64.toBitVec_toInt32, BitVec.getLsbD_signExtend, if_pos (by omega), decide_eq_true hi, Bool.true_and]
theorem zOc_m (J : Int64) {n : Nat} (hn : n ≤ 56) : (J >>> ((nI n).toInt64 &&& 63) &&& 255).toInt32 = (((J).toUInt64 >>> ((nI n).toInt64.toUInt64 &&& Int64.toUInt64 63)).toInt64).toInt32 &&& nI 255 := b_ext (fun i hi => by
  rw [oc_tr _ hi, b_and, oc_tr _ hi, show bt (nI 255) i = decide (i < 8) from b_255 i, Int64.toBitVec_and, BitVec.getLsbD_and, oc_255 i (by omega)]
  by_cases h : i < 8
  · congr 1
    rw [Int64.toBitVec_shiftRight]
    show (J.toBitVec.sshiftRight (((nI n).toInt64 &&& 63).toBitVec.smod 64).toNat).getLsbD i = (J.toUInt64 >>> ((nI n).toInt64.toUInt64 &&& Int64.toUInt64 63)).toBitVec.getLsbD i
    rw [UInt64.toBitVec_shiftRight, oc_s n (by omega)]
    show _ = (J.toUInt64.toBitVec >>> (((nI n).toInt64.toUInt64 &&& Int64.toUInt64 63).toBitVec % 64).toNat).getLsbD i
    rw [oc_u n (by omega), BitVec.getLsbD_ushiftRight, BitVec.getLsbD_sshiftRight]
    have h1 : ¬ 64 ≤ i := by omega
    have h2 : n + i < 64 := by omega
    simp [h2]
    omega
  · rw [decide_eq_false h, Bool.and_false, Bool.and_false])
def zFeed (T : Nat → Int32) (n : Nat) (J : Int64) : Nat → Nat → Int32
  | 0 => T
  | k + 1 => upd (zFeed T n J k) (n + k) (zOc J k)
theorem zOc_O (J : Int64) (k : Nat) : zO (zOc J k) := zO_of _
theorem zFeed_O {T : Nat → Int32} {n : Nat} (J : Int64) (h : ∀ j, j < n → zO (T j)) : ∀ k j, j < n + k → zO (zFeed T n J k j)
  | 0, j, hj => h j hj
  | k + 1, j, hj => by
    rw [zFeed]
    by_cases e : j = n + k
    · rw [e, upd_at]; exact zOc_O J k
    · rw [upd_ne e]; exact zFeed_O J h k j (by omega)
def zTold (w : Nat → Int32) (on : Bool) (dn n j : Nat) : Int32 :=
  if j = 0 then nI (fb_ct (kText (kLive w) w) 64) else if j = 1 then nI (fb_ct (kLive w) 64) else if j = 2 then nI (64 - fb_ct (kLive w) 64) else if j = 3 then nI (fb_ct (kGrave (kLive w) w) 64) else if j = 4 then kGr w 64 else if j = 5 then nI dn else if j = 6 then bI on else nI n
theorem i_1to8 {x : Int32} (h1 : ¬ x < nI 1) (h8 : ¬ nI 8 < x) : ∃ q : Nat, 1 ≤ q ∧ q ≤ 8 ∧ x = nI q := by
  have h0 : ¬ x < 0 := fun q => h1 (Int32.lt_trans q (by decide))
  obtain ⟨q, hq, e⟩ := nI_of2 (n := 8) (M := nI 8) rfl h0 (Int32.not_lt.mp h8)
  subst e
  refine ⟨q, ?_, hq, rfl⟩
  rcases Nat.eq_zero_or_pos q with z | z
  · subst z; exact absurd (by decide) h1
  · exact z
theorem i_0to {x : Int32} {n : Nat} (hn : n < 1000) (h0 : ¬ x < 0) (h : x ≤ nI n) : ∃ q : Nat, q ≤ n ∧ x = nI q :=
  nI_of2 (M := nI n) (nI_toInt (by omega)) h0 h
theorem i_0lt {x : Int32} {n : Nat} (hn : n < 1000) (h0 : ¬ x < 0) (h : x < nI n) : ∃ q : Nat, q < n ∧ x = nI q := i_nat h0 h (by omega)
