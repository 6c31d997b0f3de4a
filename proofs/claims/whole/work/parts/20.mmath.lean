/-! ===== Int32 by its bits: bt x i ===== -/
def bt (x : Int32) (i : Nat) : Bool := x.toBitVec.getLsbD i
theorem b_ext {x y : Int32} (h : ∀ i, i < 32 → bt x i = bt y i) : x = y := Int32.toBitVec_inj.mp (BitVec.eq_of_getLsbD_eq (fun i hi => h i hi))
theorem b_or (x y : Int32) (i : Nat) : bt (x ||| y) i = (bt x i || bt y i) := by unfold bt; rw [Int32.toBitVec_or, BitVec.getLsbD_or]
theorem b_and (x y : Int32) (i : Nat) : bt (x &&& y) i = (bt x i && bt y i) := by unfold bt; rw [Int32.toBitVec_and, BitVec.getLsbD_and]
theorem b_xor (x y : Int32) (i : Nat) : bt (x ^^^ y) i = (bt x i ^^ bt y i) := by unfold bt; rw [Int32.toBitVec_xor, BitVec.getLsbD_xor]
theorem b_big {x : Int32} {i : Nat} (h : 32 ≤ i) : bt x i = false := BitVec.getLsbD_of_ge _ _ h
theorem b_255 (i : Nat) : bt 255 i = decide (i < 8) := by
  rcases Nat.lt_or_ge i 32 with h | h
  · exact (by decide +kernel : ∀ i, i < 32 → bt 255 i = decide (i < 8)) i h
  · rw [b_big h, decide_eq_false (by omega)]
theorem b_65535 (i : Nat) : bt 65535 i = decide (i < 16) := by
  rcases Nat.lt_or_ge i 32 with h | h
  · exact (by decide +kernel : ∀ i, i < 32 → bt 65535 i = decide (i < 16)) i h
  · rw [b_big h, decide_eq_false (by omega)]
theorem b_m1 : ∀ i, i < 32 → bt (-1) i = true := by decide +kernel
theorem b_0 (i : Nat) : bt 0 i = false := BitVec.getLsbD_zero
theorem s_l : ∀ n, n < 32 → ((nI n &&& 31).toBitVec.smod 32).toNat = n := by decide +kernel
theorem s_u : ∀ n, n < 32 → (((nI n).toUInt32 &&& Int32.toUInt32 31).toBitVec % 32).toNat = n := by decide +kernel
theorem b_shl (n : Nat) (hn : n < 32) (x : Int32) {i : Nat} (hi : i < 32) : bt (x <<< (nI n &&& 31)) i = (decide (n ≤ i) && bt x (i - n)) := by
  unfold bt
  rw [Int32.toBitVec_shiftLeft]
  show (x.toBitVec <<< ((nI n &&& 31).toBitVec.smod 32).toNat).getLsbD i = _
  rw [s_l n hn, BitVec.getLsbD_shiftLeft]
  rcases Nat.lt_or_ge i n with h | h
  · simp [h, Nat.not_le.mpr h]
  · simp [hi, h, Nat.not_lt.mpr h]
theorem b_ushr (n : Nat) (hn : n < 32) (x : Int32) (i : Nat) : bt ((x.toUInt32 >>> ((nI n).toUInt32 &&& Int32.toUInt32 31)).toInt32) i = bt x (n + i) := by
  show (x.toUInt32 >>> ((nI n).toUInt32 &&& Int32.toUInt32 31)).toBitVec.getLsbD i = x.toUInt32.toBitVec.getLsbD (n + i)
  rw [UInt32.toBitVec_shiftRight]
  show (x.toUInt32.toBitVec >>> (((nI n).toUInt32 &&& Int32.toUInt32 31).toBitVec % 32).toNat).getLsbD i = _
  rw [s_u n hn, BitVec.getLsbD_ushiftRight]
theorem b_sshr (n : Nat) (hn : n < 32) (x : Int32) {i : Nat} (hi : i < 32) : bt (x >>> (nI n &&& 31)) i = if n + i < 32 then bt x (n + i) else bt x 31 := by
  unfold bt
  rw [Int32.toBitVec_shiftRight]
  show (x.toBitVec.sshiftRight ((nI n &&& 31).toBitVec.smod 32).toNat).getLsbD i = _
  rw [s_l n hn, BitVec.getLsbD_sshiftRight, BitVec.msb_eq_getLsbD_last]
  simp [hi]
theorem b_shl8 (x : Int32) {i : Nat} (hi : i < 32) : bt (x <<< ((8 : Int32) &&& 31)) i = (decide (8 ≤ i) && bt x (i - 8)) := b_shl 8 (by omega) x hi
theorem b_shl16 (x : Int32) {i : Nat} (hi : i < 32) : bt (x <<< ((16 : Int32) &&& 31)) i = (decide (16 ≤ i) && bt x (i - 16)) := b_shl 16 (by omega) x hi
theorem b_shl24 (x : Int32) {i : Nat} (hi : i < 32) : bt (x <<< ((24 : Int32) &&& 31)) i = (decide (24 ≤ i) && bt x (i - 24)) := b_shl 24 (by omega) x hi
theorem b_sshr8 (x : Int32) {i : Nat} (hi : i < 32) : bt (x >>> ((8 : Int32) &&& 31)) i = if 8 + i < 32 then bt x (8 + i) else bt x 31 := b_sshr 8 (by omega) x hi
theorem shl_or (x y : Int32) {n : Nat} (hn : n < 32) : (x ||| y) <<< (nI n &&& 31) = (x <<< (nI n &&& 31)) ||| (y <<< (nI n &&& 31)) := b_ext (fun i hi => by
  rw [b_shl n hn _ hi, b_or, b_or, b_shl n hn _ hi, b_shl n hn _ hi, Bool.and_or_distrib_left])
theorem shl_shl (x : Int32) {a b : Nat} (h : a + b < 32) : (x <<< (nI a &&& 31)) <<< (nI b &&& 31) = x <<< (nI (a + b) &&& 31) := b_ext (fun i hi => by
  rw [b_shl b (by omega) _ hi, b_shl (a + b) h _ hi]
  by_cases q : b ≤ i
  · rw [b_shl a (by omega) _ (show i - b < 32 by omega)]
    by_cases q2 : a + b ≤ i
    · rw [decide_eq_true q, decide_eq_true q2, decide_eq_true (show a ≤ i - b by omega), show i - b - a = i - (a + b) by omega]; rfl
    · rw [decide_eq_true q, decide_eq_false q2, decide_eq_false (show ¬ a ≤ i - b by omega)]; rfl
  · rw [decide_eq_false q, decide_eq_false (show ¬ a + b ≤ i by omega)]; rfl)
theorem or_zero (x : Int32) : nI 0 ||| x = x := b_ext (fun i _ => by rw [b_or, show bt (nI 0) i = false from b_0 i, Bool.false_or])
theorem zero_shl {n : Nat} (hn : n < 32) : nI 0 <<< (nI n &&& 31) = nI 0 := b_ext (fun i hi => by rw [b_shl n hn _ hi, show ∀ j, bt (nI 0) j = false from b_0, show bt (nI 0) i = false from b_0 i, Bool.and_false])
def zw (M : Nat → Int32) (n i : Nat) : Nat → Int32
  | 0 => nI 0
  | c + 1 => (zw M n i c <<< (nI 8 &&& 31)) ||| zat M n (i + (3 - c))
theorem zw_4 (M : Nat → Int32) (n i : Nat) : zw M n i 4 = zfour M n i := by
  show ((((((((nI 0 <<< (nI 8 &&& 31)) ||| zat M n (i + 3)) <<< (nI 8 &&& 31)) ||| zat M n (i + 2)) <<< (nI 8 &&& 31)) ||| zat M n (i + 1)) <<< (nI 8 &&& 31)) ||| zat M n (i + 0)) = _
  rw [zero_shl (by decide), or_zero, shl_or _ _ (by decide), shl_or _ _ (by decide), shl_or _ _ (by decide), shl_shl _ (by decide), shl_shl _ (by decide), shl_shl _ (by decide)]
  unfold zfour
  show _ = ((zat M n i ||| _) ||| _) ||| _
  apply b_ext
  intro j hj
  simp only [b_or, Nat.add_zero]
  show _
  generalize bt (zat M n i) j = a
  generalize bt (zat M n (i + 1) <<< (nI 8 &&& 31)) j = b
  generalize e : bt (zat M n (i + 2) <<< (nI 16 &&& 31)) j = c
  generalize e2 : bt (zat M n (i + 3) <<< (nI 24 &&& 31)) j = d
  cases a <;> cases b <;> cases c <;> cases d <;> rfl
theorem zw_k {c : Nat} (h : c < 4) : (nI 3 - nI c) + Int32.ofInt (-1) = nI 3 - nI (c + 1) := by
  rcases (show c = 0 ∨ c = 1 ∨ c = 2 ∨ c = 3 by omega) with rfl | rfl | rfl | rfl <;> rfl
/-! an octet's bits: a flag's rest -/
theorem zO_sh {x : Int32} (h : zO x) {b : Nat} (hb : b ≤ 8) : x >>> (nI b &&& 31) = nI (vN x / 2 ^ b) := by
  obtain ⟨e, h2⟩ := zO_vN h
  rw [e]
  have := pk_shrN (n := vN x) (by omega) (nI b &&& 31) b (s_l b (by omega))
  rw [this, show vN (nI (vN x)) = vN x from vN_nI (by omega)]
theorem zO_bit {x : Int32} (h : zO x) {b : Nat} (hb : b ≤ 8) : (x >>> (nI b &&& 31)) &&& nI 1 = nI (vN x / 2 ^ b % 2) := by
  rw [zO_sh h hb]
  have h2 := (zO_vN h).2
  have h3 : vN x / 2 ^ b ≤ vN x := Nat.div_le_self _ _
  exact pk_andN (n := vN x / 2 ^ b) (by omega) (m := nI 1) 1 rfl
theorem zO_b1 {x : Int32} (h : zO x) {b : Nat} (hb : b ≤ 8) : (x >>> (nI b &&& 31)) &&& nI 1 = nI 1 ↔ vN x / 2 ^ b % 2 = 1 := by
  rw [zO_bit h hb, nI_eq (by omega) (by omega)]
theorem zO_s0 {x : Int32} (h : zO x) {b : Nat} (hb : b ≤ 8) : x >>> (nI b &&& 31) = nI 0 ↔ vN x / 2 ^ b = 0 := by
  have h2 := (zO_vN h).2
  have h3 : vN x / 2 ^ b ≤ vN x := Nat.div_le_self _ _
  rw [zO_sh h hb, nI_eq (by omega) (by omega)]
theorem zO_top {x : Int32} (h : zO x) : x >>> (nI 8 &&& 31) = nI 0 := (zO_s0 h (Nat.le_refl 8)).mpr (Nat.div_eq_of_lt (zO_vN h).2)
theorem zO_next {x : Int32} (h : zO x) {b : Nat} (hb : b < 8) (h0 : ¬ (x >>> (nI b &&& 31)) &&& nI 1 = nI 1) : x >>> (nI b &&& 31) = nI 0 ↔ x >>> (nI (b + 1) &&& 31) = nI 0 := by
  rw [zO_s0 h (by omega), zO_s0 h (by omega)]
  rw [zO_b1 h (by omega)] at h0
  rw [Nat.pow_succ, ← Nat.div_div_eq_div_mul]
  omega
theorem zO_set {x : Int32} (h : zO x) {b : Nat} (hb : b < 8) (h0 : (x >>> (nI b &&& 31)) &&& nI 1 = nI 1) : ¬ x >>> (nI b &&& 31) = nI 0 := fun q => by
  rw [q] at h0; exact absurd h0 (by decide)
theorem dF_skip {t : Nat → Int32} {n f b g m : Nat} {o : Nat → Int32} (hg : zO (t g)) (hb0 : 0 < b) (hb : b < 8) (h0 : ¬ (t g >>> (nI b &&& 31)) &&& nI 1 = nI 1) : dF t n (f + 1) n b g m o = dF t n (f + 1) n (b + 1) g m o := by
  rw [dF, dF, if_neg (Nat.lt_irrefl n), if_neg (Nat.lt_irrefl n)]
  by_cases hn : n = 0
  · rw [if_pos hn, if_pos hn]
  · rw [if_neg hn, if_neg hn]
    by_cases q : t g >>> (nI b &&& 31) = nI 0
    · rw [if_neg (fun h => h.elim (fun h => by omega) (fun h => h q)), if_neg (fun h => h.elim (fun h => by omega) (fun h => h ((zO_next hg hb h0).mp q)))]
    · rw [if_pos (Or.inr q), if_pos (Or.inr (fun h => q ((zO_next hg hb h0).mpr h)))]
def zPlM (k : Nat) (pl : Int32) : Int32 := if k = 0 then pl else zPl k
theorem zPlM_s (k : Nat) (pl : Int32) : zPlM (k + 1) pl = nI k := by unfold zPlM; rw [if_neg (Nat.succ_ne_zero k), zPl_s]
theorem i_pos {x : Int32} (h : ¬ x < 0) (h2 : x ≤ 0) : x = nI 0 := Int32.le_antisymm h2 (Int32.not_lt.mp h)
theorem i_pos2 {x : Int32} (h2 : ¬ x ≤ 0) : ¬ x = nI 0 := fun e => h2 (by rw [e]; exact Int32.le_refl 0)
def kUn (on : Bool) (lf : Int32) : Int32 := cond on lf (-1)
/-- no number on the disk is less than 0 -/
def kPos (w : Nat → Int32) : Prop := ∀ b, b < 64 → ¬ kNum w b < 0
theorem kWh_0 {w : Nat → Int32} {b : Nat} (h : kNum w b = nI 0) : kWh w b = false := b_and_f1 (nd_f h)
theorem kLive_0 {w : Nat → Int32} {b : Nat} (h : kNum w b = nI 0) : kLive w b = false := b_and_f1 (kWh_0 h)
theorem kDec_n0 {x : Int32} (h : ¬ nI 0 < x) : x - nI 0 = kDec x := by rw [kDec, decide_eq_false h]; rfl
theorem fb_put4 (w g : Nat → Int32) (a : Nat) : upd (upd (upd (upd w a (g 0)) (a + 1) (g 1)) (a + 2) (g 2)) (a + 3) (g 3) = fb_put w g a 4 := by
  rw [← fb_put_succ w g a 3, ← fb_put_succ w g a 2, ← fb_put_succ w g a 1, ← fb_put_succ w g a 0, fb_put_0]; rfl
theorem zRow_4 {rn : Int32} {ps fm : Nat} {ky : Int32} {n : Nat} {cc : Nat → Int32} {q j : Nat} : zRow rn ps fm ky n cc q (4 + j) = zfour cc n (16 * q + 4 * j) := by
  unfold zRow
  rw [if_neg (by omega), if_neg (by omega), if_neg (by omega), if_neg (by omega), show 4 + j - 4 = j by omega]
theorem shr_255 (x : Int32) {n : Nat} (hn : n ≤ 24) : (x >>> (nI n &&& 31)) &&& nI 255 = (x.toUInt32 >>> ((nI n).toUInt32 &&& Int32.toUInt32 31)).toInt32 &&& nI 255 := b_ext (fun i hi => by
  rw [b_and, b_and, b_sshr n (by omega) x hi, b_ushr n (by omega), show bt (nI 255) i = decide (i < 8) from b_255 i]
  by_cases h : i < 8
  · rw [if_pos (by omega)]
  · rw [decide_eq_false h, Bool.and_false, Bool.and_false])
/-- a number and a part are in one block alone -/
def kUniq (w : Nat → Int32) : Prop := ∀ a b, a < 64 → b < 64 → ¬ kNum w a = nI 0 → kNum w a = kNum w b → kPart w a = kPart w b → a = b
/-- coded texts can be read -/
def kRead (w : Nat → Int32) : Prop := ∀ b, b < 64 → kText (kLive w) w b = true → kForm w b = nI 1 → (zD (zGat w b) (vN (kOct w b))).1 = 0
theorem kPart_nat (w : Nat → Int32) (b : Nat) : ∃ q : Nat, q < 256 ∧ kPart w b = nI q := by
  obtain ⟨j, h, e⟩ := pk_andE (kTag w b) (m := nI 255) 8 rfl
  exact ⟨j, h, e⟩
theorem kText_num {L : Nat → Bool} {w : Nat → Int32} {b : Nat} (hL : L = kLive w) (h : kText L w b = true) : ¬ kNum w b = nI 0 := fun e => by
  unfold kText at h; rw [hL, kLive_0 e, Bool.false_and] at h; exact Bool.false_ne_true h
theorem zPB_at {w : Nat → Int32} {b q : Nat} (h : zPB w b q < 64) : kNum w (zPB w b q) = kNum w b ∧ kPart w (zPB w b q) = nI q := by
  have h1 : kAt w (kNum w b) (nI q) (zPB w b q) = true := zFst_yes h
  unfold kAt at h1
  rw [Bool.and_eq_true, decide_eq_true_eq, decide_eq_true_eq] at h1
  exact h1
theorem fb_free {L : Nat → Bool} {b q ps : Nat} (hb : b ≤ 64) (hq : q < ps) (h : ps + (b - fb_ct L b) ≤ (64 - fb_ct L 64) + q) : b < 64 := by
  rcases Nat.lt_or_ge b 64 with h1 | h1
  · exact h1
  · have : b = 64 := by omega
    subst this; omega
theorem kIs_form2 {L : Nat → Bool} {w : Nat → Int32} {b : Nat} (h : kForm w b = nI 2) : kText L w b = false := b_and_f2 (b_and_f2 (nd_f h))
theorem kIs_text {L : Nat → Bool} {w : Nat → Int32} {ky : Int32} {b : Nat} (h : kIs L w ky b = true) (h2 : ¬ kForm w b = nI 2) : kText L w b = true := by
  unfold kIs at h; unfold kText
  rw [Bool.and_eq_true, Bool.and_eq_true] at h
  rw [h.1, h.2.1, decide_eq_false h2]; rfl
