/-! what the coder says depends on the octets of the row alone -/
theorem zFst_cong {q r : Nat → Bool} : ∀ {n : Nat}, (∀ j, j < n → q j = r j) → zFst q n = zFst r n
  | 0, _ => rfl
  | n + 1, h => by rw [zFst, zFst, zFst_cong (fun j hj => h j (by omega)), h n (by omega)]
theorem zRun_cong {t v : Nat → Int32} {n i d : Nat} (hi : i < n) (h : ∀ j, j < n → t j = v j) : zRun t n i d = zRun v n i d := by
  unfold zRun
  refine zFst_cong (fun j hj => ?_)
  have := zcap_le n i
  unfold zMis
  rw [h (i + j) (by omega), h (i + j - d) (by omega)]
theorem zBst_cong {t v : Nat → Int32} {n i : Nat} (hi : i < n) (h : ∀ j, j < n → t j = v j) : ∀ k, zBst t n i k = zBst v n i k
  | 0 => rfl
  | k + 1 => by rw [zBst, zBst, zBst_cong hi h k, zRun_cong hi h]
theorem eF_cong {t v : Nat → Int32} {n : Nat} (h : ∀ j, j < n → t j = v j) : ∀ f i m g k o, eF t n f i m g k o = eF v n f i m g k o
  | 0, _, _, _, _, _ => rfl
  | f + 1, i, m, g, k, o => by
    rw [eF, eF]
    by_cases hi : i < n
    · have e : zB t n i = zB v n i := zBst_cong hi h _
      rw [if_pos hi, if_pos hi, e, h i hi]
      split <;> exact eF_cong h _ _ _ _ _ _
    · rw [if_neg hi, if_neg hi]
theorem zE_cong {t v : Nat → Int32} {n : Nat} (h : ∀ j, j < n → t j = v j) : zE t n = zE v n := eF_cong h _ _ _ _ _ _
theorem dF_cong {t v : Nat → Int32} {n : Nat} (h : ∀ j, j < n → t j = v j) : ∀ f i b g m o, (0 < n → g < n) → dF t n f i b g m o = dF v n f i b g m o
  | 0, _, _, _, _, _, _ => rfl
  | f + 1, i, b, g, m, o, hg => by
    rw [dF, dF]
    by_cases hi : i < n
    · have e := h g (hg (by omega))
      rw [if_pos hi, if_pos hi, e, h i hi]
      by_cases h8 : b = 8
      · rw [if_pos h8, if_pos h8]; exact dF_cong h _ _ _ _ _ _ (fun _ => hi)
      · rw [if_neg h8, if_neg h8]
        by_cases h1 : (v g >>> (nI b &&& 31)) &&& nI 1 = nI 1
        · rw [if_pos h1, if_pos h1]
          split
          · rfl
          · exact dF_cong h _ _ _ _ _ _ hg
        · rw [if_neg h1, if_neg h1]
          by_cases h2 : n ≤ i + 1
          · rw [if_pos h2, if_pos h2]
          · rw [if_neg h2, if_neg h2, h (i + 1) (by omega)]
            split
            · rfl
            · exact dF_cong h _ _ _ _ _ _ hg
    · rw [if_neg hi, if_neg hi]
      by_cases hn : n = 0
      · rw [if_pos hn, if_pos hn]
      · rw [if_neg hn, if_neg hn, h g (hg (by omega))]
theorem zD_cong {t v : Nat → Int32} {n : Nat} (h : ∀ j, j < n → t j = v j) : zD t n = zD v n := dF_cong h _ _ _ _ _ _ (fun h => h)
theorem zat_cong {f g : Nat → Int32} {n : Nat} (h : ∀ j, j < n → f j = g j) (i : Nat) : zat f n i = zat g n i := by
  by_cases q : i < n
  · rw [zat_in q, zat_in q, h i q]
  · rw [zat_out (by omega), zat_out (by omega)]
theorem zfour_cong {f g : Nat → Int32} {n : Nat} (h : ∀ j, j < n → f j = g j) (i : Nat) : zfour f n i = zfour g n i := by
  unfold zfour; rw [zat_cong h, zat_cong h, zat_cong h, zat_cong h]
/-! a record's rows, and how they are put -/
def zParts (n : Nat) : Nat := if n ≤ 16 then 1 else (n + 15) / 16
def zRow (rn : Int32) (ps fm : Nat) (ky : Int32) (n : Nat) (cc : Nat → Int32) (q j : Nat) : Int32 :=
  if j = 0 then rn else if j = 1 then nI (q + 256 * ps + 65536 * fm) else if j = 2 then ky else if j = 3 then nI n else zfour cc n (16 * q + 4 * (j - 4))
theorem zRow_cong {rn : Int32} {ps fm : Nat} {ky : Int32} {n : Nat} {f g : Nat → Int32} (h : ∀ j, j < n → f j = g j) (q : Nat) : zRow rn ps fm ky n f q = zRow rn ps fm ky n g q := by
  funext j; unfold zRow; rw [zfour_cong h]
/-- fuel, block, part, words, writes left, writes done -/
def kPutF (L : Nat → Bool) (rw : Nat → Nat → Int32) (ps : Nat) : Nat → Nat → Nat → (Nat → Int32) → Int32 → Nat → Bool × (Nat → Int32) × Int32 × Nat
  | 0, _, _, w, lf, dn => (true, w, lf, dn)
  | f + 1, b, q, w, lf, dn => if q < ps then (if L b = true then kPutF L rw ps f (b + 1) q w lf dn else if lf = nI 0 then (false, w, lf, dn) else kPutF L rw ps f (b + 1) (q + 1) (fb_put w (rw q) (8 * b) 8) (kDec lf) (dn + 1)) else (true, w, lf, dn)
theorem kPutF_end {L : Nat → Bool} {rw : Nat → Nat → Int32} {ps f b q : Nat} {w : Nat → Int32} {lf : Int32} {dn : Nat} (h : ps ≤ q) : kPutF L rw ps f b q w lf dn = (true, w, lf, dn) := by
  cases f with
  | zero => rfl
  | succ f => rw [kPutF, if_neg (by omega)]
theorem kPutF_live {L : Nat → Bool} {rw : Nat → Nat → Int32} {ps f b q : Nat} {w : Nat → Int32} {lf : Int32} {dn : Nat} (h : q < ps) (hL : L b = true) : kPutF L rw ps (f + 1) b q w lf dn = kPutF L rw ps f (b + 1) q w lf dn := by
  rw [kPutF, if_pos h, if_pos hL]
theorem kPutF_off {L : Nat → Bool} {rw : Nat → Nat → Int32} {ps f b q : Nat} {w : Nat → Int32} {lf : Int32} {dn : Nat} (h : q < ps) (hL : L b = false) (hz : lf = nI 0) : kPutF L rw ps (f + 1) b q w lf dn = (false, w, lf, dn) := by
  rw [kPutF, if_pos h, if_neg (by rw [hL]; exact Bool.false_ne_true), if_pos hz]
theorem kPutF_put {L : Nat → Bool} {rw : Nat → Nat → Int32} {ps f b q : Nat} {w : Nat → Int32} {lf : Int32} {dn : Nat} (h : q < ps) (hL : L b = false) (hz : ¬ lf = nI 0) : kPutF L rw ps (f + 1) b q w lf dn = kPutF L rw ps f (b + 1) (q + 1) (fb_put w (rw q) (8 * b) 8) (kDec lf) (dn + 1) := by
  rw [kPutF, if_pos h, if_neg (by rw [hL]; exact Bool.false_ne_true), if_neg hz]
/-- answer, power, words, writes left, writes done -/
def kPut (w : Nat → Int32) (lf : Int32) (dn : Nat) (ky : Int32) (fm n : Nat) (cc : Nat → Int32) : Int32 × Bool × (Nat → Int32) × Int32 × Nat :=
  if 64 - fb_ct (kLive w) 64 < zParts n then ((-3), true, w, lf, dn)
  else
    let z := kPutF (kLive w) (zRow (kGr w 64 + nI 1) (zParts n) fm ky n cc) (zParts n) 64 0 0 w lf dn
    (if z.1 = true then kGr w 64 + nI 1 else (-4), z.1, z.2.1, z.2.2.1, z.2.2.2)
theorem kPut_room {w : Nat → Int32} {lf : Int32} {dn : Nat} {ky : Int32} {fm n : Nat} {cc : Nat → Int32} (h : 64 - fb_ct (kLive w) 64 < zParts n) : kPut w lf dn ky fm n cc = ((-3), true, w, lf, dn) := if_pos h
theorem kPut_go {w : Nat → Int32} {lf : Int32} {dn : Nat} {ky : Int32} {fm n : Nat} {cc : Nat → Int32} {z1 : Bool} {z2 : Nat → Int32} {z3 : Int32} {z4 : Nat} (h : zParts n ≤ 64 - fb_ct (kLive w) 64)
    (hz : kPutF (kLive w) (zRow (kGr w 64 + nI 1) (zParts n) fm ky n cc) (zParts n) 64 0 0 w lf dn = (z1, z2, z3, z4)) : kPut w lf dn ky fm n cc = (if z1 = true then kGr w 64 + nI 1 else (-4), z1, z2, z3, z4) := by
  unfold kPut; rw [if_neg (by omega), hz]
theorem kPut_cong {w : Nat → Int32} {lf : Int32} {dn : Nat} {ky : Int32} {fm n : Nat} {f g : Nat → Int32} (h : ∀ j, j < n → f j = g j) : kPut w lf dn ky fm n f = kPut w lf dn ky fm n g := by
  unfold kPut
  rw [show zRow (kGr w 64 + nI 1) (zParts n) fm ky n f = zRow (kGr w 64 + nI 1) (zParts n) fm ky n g from funext (fun q => zRow_cong h q)]
def kCommit (w : Nat → Int32) (lf : Int32) (dn : Nat) (ky : Int32) (n : Nat) (T : Nat → Int32) : Int32 × Bool × (Nat → Int32) × Int32 × Nat :=
  if (zE T n).1 < n then kPut w lf dn ky 1 (zE T n).1 (zE T n).2 else kPut w lf dn ky 0 n T
/-- fuel, block, words, writes left, writes done, how many became 0 -/
def kZapF (mk : (Nat → Int32) → Nat → Bool) : Nat → Nat → (Nat → Int32) → Int32 → Nat → Nat → Bool × (Nat → Int32) × Int32 × Nat × Nat
  | 0, _, w, lf, dn, k => (true, w, lf, dn, k)
  | f + 1, b, w, lf, dn, k => if mk w b = true then (if lf = nI 0 then (false, w, lf, dn, k) else kZapF mk f (b + 1) (fb_put w (fun _ => nI 0) (8 * b) 8) (kDec lf) (dn + 1) (k + 1)) else kZapF mk f (b + 1) w lf dn k
theorem kZapF_no {mk : (Nat → Int32) → Nat → Bool} {f b : Nat} {w : Nat → Int32} {lf : Int32} {dn k : Nat} (h : mk w b = false) : kZapF mk (f + 1) b w lf dn k = kZapF mk f (b + 1) w lf dn k := by
  rw [kZapF, if_neg (by rw [h]; exact Bool.false_ne_true)]
theorem kZapF_off {mk : (Nat → Int32) → Nat → Bool} {f b : Nat} {w : Nat → Int32} {lf : Int32} {dn k : Nat} (h : mk w b = true) (hz : lf = nI 0) : kZapF mk (f + 1) b w lf dn k = (false, w, lf, dn, k) := by
  rw [kZapF, if_pos h, if_pos hz]
theorem kZapF_do {mk : (Nat → Int32) → Nat → Bool} {f b : Nat} {w : Nat → Int32} {lf : Int32} {dn k : Nat} (h : mk w b = true) (hz : ¬ lf = nI 0) : kZapF mk (f + 1) b w lf dn k = kZapF mk f (b + 1) (fb_put w (fun _ => nI 0) (8 * b) 8) (kDec lf) (dn + 1) (k + 1) := by
  rw [kZapF, if_pos h, if_neg hz]
def kClean (w : Nat → Int32) (lf : Int32) (dn : Nat) : Int32 × Bool × (Nat → Int32) × Int32 × Nat :=
  let y := kZapF (kLeft (kLive w)) 64 0 w lf dn 0
  if y.1 = true then
    let z := kZapF (kGrave (kLive w)) 64 0 y.2.1 y.2.2.1 y.2.2.2.1 y.2.2.2.2
    (if z.1 = true then nI z.2.2.2.2 else (-4), z.1, z.2.1, z.2.2.1, z.2.2.2.1)
  else ((-4), false, y.2.1, y.2.2.1, y.2.2.2.1)
theorem kClean_1 {w : Nat → Int32} {lf : Int32} {dn : Nat} {y2 : Nat → Int32} {y3 : Int32} {y4 y5 : Nat} (h : kZapF (kLeft (kLive w)) 64 0 w lf dn 0 = (false, y2, y3, y4, y5)) : kClean w lf dn = ((-4), false, y2, y3, y4) := by
  unfold kClean; rw [h]; rfl
theorem kClean_2 {w : Nat → Int32} {lf : Int32} {dn : Nat} {y2 : Nat → Int32} {y3 : Int32} {y4 y5 : Nat} {z1 : Bool} {z2 : Nat → Int32} {z3 : Int32} {z4 z5 : Nat} (h : kZapF (kLeft (kLive w)) 64 0 w lf dn 0 = (true, y2, y3, y4, y5)) (h2 : kZapF (kGrave (kLive w)) 64 0 y2 y3 y4 y5 = (z1, z2, z3, z4, z5)) : kClean w lf dn = (if z1 = true then nI z5 else (-4), z1, z2, z3, z4) := by
  unfold kClean; rw [h]; simp only [if_true]; rw [h2]
/-- octet k of the record whose first block is b -/
def zPB (w : Nat → Int32) (b q : Nat) : Nat := zFst (kAt w (kNum w b) (nI q)) 64
def zGat (w : Nat → Int32) (b k : Nat) : Int32 := ((w (8 * zPB w b (k / 16) + (4 + k % 16 / 4))).toUInt32 >>> ((nI (8 * (k % 16 % 4))).toUInt32 &&& Int32.toUInt32 31)).toInt32 &&& nI 255
def kNo (w : Nat → Int32) (ky : Int32) : Int32 :=
  if zFst (kIs (kLive w) w ky) 64 < 64 then (if kGrave (kLive w) w (zFst (kIs (kLive w) w ky) 64) = true then -(kNum w (zFst (kIs (kLive w) w ky) 64)) else kNum w (zFst (kIs (kLive w) w ky) 64)) else (-2)
def kKth (w : Nat → Int32) (r : Int32) : Int32 := if zFst (kRank (kLive w) w r) 64 < 64 then kKey w (zFst (kRank (kLive w) w r) 64) else nI 0
theorem zGat_at {w : Nat → Int32} {b q i : Nat} (hi : i < 16) : zGat w b (16 * q + i) = ((w (8 * zPB w b q + (4 + i / 4))).toUInt32 >>> ((nI (8 * (i % 4))).toUInt32 &&& Int32.toUInt32 31)).toInt32 &&& nI 255 := by
  unfold zGat
  rw [show (16 * q + i) / 16 = q by omega, show (16 * q + i) % 16 = i by omega]
theorem zGat_O (w : Nat → Int32) (b k : Nat) : zO (zGat w b k) := zO_of _
theorem zFI_t {k n : Nat} (h : k < n) : zFI k n = nI k := if_pos h
theorem zFI_f {k n : Nat} (h : ¬ k < n) : zFI k n = (-1) := if_neg h
