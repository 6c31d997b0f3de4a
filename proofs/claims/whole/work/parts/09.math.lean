/-! the numbers that both classes compute -/
/-- an octet: an int of 0 .. 255 -/
def zO (x : Int32) : Prop := ∃ y : Nat, y < 256 ∧ x = nI y
theorem zO_and {x : Int32} (h : zO x) : x &&& nI 255 = x := by
  obtain ⟨y, hy, rfl⟩ := h
  rw [pk_andN (n := y) (by omega) (m := nI 255) 8 rfl, Nat.mod_eq_of_lt hy]
theorem zO_of (x : Int32) : zO (x &&& nI 255) := by
  obtain ⟨j, h, e⟩ := pk_andE x (m := nI 255) 8 rfl
  exact ⟨j, h, e⟩
theorem zO_0 : zO (nI 0) := ⟨0, by decide, rfl⟩
/-- octet i of a row of n; 0 behind -/
def zat (f : Nat → Int32) (n i : Nat) : Int32 := if i < n then f i else nI 0
theorem zat_in {f : Nat → Int32} {n i : Nat} (h : i < n) : zat f n i = f i := if_pos h
theorem zat_out {f : Nat → Int32} {n i : Nat} (h : n ≤ i) : zat f n i = nI 0 := if_neg (Nat.not_lt.mpr h)
def zfour (f : Nat → Int32) (n i : Nat) : Int32 := ((zat f n i ||| (zat f n (i + 1) <<< (nI 8 &&& 31))) ||| (zat f n (i + 2) <<< (nI 16 &&& 31))) ||| (zat f n (i + 3) <<< (nI 24 &&& 31))
/-- k octets from d before on, behind n -/
def zrep (f : Nat → Int32) (n d : Nat) : Nat → Nat → Int32
  | 0 => f
  | k + 1 => upd (zrep f n d k) (n + k) (zrep f n d k (n + k - d))
theorem upd_at {f : Nat → Int32} {k : Nat} {x : Int32} : upd f k x k = x := pk_us
theorem upd_ne {f : Nat → Int32} {k j : Nat} {x : Int32} (h : j ≠ k) : upd f k x j = f j := pk_un h
theorem zrep_low (f : Nat → Int32) (n d : Nat) : ∀ (k j : Nat), j < n → zrep f n d k j = f j
  | 0, _, _ => rfl
  | k + 1, j, h => by rw [zrep, upd_ne (by omega), zrep_low f n d k j h]
theorem zrep_O (f : Nat → Int32) {n d : Nat} (hd : 0 < d) (hdn : d ≤ n) (h : ∀ j, j < n → zO (f j)) : ∀ (k j : Nat), j < n + k → zO (zrep f n d k j)
  | 0, j, hj => h j hj
  | k + 1, j, hj => by
    rw [zrep]
    by_cases e : j = n + k
    · rw [e, upd_at]; exact zrep_O f hd hdn h k _ (by omega)
    · rw [upd_ne e]; exact zrep_O f hd hdn h k j (by omega)
/-! the disk: words by block -/
def kNum (w : Nat → Int32) (b : Nat) : Int32 := w (8 * b)
def kTag (w : Nat → Int32) (b : Nat) : Int32 := w (8 * b + 1)
def kPart (w : Nat → Int32) (b : Nat) : Int32 := kTag w b &&& nI 255
def kParts (w : Nat → Int32) (b : Nat) : Int32 := (kTag w b >>> (nI 8 &&& 31)) &&& nI 255
def kForm (w : Nat → Int32) (b : Nat) : Int32 := kTag w b >>> (nI 16 &&& 31)
def kKey (w : Nat → Int32) (b : Nat) : Int32 := w (8 * b + 2)
def kOct (w : Nat → Int32) (b : Nat) : Int32 := w (8 * b + 3)
def kGr (w : Nat → Int32) : Nat → Int32
  | 0 => nI 0
  | n + 1 => if kGr w n < kNum w n then kNum w n else kGr w n
def zAny (q : Nat → Bool) : Nat → Bool
  | 0 => false
  | n + 1 => zAny q n || q n
theorem zAny_t {q : Nat → Bool} : ∀ {n : Nat}, zAny q n = true ↔ ∃ k, k < n ∧ q k = true
  | 0 => by simp [zAny]
  | n + 1 => by
    rw [zAny, Bool.or_eq_true, zAny_t]
    constructor
    · rintro (⟨k, h1, h2⟩ | h)
      · exact ⟨k, by omega, h2⟩
      · exact ⟨n, by omega, h⟩
    · rintro ⟨k, h1, h2⟩
      rcases Nat.lt_or_ge k n with h | h
      · exact Or.inl ⟨k, h, h2⟩
      · exact Or.inr (by rw [show n = k by omega]; exact h2)
theorem zAny_f {q : Nat → Bool} {n : Nat} (h : ∀ k, k < n → q k = false) : zAny q n = false := by
  rcases Bool.eq_false_or_eq_true (zAny q n) with e | e
  · obtain ⟨k, h1, h2⟩ := zAny_t.mp e
    rw [h k h1] at h2; cases h2
  · exact e
/-- the first place below n, or n -/
def zFst (q : Nat → Bool) : Nat → Nat
  | 0 => 0
  | n + 1 => if zFst q n < n then zFst q n else if q n then n else n + 1
theorem zFst_le (q : Nat → Bool) : ∀ n, zFst q n ≤ n
  | 0 => Nat.le_refl _
  | n + 1 => by
    have := zFst_le q n
    rw [zFst]; split
    · omega
    · split <;> omega
theorem zFst_is {q : Nat → Bool} : ∀ {n k : Nat}, k < n → q k = true → (∀ j, j < k → q j = false) → zFst q n = k
  | 0, k, h, _, _ => absurd h (Nat.not_lt_zero _)
  | n + 1, k, h, hk, hj => by
    rw [zFst]
    rcases Nat.lt_or_ge k n with q1 | q1
    · rw [zFst_is q1 hk hj, if_pos q1]
    · have e : k = n := by omega
      subst e
      have hn : zFst q k = k := by
        have h1 := zFst_le q k
        rcases Nat.lt_or_ge (zFst q k) k with h2 | h2
        · have : ∀ m, m ≤ k → zFst q m = m := by
            intro m
            induction m with
            | zero => intro _; rfl
            | succ m ih => intro hm; rw [zFst, ih (by omega), if_neg (Nat.lt_irrefl _), hj m (by omega)]; rfl
          exact this k (Nat.le_refl _)
        · omega
      rw [hn, if_neg (Nat.lt_irrefl _), hk]; rfl
theorem zFst_no {q : Nat → Bool} : ∀ {n : Nat}, (∀ j, j < n → q j = false) → zFst q n = n
  | 0, _ => rfl
  | n + 1, h => by rw [zFst, zFst_no (fun j hj => h j (by omega)), if_neg (Nat.lt_irrefl _), h n (by omega)]; rfl
theorem zFst_yes {q : Nat → Bool} : ∀ {n : Nat}, zFst q n < n → q (zFst q n) = true
  | 0, h => absurd h (Nat.not_lt_zero _)
  | n + 1, h => by
    have h1 := zFst_le q n
    rw [zFst] at h ⊢
    split
    · rename_i h2; exact zFst_yes h2
    · rename_i h2
      rw [if_neg h2] at h
      split
      · assumption
      · rename_i h3; rw [if_neg h3] at h; exact absurd h (Nat.lt_irrefl _)
theorem zFst_bel {q : Nat → Bool} : ∀ {n j : Nat}, j < zFst q n → q j = false
  | 0, j, h => absurd h (Nat.not_lt_zero _)
  | n + 1, j, h => by
    have h1 := zFst_le q n
    rw [zFst] at h
    split at h
    · exact zFst_bel h
    · rename_i h2
      have e : zFst q n = n := by omega
      split at h
      · exact zFst_bel (n := n) (by omega)
      · rename_i h3
        rcases Nat.lt_or_ge j n with h4 | h4
        · exact zFst_bel (n := n) (by omega)
        · rw [show j = n by omega]; exact Bool.eq_false_iff.mpr h3
/-- a first place as an int; -1 where there is none below n -/
def zFI (k n : Nat) : Int32 := if k < n then nI k else (-1)
def kSame (w : Nat → Int32) (b k : Nat) : Bool := decide (kNum w k = kNum w b)
def kAll (w : Nat → Int32) (b : Nat) : Bool := decide (nI (fb_ct (kSame w b) 64) = kParts w b)
def kWh (w : Nat → Int32) (b : Nat) : Bool := !decide (kNum w b = nI 0) && kAll w b
def kOd (w : Nat → Int32) (b k : Nat) : Bool := kWh w k && (decide (kKey w k = kKey w b) && decide (kNum w b < kNum w k))
def kOut (w : Nat → Int32) (b : Nat) : Bool := zAny (kOd w b) 64
def kLive (w : Nat → Int32) (b : Nat) : Bool := kWh w b && !kOut w b
def kText (L : Nat → Bool) (w : Nat → Int32) (b : Nat) : Bool := L b && (decide (kPart w b = nI 0) && !decide (kForm w b = nI 2))
def kGrave (L : Nat → Bool) (w : Nat → Int32) (b : Nat) : Bool := L b && decide (kForm w b = nI 2)
def kLeft (L : Nat → Bool) (w : Nat → Int32) (b : Nat) : Bool := !L b && !decide (kNum w b = nI 0)
def kIs (L : Nat → Bool) (w : Nat → Int32) (key : Int32) (b : Nat) : Bool := L b && (decide (kPart w b = nI 0) && decide (kKey w b = key))
def kTB (L : Nat → Bool) (w : Nat → Int32) (key : Int32) (b : Nat) : Bool := kText L w b && decide (kKey w b < key)
def kBelow (L : Nat → Bool) (w : Nat → Int32) (key : Int32) : Nat := fb_ct (kTB L w key) 64
def kRank (L : Nat → Bool) (w : Nat → Int32) (r : Int32) (b : Nat) : Bool := kText L w b && decide (nI (kBelow L w (kKey w b)) = r)
def kAt (w : Nat → Int32) (r q : Int32) (b : Nat) : Bool := decide (kNum w b = r) && decide (kPart w b = q)
def kDec (x : Int32) : Int32 := x - bI (decide (nI 0 < x))
theorem kDec_p {x : Int32} (h : nI 0 < x) : x - nI 1 = kDec x := by rw [kDec, decide_eq_true h]; rfl
theorem i_sub0 (x : Int32) : x - nI 0 = x := by show x - 0 = x; exact Int32.sub_zero x
theorem kDec_n {x : Int32} (h : ¬ nI 0 < x) : x = kDec x := by rw [kDec, decide_eq_false h]; exact (i_sub0 x).symm
theorem kct_y {q : Nat → Bool} {k : Nat} (h : q k = true) : fb_ct q k + 1 = fb_ct q (k + 1) := by rw [fb_ct_succ, h]; rfl
theorem kct_n {q : Nat → Bool} {k : Nat} (h : q k = false) : fb_ct q k = fb_ct q (k + 1) := by rw [fb_ct_succ, h]; rfl
theorem zFI_y {q : Nat → Bool} {n k : Nat} (hk : k < n) (h : q k = true) (hj : ∀ j, j < k → q j = false) : nI k = zFI (zFst q n) n := by rw [zFst_is hk h hj, zFI, if_pos hk]
theorem zFI_n {q : Nat → Bool} {n : Nat} (hj : ∀ j, j < n → q j = false) : (-1 : Int32) = zFI (zFst q n) n := by rw [zFst_no hj, zFI, if_neg (Nat.lt_irrefl _)]
theorem lt_step {q : Nat → Bool} {k : Nat} (h : ∀ j, j < k → q j = false) (hk : q k = false) : ∀ j, j < k + 1 → q j = false := fun j hj => by
  rcases Nat.lt_or_ge j k with e | e
  · exact h j e
  · rw [show j = k by omega]; exact hk
theorem arr_step {F : Nat → Int32} {g : Nat → Int32} {k : Nat} {x : Int32} (h : ∀ j, j < k → F j = g j) (hx : x = g k) : ∀ j, j < k + 1 → upd F k x j = g j := fun j hj => by
  by_cases e : j = k
  · rw [e, upd_at]; exact hx
  · rw [upd_ne e]; exact h j (by omega)
theorem no_lt0 {p : Nat → Prop} : ∀ j, j < 0 → p j := fun j h => absurd h (Nat.not_lt_zero j)
theorem b_and_f1 {x y : Bool} (h : x = false) : (x && y) = false := by rw [h]; rfl
theorem b_and_f2 {x y : Bool} (h : y = false) : (x && y) = false := by rw [h]; exact Bool.and_false x
theorem b_and_t {x y : Bool} (h : x = true) (h2 : y = true) : (x && y) = true := by rw [h, h2]; rfl
theorem d_t {c : Prop} [Decidable c] (h : c) : decide c = true := decide_eq_true h
theorem d_f {c : Prop} [Decidable c] (h : ¬ c) : decide c = false := decide_eq_false h
theorem nd_f {c : Prop} [Decidable c] (h : c) : (!decide c) = false := by rw [decide_eq_true h]; rfl
theorem nd_t {c : Prop} [Decidable c] (h : ¬ c) : (!decide c) = true := by rw [decide_eq_false h]; rfl
theorem n_f {x : Bool} (h : x = true) : (!x) = false := by rw [h]; rfl
theorem n_t {x : Bool} (h : x = false) : (!x) = true := by rw [h]; rfl
