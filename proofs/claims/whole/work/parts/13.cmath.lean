/-! the coder's numbers: a row t of n octets -/
def zMis (t : Nat → Int32) (i d j : Nat) : Bool := !decide (t (i + j) = t (i + j - d))
def zCap (n i : Nat) : Nat := min 258 (n - i)
/-- how many octets from i on are as those from d before on -/
def zRun (t : Nat → Int32) (n i d : Nat) : Nat := zFst (zMis t i d) (zCap n i)
theorem zRun_le (t : Nat → Int32) (n i d : Nat) : zRun t n i d ≤ zCap n i := zFst_le _ _
/-- the best of the distances 1 .. k: distance, length -/
def zBst (t : Nat → Int32) (n i : Nat) : Nat → Nat × Nat
  | 0 => (0, 0)
  | k + 1 => if (zBst t n i k).2 < zRun t n i (k + 1) then (k + 1, zRun t n i (k + 1)) else zBst t n i k
def zB (t : Nat → Int32) (n i : Nat) : Nat × Nat := zBst t n i (min 256 i)
theorem zBst_le (t : Nat → Int32) (n i : Nat) : ∀ k, (zBst t n i k).2 ≤ zCap n i ∧ (zBst t n i k).1 ≤ k ∧ (0 < (zBst t n i k).2 → 0 < (zBst t n i k).1)
  | 0 => ⟨Nat.zero_le _, Nat.le_refl _, fun h => absurd h (Nat.lt_irrefl _)⟩
  | k + 1 => by
    have h := zBst_le t n i k
    rw [zBst]; split
    · exact ⟨zRun_le _ _ _ _, Nat.le_refl _, fun _ => Nat.succ_pos _⟩
    · exact ⟨h.1, Nat.le_succ_of_le h.2.1, h.2.2⟩
theorem zBst_stop {t : Nat → Int32} {n i k : Nat} (h : zCap n i ≤ (zBst t n i k).2) : ∀ j, zBst t n i (k + j) = zBst t n i k
  | 0 => rfl
  | j + 1 => by
    have ih := zBst_stop h j
    show zBst t n i ((k + j) + 1) = _
    rw [zBst, ih, if_neg]
    have := zRun_le t n i (k + j + 1)
    omega
theorem zB_in (t : Nat → Int32) (n i : Nat) : (zB t n i).2 ≤ zCap n i ∧ (zB t n i).1 ≤ 256 ∧ (zB t n i).1 ≤ i ∧ (0 < (zB t n i).2 → 0 < (zB t n i).1) := by
  have h := zBst_le t n i (min 256 i)
  refine ⟨h.1, ?_, ?_, h.2.2⟩
  · exact Nat.le_trans h.2.1 (Nat.min_le_left _ _)
  · exact Nat.le_trans h.2.1 (Nat.min_le_right _ _)
theorem zcap_le (n i : Nat) : zCap n i ≤ 258 ∧ zCap n i ≤ n - i := ⟨Nat.min_le_left _ _, Nat.min_le_right _ _⟩
/-- the class's answer: the best distance where three octets or more are alike, else 0 -/
def zBD (t : Nat → Int32) (n i : Nat) : Nat := if 3 ≤ (zB t n i).2 then (zB t n i).1 else 0
def zLo (t : Nat → Int32) (n i k : Nat) : Nat := max 2 (zBst t n i k).2
def zBk (t : Nat → Int32) (n i k : Nat) : Nat := if 3 ≤ (zBst t n i k).2 then (zBst t n i k).1 else 0
theorem zBk_y {t : Nat → Int32} {n i k : Nat} (h : zLo t n i k < zRun t n i (k + 1)) : zLo t n i (k + 1) = zRun t n i (k + 1) ∧ zBk t n i (k + 1) = k + 1 := by
  have h1 : (zBst t n i k).2 < zRun t n i (k + 1) := by unfold zLo at h; omega
  unfold zLo at h
  unfold zLo zBk
  rw [zBst, if_pos h1]
  have h3 : 2 < zRun t n i (k + 1) := by omega
  refine ⟨?_, if_pos h3⟩
  show max 2 (zRun t n i (k + 1)) = _
  omega
theorem zBk_n {t : Nat → Int32} {n i k : Nat} (h : zRun t n i (k + 1) ≤ zLo t n i k) : zLo t n i (k + 1) = zLo t n i k ∧ zBk t n i (k + 1) = zBk t n i k := by
  unfold zLo at h
  by_cases h1 : (zBst t n i k).2 < zRun t n i (k + 1)
  · have h2 : zRun t n i (k + 1) ≤ 2 := by omega
    unfold zLo zBk
    rw [zBst, if_pos h1]
    refine ⟨?_, ?_⟩
    · show max 2 (zRun t n i (k + 1)) = _
      omega
    · rw [if_neg (show ¬ 3 ≤ (k + 1, zRun t n i (k + 1)).2 from by show ¬ 3 ≤ zRun t n i (k + 1); omega), if_neg (by omega)]
  · unfold zLo zBk
    rw [zBst, if_neg h1]
    exact ⟨rfl, rfl⟩
theorem zBk_end {t : Nat → Int32} {n i k : Nat} (hk : k ≤ min 256 i) (h : k = min 256 i ∨ zCap n i ≤ zLo t n i k) : zBk t n i k = zBD t n i := by
  rcases h with h | h
  · rw [h]; rfl
  · by_cases h2 : zCap n i ≤ (zBst t n i k).2
    · have e : zB t n i = zBst t n i k := by
        unfold zB
        have := zBst_stop h2 (min 256 i - k)
        rwa [Nat.add_sub_cancel' hk] at this
      unfold zBk zBD; rw [e]
    · unfold zLo at h
      have h3 := (zBst_le t n i k).1
      have h4 := (zB_in t n i).1
      unfold zBk zBD
      rw [if_neg (by omega), if_neg (by omega)]
theorem zBD_0 {t : Nat → Int32} {n i : Nat} : zBD t n i = 0 ↔ ¬ 3 ≤ (zB t n i).2 := by
  unfold zBD
  have := zB_in t n i
  split <;> omega
theorem zBD_p {t : Nat → Int32} {n i : Nat} (h : 3 ≤ (zB t n i).2) : zBD t n i = (zB t n i).1 := if_pos h
theorem zBst_run (t : Nat → Int32) (n i : Nat) : ∀ k, 0 < (zBst t n i k).2 → zRun t n i (zBst t n i k).1 = (zBst t n i k).2
  | 0, h => absurd h (Nat.lt_irrefl _)
  | k + 1, h => by
    rw [zBst] at h ⊢
    split
    · rfl
    · rename_i q; rw [if_neg q] at h; exact zBst_run t n i k h
/-- the coder: fuel, place, how many are out, the flag's place, items, what is out -/
def eF (t : Nat → Int32) (n : Nat) : Nat → Nat → Nat → Nat → Nat → (Nat → Int32) → Nat × (Nat → Int32)
  | 0, _, m, _, _, o => (m, o)
  | f + 1, i, m, g, k, o =>
    if i < n then
      if 3 ≤ (zB t n i).2 then
        eF t n f (i + (zB t n i).2) ((if k % 8 = 0 then m + 1 else m) + 2) (if k % 8 = 0 then m else g) (k + 1)
          (upd (upd (if k % 8 = 0 then upd o m (nI 0) else o) (if k % 8 = 0 then m + 1 else m) (nI ((zB t n i).1 - 1))) ((if k % 8 = 0 then m + 1 else m) + 1) (nI ((zB t n i).2 - 3)))
      else
        eF t n f (i + 1) ((if k % 8 = 0 then m + 1 else m) + 1) (if k % 8 = 0 then m else g) (k + 1)
          (upd (upd (if k % 8 = 0 then upd o m (nI 0) else o) (if k % 8 = 0 then m else g) ((if k % 8 = 0 then upd o m (nI 0) else o) (if k % 8 = 0 then m else g) ||| (nI 1 <<< (nI (k % 8) &&& 31)))) (if k % 8 = 0 then m + 1 else m) (t i))
    else (m, o)
def zE (t : Nat → Int32) (n : Nat) : Nat × (Nat → Int32) := eF t n n 0 0 0 0 (fun _ => nI 0)
theorem eF_end {t : Nat → Int32} {n f i m g k : Nat} {o : Nat → Int32} (h : n ≤ i) : eF t n f i m g k o = (m, o) := by
  cases f with
  | zero => rfl
  | succ f => rw [eF, if_neg (by omega)]
theorem eF_row0 {t : Nat → Int32} {n f i m g k : Nat} {o : Nat → Int32} (hi : i < n) (hk : k % 8 = 0) (hb : 3 ≤ (zB t n i).2) :
    eF t n (f + 1) i m g k o = eF t n f (i + (zB t n i).2) (m + 3) m (k + 1) (upd (upd (upd o m (nI 0)) (m + 1) (nI ((zB t n i).1 - 1))) (m + 2) (nI ((zB t n i).2 - 3))) := by
  rw [eF, if_pos hi, if_pos hb, if_pos hk, if_pos hk, if_pos hk]
theorem eF_row1 {t : Nat → Int32} {n f i m g k : Nat} {o : Nat → Int32} (hi : i < n) (hk : ¬ k % 8 = 0) (hb : 3 ≤ (zB t n i).2) :
    eF t n (f + 1) i m g k o = eF t n f (i + (zB t n i).2) (m + 2) g (k + 1) (upd (upd o m (nI ((zB t n i).1 - 1))) (m + 1) (nI ((zB t n i).2 - 3))) := by
  rw [eF, if_pos hi, if_pos hb, if_neg hk, if_neg hk, if_neg hk]
theorem eF_one0 {t : Nat → Int32} {n f i m g k : Nat} {o : Nat → Int32} (hi : i < n) (hk : k % 8 = 0) (hb : ¬ 3 ≤ (zB t n i).2) :
    eF t n (f + 1) i m g k o = eF t n f (i + 1) (m + 2) m (k + 1) (upd (upd (upd o m (nI 0)) m (upd o m (nI 0) m ||| (nI 1 <<< (nI (k % 8) &&& 31)))) (m + 1) (t i)) := by
  rw [eF, if_pos hi, if_neg hb, if_pos hk, if_pos hk, if_pos hk]
theorem eF_one1 {t : Nat → Int32} {n f i m g k : Nat} {o : Nat → Int32} (hi : i < n) (hk : ¬ k % 8 = 0) (hb : ¬ 3 ≤ (zB t n i).2) :
    eF t n (f + 1) i m g k o = eF t n f (i + 1) (m + 1) g (k + 1) (upd (upd o g (o g ||| (nI 1 <<< (nI (k % 8) &&& 31)))) m (t i)) := by
  rw [eF, if_pos hi, if_neg hb, if_neg hk, if_neg hk, if_neg hk]
theorem upd_cong {f g : Nat → Int32} {m k : Nat} {x y : Int32} (h : ∀ j, j < m → f j = g j) (e : x = y) : ∀ j, j < m → upd f k x j = upd g k y j := fun j hj => by
  by_cases q : j = k
  · rw [q, upd_at, upd_at, e]
  · rw [upd_ne q, upd_ne q, h j hj]
theorem upd_new {f g : Nat → Int32} {m : Nat} {x y : Int32} (h : ∀ j, j < m → f j = g j) (e : x = y) : ∀ j, j < m + 1 → upd f m x j = upd g m y j := fun j hj => by
  by_cases q : j = m
  · rw [q, upd_at, upd_at, e]
  · rw [upd_ne q, upd_ne q, h j (by omega)]
theorem zrep_cong {f g : Nat → Int32} {n d : Nat} (hd : 0 < d) (hdn : d ≤ n) (h : ∀ j, j < n → f j = g j) : ∀ (k j : Nat), j < n + k → zrep f n d k j = zrep g n d k j
  | 0, j, hj => h j hj
  | k + 1, j, hj => by
    rw [zrep, zrep]
    by_cases e : j = n + k
    · rw [e, upd_at, upd_at, zrep_cong hd hdn h k _ (by omega)]
    · rw [upd_ne e, upd_ne e, zrep_cong hd hdn h k j (by omega)]
def vN (x : Int32) : Nat := x.toNatClampNeg
theorem zO_vN {x : Int32} (h : zO x) : x = nI (vN x) ∧ vN x < 256 := by
  obtain ⟨y, hy, rfl⟩ := h
  have : vN (nI y) = y := nI_clamp (by omega)
  rw [this]; exact ⟨rfl, hy⟩
/-- the reader: fuel, place, bit (8: a flag is due), the flag's place, how many are out, what is out; 0 or the fault's place + 1 -/
def dF (t : Nat → Int32) (n : Nat) : Nat → Nat → Nat → Nat → Nat → (Nat → Int32) → Nat × Nat × (Nat → Int32)
  | 0, _, _, _, m, o => (0, m, o)
  | f + 1, i, b, g, m, o =>
    if i < n then
      if b = 8 then dF t n f (i + 1) 0 i m o
      else if (t g >>> (nI b &&& 31)) &&& nI 1 = nI 1 then
        if 400 < m + 1 then (i + 1, m, o) else dF t n f (i + 1) (b + 1) g (m + 1) (upd o m (t i))
      else if n ≤ i + 1 then (n + 1, m, o)
      else if m < vN (t i) + 1 ∨ 400 < m + (vN (t (i + 1)) + 3) then (i + 1, m, o)
      else dF t n f (i + 2) (b + 1) g (m + (vN (t (i + 1)) + 3)) (zrep o m (vN (t i) + 1) (vN (t (i + 1)) + 3))
    else if n = 0 then (0, m, o)
    else if b = 0 ∨ ¬ t g >>> (nI b &&& 31) = nI 0 then (g + 1, m, o) else (0, m, o)
def zD (t : Nat → Int32) (n : Nat) : Nat × Nat × (Nat → Int32) := dF t n (n + 1) 0 8 0 0 (fun _ => nI 0)
def zPl (k : Nat) : Int32 := if k = 0 then (-1) else nI (k - 1)
theorem zPl_0 : zPl 0 = (-1) := rfl
theorem zPl_s (k : Nat) : zPl (k + 1) = nI k := by unfold zPl; rw [if_neg (Nat.succ_ne_zero k)]; rfl
theorem zmin {x y : Nat} (hx : x < 2 ^ 31) (hy : y < 2 ^ 31) : (if nI y < nI x then nI y else nI x) = nI (min x y) := by
  by_cases h : y < x
  · rw [if_pos ((nI_ltI hy hx).mpr h)]; congr 1; omega
  · rw [if_neg (fun q => h ((nI_ltI hy hx).mp q))]; congr 1; omega
theorem zBD_pos {t : Nat → Int32} {n i : Nat} (h : 0 < zBD t n i) : 3 ≤ (zB t n i).2 := by
  rcases Nat.lt_or_ge (zB t n i).2 3 with q | q
  · have := zBD_0.mpr (show ¬ 3 ≤ (zB t n i).2 by omega); omega
  · exact q
theorem nI_nm1 {x : Nat} (h : x < 2 ^ 31) : ¬ nI x = (-1) := fun e => absurd (show nI x < 0 by rw [e]; decide) (nI_pos h)
theorem dF_flag {t : Nat → Int32} {n f i g m : Nat} {o : Nat → Int32} (hi : i < n) : dF t n (f + 1) i 8 g m o = dF t n f (i + 1) 0 i m o := by
  rw [dF, if_pos hi, if_pos rfl]
theorem dF_oneB {t : Nat → Int32} {n f i b g m : Nat} {o : Nat → Int32} (hi : i < n) (hb : ¬ b = 8) (h : (t g >>> (nI b &&& 31)) &&& nI 1 = nI 1) (hm : 400 < m + 1) : dF t n (f + 1) i b g m o = (i + 1, m, o) := by
  rw [dF, if_pos hi, if_neg hb, if_pos h, if_pos hm]
theorem dF_one {t : Nat → Int32} {n f i b g m : Nat} {o : Nat → Int32} (hi : i < n) (hb : ¬ b = 8) (h : (t g >>> (nI b &&& 31)) &&& nI 1 = nI 1) (hm : ¬ 400 < m + 1) : dF t n (f + 1) i b g m o = dF t n f (i + 1) (b + 1) g (m + 1) (upd o m (t i)) := by
  rw [dF, if_pos hi, if_neg hb, if_pos h, if_neg hm]
theorem dF_half {t : Nat → Int32} {n f i b g m : Nat} {o : Nat → Int32} (hi : i < n) (hb : ¬ b = 8) (h : ¬ (t g >>> (nI b &&& 31)) &&& nI 1 = nI 1) (hm : n ≤ i + 1) : dF t n (f + 1) i b g m o = (n + 1, m, o) := by
  rw [dF, if_pos hi, if_neg hb, if_neg h, if_pos hm]
theorem dF_rowB {t : Nat → Int32} {n f i b g m : Nat} {o : Nat → Int32} (hi : i < n) (hb : ¬ b = 8) (h : ¬ (t g >>> (nI b &&& 31)) &&& nI 1 = nI 1) (hm : ¬ n ≤ i + 1) (hq : m < vN (t i) + 1 ∨ 400 < m + (vN (t (i + 1)) + 3)) : dF t n (f + 1) i b g m o = (i + 1, m, o) := by
  rw [dF, if_pos hi, if_neg hb, if_neg h, if_neg hm, if_pos hq]
theorem dF_row {t : Nat → Int32} {n f i b g m : Nat} {o : Nat → Int32} (hi : i < n) (hb : ¬ b = 8) (h : ¬ (t g >>> (nI b &&& 31)) &&& nI 1 = nI 1) (hm : ¬ n ≤ i + 1) (hq : ¬ (m < vN (t i) + 1 ∨ 400 < m + (vN (t (i + 1)) + 3))) : dF t n (f + 1) i b g m o = dF t n f (i + 2) (b + 1) g (m + (vN (t (i + 1)) + 3)) (zrep o m (vN (t i) + 1) (vN (t (i + 1)) + 3)) := by
  rw [dF, if_pos hi, if_neg hb, if_neg h, if_neg hm, if_neg hq]
theorem dF_end0 {t : Nat → Int32} {f i b g m : Nat} {o : Nat → Int32} : dF t 0 (f + 1) i b g m o = (0, m, o) := by
  rw [dF, if_neg (Nat.not_lt_zero _), if_pos rfl]
theorem dF_endB {t : Nat → Int32} {n f i b g m : Nat} {o : Nat → Int32} (hi : n ≤ i) (hn : 0 < n) (h : b = 0 ∨ ¬ t g >>> (nI b &&& 31) = nI 0) : dF t n (f + 1) i b g m o = (g + 1, m, o) := by
  rw [dF, if_neg (by omega), if_neg (by omega), if_pos h]
theorem dF_endG {t : Nat → Int32} {n f i b g m : Nat} {o : Nat → Int32} (hi : n ≤ i) (h : ¬ (b = 0 ∨ ¬ t g >>> (nI b &&& 31) = nI 0)) : dF t n (f + 1) i b g m o = (0, m, o) := by
  rw [dF, if_neg (by omega)]
  split
  · rfl
  · first | rfl | rw [if_neg h]
theorem arr_O {F : Nat → Int32} {m : Nat} {x : Int32} (h : ∀ j, j < m → zO (F j)) (hx : zO x) : ∀ j, j < m + 1 → zO (upd F m x j) := fun j hj => by
  by_cases e : j = m
  · rw [e, upd_at]; exact hx
  · rw [upd_ne e]; exact h j (by omega)
theorem zBD_le (t : Nat → Int32) (n i : Nat) : zBD t n i ≤ 256 ∧ zBD t n i ≤ i := by
  have := zB_in t n i
  unfold zBD
  split
  · exact ⟨this.2.1, this.2.2.1⟩
  · omega
