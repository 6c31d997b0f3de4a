/-! what the coder makes can be read without a fault -/
theorem fl_set : ∀ b, b < 8 → ∀ y, y < 2 ^ b → nI y ||| (nI 1 <<< (nI b &&& 31)) = nI (y + 2 ^ b) := by decide +kernel
theorem pw_le : ∀ b, b < 8 → 2 ^ b ≤ 128 ∧ 0 < 2 ^ b ∧ 2 ^ (b + 1) = 2 * 2 ^ b := by decide +kernel
def zb8 (k : Nat) : Nat := if k = 0 then 8 else (k - 1) % 8 + 1
theorem zb8_s (k : Nat) : zb8 (k + 1) = k % 8 + 1 := by unfold zb8; rw [if_neg (Nat.succ_ne_zero k), Nat.add_sub_cancel]
theorem zb8_0 {k : Nat} (h : k % 8 = 0) : zb8 k = 8 := by unfold zb8; split <;> omega
theorem zb8_n {k : Nat} (h : ¬ k % 8 = 0) : zb8 k = k % 8 := by unfold zb8; split <;> omega
/-- within an item: behind the flag -/
def zEQ (Z : Nat × (Nat → Int32)) (i m g e : Nat) (o : Nat → Int32) : Prop :=
  m ≤ Z.1 ∧ (∀ j, j < Z.1 → zO (Z.2 j)) ∧ (∀ j, j < m → ¬ j = g → Z.2 j = o j) ∧ (∃ c, vN (o g) + c * 2 ^ e < 256 ∧ Z.2 g = nI (vN (o g) + c * 2 ^ e)) ∧ ∀ f' od, Z.1 + 1 ≤ m + f' → (dF Z.2 Z.1 f' m e g i od).1 = 0
/-- before an item -/
def zEP (Z : Nat × (Nat → Int32)) (i m g k : Nat) (o : Nat → Int32) : Prop :=
  m ≤ Z.1 ∧ (∀ j, j < Z.1 → zO (Z.2 j)) ∧ (∀ j, j < m → (¬ k % 8 = 0 → ¬ j = g) → Z.2 j = o j) ∧ (¬ k % 8 = 0 → ∃ c, vN (o g) + c * 2 ^ (k % 8) < 256 ∧ Z.2 g = nI (vN (o g) + c * 2 ^ (k % 8))) ∧ ∀ f' od, Z.1 + 1 ≤ m + f' → (dF Z.2 Z.1 f' m (zb8 k) g i od).1 = 0
theorem zEQ_lit {Z : Nat × (Nat → Int32)} {t : Nat → Int32} {i m g k : Nat} {o : Nat → Int32} (hi : i < 400) (hg : g < m) (hog : zO (o g)) (hv : vN (o g) < 2 ^ (k % 8))
    (h : zEP Z (i + 1) (m + 1) g (k + 1) (upd (upd o g (o g ||| (nI 1 <<< (nI (k % 8) &&& 31)))) m (t i))) : zEQ Z i m g (k % 8) o := by
  obtain ⟨h1, h2, h3, h4, h5⟩ := h
  obtain ⟨p1, p2, p3⟩ := pw_le (k % 8) (by omega)
  have eog := (zO_vN hog).1
  have ex : o g ||| (nI 1 <<< (nI (k % 8) &&& 31)) = nI (vN (o g) + 2 ^ (k % 8)) := by
    rw [eog, vN_nI (by omega)]; exact fl_set (k % 8) (by omega) _ hv
  have e2 : upd (upd o g (o g ||| (nI 1 <<< (nI (k % 8) &&& 31)))) m (t i) g = nI (vN (o g) + 2 ^ (k % 8)) := by
    rw [upd_ne (by omega), upd_at, ex]
  have hc : ∃ c, vN (o g) + (1 + 2 * c) * 2 ^ (k % 8) < 256 ∧ Z.2 g = nI (vN (o g) + (1 + 2 * c) * 2 ^ (k % 8)) := by
    by_cases q : (k + 1) % 8 = 0
    · refine ⟨0, ?_, ?_⟩
      · rw [show (1 + 2 * 0) * 2 ^ (k % 8) = 2 ^ (k % 8) by omega]; omega
      · rw [h3 g (by omega) (fun z => absurd q z), e2, show (1 + 2 * 0) * 2 ^ (k % 8) = 2 ^ (k % 8) by omega]
    · obtain ⟨c, c1, c2⟩ := h4 q
      rw [e2, vN_nI (by omega), show (k + 1) % 8 = k % 8 + 1 by omega, p3] at c1 c2
      have e3 : vN (o g) + 2 ^ (k % 8) + c * (2 * 2 ^ (k % 8)) = vN (o g) + (1 + 2 * c) * 2 ^ (k % 8) := by
        rw [Nat.add_mul, Nat.one_mul, show c * (2 * 2 ^ (k % 8)) = 2 * c * 2 ^ (k % 8) by rw [← Nat.mul_assoc, Nat.mul_comm c 2]]; omega
      rw [e3] at c1 c2
      exact ⟨c, c1, c2⟩
  refine ⟨by omega, h2, fun j hj hjg => ?_, ?_, fun f' od hf => ?_⟩
  · rw [h3 j (by omega) (fun _ => hjg), upd_ne (by omega), upd_ne hjg]
  · obtain ⟨c, c1, c2⟩ := hc
    exact ⟨_, c1, c2⟩
  · obtain ⟨c, c1, c2⟩ := hc
    cases f' with
    | zero => omega
    | succ f' =>
      have hb : (Z.2 g >>> (nI (k % 8) &&& 31)) &&& nI 1 = nI 1 := by
        rw [zO_b1 (h2 g (by omega)) (by omega), c2, vN_nI (by omega), Nat.add_mul_div_right _ _ p2, Nat.div_eq_of_lt hv]
        omega
      rw [dF_one (by omega) (by omega) hb (by omega)]
      have := h5 f' (upd od i (Z.2 m)) (by omega)
      rw [zb8_s] at this
      exact this
theorem zEQ_row {Z : Nat × (Nat → Int32)} {i m g k d len : Nat} {o : Nat → Int32} (hd : 1 ≤ d) (hd2 : d ≤ 256) (hdi : d ≤ i) (hl : 3 ≤ len) (hl2 : len ≤ 258) (hi : i + len ≤ 400) (hg : g < m) (hog : zO (o g)) (hv : vN (o g) < 2 ^ (k % 8))
    (h : zEP Z (i + len) (m + 2) g (k + 1) (upd (upd o m (nI (d - 1))) (m + 1) (nI (len - 3)))) : zEQ Z i m g (k % 8) o := by
  obtain ⟨h1, h2, h3, h4, h5⟩ := h
  obtain ⟨p1, p2, p3⟩ := pw_le (k % 8) (by omega)
  have eog := (zO_vN hog).1
  have hvb := (zO_vN hog).2
  have e2 : upd (upd o m (nI (d - 1))) (m + 1) (nI (len - 3)) g = o g := by
    rw [upd_ne (by omega), upd_ne (by omega)]
  have hc : ∃ c, vN (o g) + (2 * c) * 2 ^ (k % 8) < 256 ∧ Z.2 g = nI (vN (o g) + (2 * c) * 2 ^ (k % 8)) := by
    by_cases q : (k + 1) % 8 = 0
    · refine ⟨0, ?_, ?_⟩
      · rw [Nat.mul_zero, Nat.zero_mul]; exact hvb
      · rw [h3 g (by omega) (fun z => absurd q z), e2, Nat.mul_zero, Nat.zero_mul]; exact eog
    · obtain ⟨c, c1, c2⟩ := h4 q
      rw [e2, show (k + 1) % 8 = k % 8 + 1 by omega, p3] at c1 c2
      have e3 : vN (o g) + c * (2 * 2 ^ (k % 8)) = vN (o g) + (2 * c) * 2 ^ (k % 8) := by
        rw [show c * (2 * 2 ^ (k % 8)) = 2 * c * 2 ^ (k % 8) by rw [← Nat.mul_assoc, Nat.mul_comm c 2]]
      rw [e3] at c1 c2
      exact ⟨c, c1, c2⟩
  have z1 : Z.2 m = nI (d - 1) := by
    rw [h3 m (by omega) (fun _ => by omega), upd_ne (by omega), upd_at]
  have z2 : Z.2 (m + 1) = nI (len - 3) := by
    rw [h3 (m + 1) (by omega) (fun _ => by omega), upd_at]
  refine ⟨by omega, h2, fun j hj hjg => ?_, ?_, fun f' od hf => ?_⟩
  · rw [h3 j (by omega) (fun _ => hjg), upd_ne (by omega), upd_ne (by omega)]
  · obtain ⟨c, c1, c2⟩ := hc
    exact ⟨_, c1, c2⟩
  · obtain ⟨c, c1, c2⟩ := hc
    cases f' with
    | zero => omega
    | succ f' =>
      have hb : ¬ (Z.2 g >>> (nI (k % 8) &&& 31)) &&& nI 1 = nI 1 := by
        rw [zO_b1 (h2 g (by omega)) (by omega), c2, vN_nI (by omega), Nat.add_mul_div_right _ _ p2, Nat.div_eq_of_lt hv]
        omega
      have v1 : vN (Z.2 m) = d - 1 := by rw [z1, vN_nI (by omega)]
      have v2 : vN (Z.2 (m + 1)) = len - 3 := by rw [z2, vN_nI (by omega)]
      rw [dF_row (by omega) (by omega) hb (by omega) (by rw [v1, v2]; omega), v1, v2]
      have := h5 f' (zrep od i (d - 1 + 1) (len - 3 + 3)) (by omega)
      rw [zb8_s] at this
      rw [show i + (len - 3 + 3) = i + len by omega]
      exact this
theorem zEP_0 {Z : Nat × (Nat → Int32)} {i m g k : Nat} {o : Nat → Int32} (hk : k % 8 = 0) (h : zEQ Z i (m + 1) m (k % 8) (upd o m (nI 0))) : zEP Z i m g k o := by
  obtain ⟨h1, h2, h3, h4, h5⟩ := h
  refine ⟨by omega, h2, fun j hj _ => ?_, fun z => absurd hk z, fun f' od hf => ?_⟩
  · rw [h3 j (by omega) (by omega), upd_ne (by omega)]
  · cases f' with
    | zero => omega
    | succ f' =>
      rw [zb8_0 hk, dF_flag (by omega)]
      rw [hk] at h5
      exact h5 f' od (by omega)
theorem zEP_1 {Z : Nat × (Nat → Int32)} {i m g k : Nat} {o : Nat → Int32} (hk : ¬ k % 8 = 0) (h : zEQ Z i m g (k % 8) o) : zEP Z i m g k o := by
  obtain ⟨h1, h2, h3, h4, h5⟩ := h
  exact ⟨h1, h2, fun j hj q => h3 j hj (q hk), fun _ => h4, fun f' od hf => by rw [zb8_n hk]; exact h5 f' od hf⟩
theorem zEP_end {i m g k n : Nat} {o : Nat → Int32} (hi : n ≤ i) (hin : i ≤ n) (hg : 0 < m → g < m) (ho : ∀ j, j < m → zO (o j)) (hv : ¬ k % 8 = 0 → g < m ∧ vN (o g) < 2 ^ (k % 8)) : zEP (m, o) i m g k o := by
  refine ⟨Nat.le_refl _, ho, fun _ _ _ => rfl, fun hk => ?_, fun f' od hf => ?_⟩
  · obtain ⟨h1, h2⟩ := hv hk
    have := zO_vN (ho g h1)
    refine ⟨0, ?_, ?_⟩
    · rw [Nat.zero_mul]; exact this.2
    · rw [Nat.zero_mul]; exact this.1
  · cases f' with
    | zero => exact absurd hf (by show ¬ m + 1 ≤ m + 0; omega)
    | succ f' =>
      show (dF o m (f' + 1) m (zb8 k) g i od).1 = 0
      rcases Nat.eq_zero_or_pos m with z | z
      · subst z; rw [dF_end0]
      · rw [dF_endG (Nat.le_refl _)]
        rintro (q | q)
        · unfold zb8 at q; split at q <;> omega
        · by_cases hk : k % 8 = 0
          · rw [zb8_0 hk] at q; exact q (zO_top (ho g (hg z)))
          · rw [zb8_n hk] at q
            obtain ⟨h1, h2⟩ := hv hk
            exact q ((zO_s0 (ho g h1) (by omega)).mpr (Nat.div_eq_of_lt h2))
theorem eF_dec {t : Nat → Int32} {n : Nat} (hn : n ≤ 400) (ht : ∀ j, j < n → zO (t j)) : ∀ f i m g k o, n - i ≤ f → i ≤ n → (0 < m → g < m) → (∀ j, j < m → zO (o j)) → (¬ k % 8 = 0 → g < m ∧ vN (o g) < 2 ^ (k % 8)) → zEP (eF t n f i m g k o) i m g k o
  | 0, i, m, g, k, o, hf, hi, hg, ho, hv => zEP_end (by omega) hi hg ho hv
  | f + 1, i, m, g, k, o, hf, hi, hg, ho, hv => by
    rcases Nat.lt_or_ge i n with hin | hin
    · have hz := zB_in t n i
      have hcap := zcap_le n i
      by_cases hk : k % 8 = 0
      · have o0 : upd o m (nI 0) m = nI 0 := upd_at
        have hog : zO (upd o m (nI 0) m) := by rw [o0]; exact zO_0
        have hv0 : vN (upd o m (nI 0) m) < 2 ^ (k % 8) := by rw [o0, hk]; decide
        have ho1 : ∀ j, j < m + 1 → zO (upd o m (nI 0) j) := arr_O ho zO_0
        refine zEP_0 hk ?_
        by_cases hb : 3 ≤ (zB t n i).2
        · rw [eF_row0 hin hk hb]
          refine zEQ_row (d := (zB t n i).1) (len := (zB t n i).2) (hz.2.2.2 (by omega)) hz.2.1 hz.2.2.1 hb (by omega) (by omega) (by omega) hog hv0 ?_
          refine eF_dec hn ht f _ _ _ _ _ (by omega) (by omega) (fun _ => by omega) ?_ (fun q => ⟨by omega, ?_⟩)
          · exact arr_O (arr_O ho1 ⟨_, by omega, rfl⟩) ⟨_, by omega, rfl⟩
          · rw [upd_ne (by omega), upd_ne (by omega), o0]
            obtain ⟨p1, p2, p3⟩ := pw_le ((k + 1) % 8) (by omega)
            exact p2
        · rw [eF_one0 hin hk hb]
          refine zEQ_lit (t := t) (by omega) (by omega) hog hv0 ?_
          have ex : upd o m (nI 0) m ||| (nI 1 <<< (nI (k % 8) &&& 31)) = nI 1 := by rw [o0, hk]; decide
          refine eF_dec hn ht f _ _ _ _ _ (by omega) (by omega) (fun _ => by omega) ?_ (fun q => ⟨by omega, ?_⟩)
          · refine arr_O (fun j hj => ?_) (ht i hin)
            by_cases e : j = m
            · rw [e, upd_at, ex]; exact ⟨1, by decide, rfl⟩
            · rw [upd_ne e]; exact ho1 j hj
          · rw [upd_ne (by omega), upd_at, ex, show (k + 1) % 8 = 1 by omega]; decide
      · obtain ⟨hgm, hvv⟩ := hv hk
        have hog := ho g hgm
        obtain ⟨p1, p2, p3⟩ := pw_le (k % 8) (by omega)
        refine zEP_1 hk ?_
        by_cases hb : 3 ≤ (zB t n i).2
        · rw [eF_row1 hin hk hb]
          refine zEQ_row (d := (zB t n i).1) (len := (zB t n i).2) (hz.2.2.2 (by omega)) hz.2.1 hz.2.2.1 hb (by omega) (by omega) hgm hog hvv ?_
          refine eF_dec hn ht f _ _ _ _ _ (by omega) (by omega) (fun _ => by omega) ?_ (fun q => ⟨by omega, ?_⟩)
          · exact arr_O (arr_O ho ⟨_, by omega, rfl⟩) ⟨_, by omega, rfl⟩
          · rw [upd_ne (by omega), upd_ne (by omega), show (k + 1) % 8 = k % 8 + 1 by omega, p3]; omega
        · rw [eF_one1 hin hk hb]
          refine zEQ_lit (t := t) (by omega) hgm hog hvv ?_
          have ex : o g ||| (nI 1 <<< (nI (k % 8) &&& 31)) = nI (vN (o g) + 2 ^ (k % 8)) := by
            rw [(zO_vN hog).1, vN_nI (by have := (zO_vN hog).2; omega)]; exact fl_set (k % 8) (by omega) _ hvv
          refine eF_dec hn ht f _ _ _ _ _ (by omega) (by omega) (fun _ => by omega) ?_ (fun q => ⟨by omega, ?_⟩)
          · refine arr_O (fun j hj => ?_) (ht i hin)
            by_cases e : j = g
            · rw [e, upd_at, ex]; exact ⟨_, by omega, rfl⟩
            · rw [upd_ne e]; exact ho j hj
          · rw [upd_ne (by omega), upd_at, ex, vN_nI (by omega), show (k + 1) % 8 = k % 8 + 1 by omega, p3]; omega
    · rw [eF_end hin]
      exact zEP_end hin hi hg ho hv
theorem zE_ok {t : Nat → Int32} {n : Nat} (hn : n ≤ 400) (ht : ∀ j, j < n → zO (t j)) : (∀ j, j < (zE t n).1 → zO ((zE t n).2 j)) ∧ (zD (zE t n).2 (zE t n).1).1 = 0 := by
  have h := eF_dec hn ht n 0 0 0 0 (fun _ => nI 0) (by omega) (by omega) (fun h => absurd h (Nat.lt_irrefl _)) no_lt0 (fun h => absurd rfl h)
  exact ⟨h.2.1, h.2.2.2.2 ((zE t n).1 + 1) (fun _ => nI 0) (by show (zE t n).1 + 1 ≤ 0 + _; omega)⟩
