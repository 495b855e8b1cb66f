/-! PURE: the text, letter by letter and word by word -/
def TxC (tn : Nat) (L : Nat → Nat) (w : Wd) : Prop := tn ≤ 120 ∧ w.1 1 2 = nI tn ∧ ∀ j, j < tn → w.1 2 j = nI (L j) ∧ L j ≤ 255
def TxM (tn : Nat) (L : Nat → Nat) (w : Wd) : Prop := tn ≤ 120 ∧ w.1 92 16 = nI tn ∧ ∀ j, j < tn → w.1 101 j = nI (L j) ∧ L j ≤ 255
theorem letter_c {tn p : Nat} {L : Nat → Nat} {w : Wd} (h : TxC tn L w) (hp : p < 2 ^ 31) : f_X1_letterAt (nI p) w = some (if p < tn then nI (L p) else 0, w) := by
  obtain ⟨h1, h2, h3⟩ := h
  rw [f_X1_letterAt, f_X1_letterAt_b0, if_neg (nI_pos hp)]
  by_cases l : p < tn
  · rw [if_neg (show ¬ (120 : Int32) ≤ nI p from nI_ge (b := 120) (by omega) (by decide)), wget_def, h2, if_neg (nI_ge l (by omega)), jj_grd (jj_inb (show p < 120 by omega) (by decide)), jj_tn hp, wget_def, (h3 p l).1, if_pos l]
  · rw [if_neg l]
    by_cases q : (120 : Int32) ≤ nI p
    · rw [if_pos q]
    · rw [if_neg q, wget_def, h2, if_pos (nI_le (show tn ≤ p by omega) hp)]
theorem letter_m {tn p : Nat} {L : Nat → Nat} {w : Wd} (h : TxM tn L w) (hp : p < 2 ^ 31) : f_X6_letterAt (nI p) w = some (if p < tn then nI (L p) else -1, w) := by
  obtain ⟨h1, h2, h3⟩ := h
  rw [f_X6_letterAt, f_X6_letterAt_b0, wget_def, h2]
  by_cases l : p < tn
  · rw [if_neg (nI_ge l (by omega)), jj_grd (jj_inb (show p < 120 by omega) (by decide)), jj_tn hp, wget_def, (h3 p l).1, if_pos l]
  · rw [if_neg l, if_pos (nI_le (show tn ≤ p by omega) hp)]
theorem TxC_wset {tn : Nat} {L : Nat → Nat} {w : Wd} (h : TxC tn L w) {a j : Nat} (ha : a ≠ 2 ∧ ¬ (a = 1 ∧ j = 2)) (v : Int32) : TxC tn L (wset w a j v) := by
  obtain ⟨h1, h2, h3⟩ := h
  exact ⟨h1, by rw [wset_v, if_neg (by omega)]; exact h2, fun i hi => by rw [wset_v, if_neg (by omega)]; exact h3 i hi⟩
theorem TxM_wset {tn : Nat} {L : Nat → Nat} {w : Wd} (h : TxM tn L w) {a j : Nat} (ha : a ≠ 101 ∧ ¬ (a = 92 ∧ j = 16)) (v : Int32) : TxM tn L (wset w a j v) := by
  obtain ⟨h1, h2, h3⟩ := h
  exact ⟨h1, by rw [wset_v, if_neg (by omega)]; exact h2, fun i hi => by rw [wset_v, if_neg (by omega)]; exact h3 i hi⟩
theorem wset_wset (w : Wd) (a j : Nat) (x y : Int32) : wset (wset w a j x) a j y = wset w a j y := by
  refine Prod.ext ?_ rfl
  funext b i
  rw [wset_v, wset_v, wset_v]
  split <;> rfl
theorem digit_c (x : Int32) (w : Wd) : f_X1_isDigit x w = some (if x < 48 then 0 else if 57 < x then 0 else 1, w) := by
  rw [f_X1_isDigit, f_X1_isDigit_b0]
  by_cases h1 : x < 48
  · rw [if_pos h1, if_pos h1]
  · by_cases h2 : 57 < x
    · rw [if_neg h1, if_neg h1, if_pos h2, if_pos h2]
    · rw [if_neg h1, if_neg h1, if_neg h2, if_neg h2]
theorem digit_m (x : Int32) (w : Wd) : f_X6_isFigure x w = some (if x < 48 then 0 else if 57 < x then 0 else 1, w) := by
  rw [f_X6_isFigure, f_X6_isFigure_b0, in_eq, jj_cal]
  by_cases h1 : x < 48
  · rw [if_neg (fun q => q.1 h1), if_pos h1]; rfl
  · by_cases h2 : 57 < x
    · rw [if_neg (fun q => q.2 h2), if_neg h1, if_pos h2]; rfl
    · rw [if_pos ⟨h1, h2⟩, if_neg h1, if_neg h2]; rfl
abbrev isD (c : Nat) : Prop := 48 ≤ c ∧ c ≤ 57
theorem digI {c : Nat} (hc : c ≤ 255) : (if nI c < 48 then (0 : Int32) else if 57 < nI c then 0 else 1) = if isD c then 1 else 0 := by
  by_cases h1 : c < 48
  · rw [if_pos (show nI c < 48 from nI_lt (b := 48) h1 (by decide)), if_neg (by omega)]
  · rw [if_neg (show ¬ nI c < 48 from jj_le_nlt (nI_le (a := 48) (by omega) (by omega)))]
    by_cases h2 : 57 < c
    · rw [if_pos (show (57 : Int32) < nI c from nI_lt (a := 57) h2 (by omega)), if_neg (by omega)]
    · rw [if_neg (show ¬ (57 : Int32) < nI c from jj_le_nlt (nI_le (b := 57) (by omega) (by decide))), if_pos (by omega)]
/-- the first place from p on that is no space -/
def skp (tn : Nat) (L : Nat → Nat) : Nat → Nat → Nat
  | 0, p => p
  | k + 1, p => if p < tn ∧ L p = 32 then skp tn L k (p + 1) else p
theorem skp_le (tn : Nat) (L : Nat → Nat) : ∀ k p, p ≤ skp tn L k p ∧ skp tn L k p ≤ p + k
  | 0, p => ⟨Nat.le_refl _, Nat.le_refl _⟩
  | k + 1, p => by
    rw [skp]
    split
    · have := skp_le tn L k (p + 1); omega
    · omega
theorem skip_c {tn : Nat} {L : Nat → Nat} {w : Wd} (h : TxC tn L w) : ∀ (k p x f : Nat), p + k = tn → x + k ≤ 120 → k < f → f_X1_advance_l2 f (nI x) (wset w 1 3 (nI p)) = f_X1_advance_b37 (wset w 1 3 (nI (skp tn L k p)))
  | 0, p, x, f, hp, hx, hf => by
    obtain ⟨f, rfl⟩ : ∃ k, f = k + 1 := ⟨f - 1, by omega⟩
    have ht := h.1
    rw [f_X1_advance_l2, f_X1_advance_h2, skp]
    by_cases q : (120 : Int32) ≤ nI x
    · rw [if_pos q]
    · rw [if_neg q, wget_def, wset_v, if_pos ⟨rfl, rfl⟩, letter_c (TxC_wset h (by omega) _) (by omega), jj_cal, if_neg (show ¬ p < tn by omega), if_neg (by decide)]
  | k + 1, p, x, f, hp, hx, hf => by
    obtain ⟨f, rfl⟩ : ∃ k, f = k + 1 := ⟨f - 1, by omega⟩
    have ht := h.1
    obtain ⟨-, hL⟩ := h.2.2 p (by omega)
    rw [f_X1_advance_l2, f_X1_advance_h2, skp, if_neg (show ¬ (120 : Int32) ≤ nI x from nI_ge (b := 120) (by omega) (by decide)), wget_def, wset_v, if_pos ⟨rfl, rfl⟩, letter_c (TxC_wset h (by omega) _) (by omega), jj_cal, if_pos (show p < tn by omega)]
    by_cases q : L p = 32
    · rw [if_pos (show nI (L p) = 32 by rw [q]; rfl), if_pos ⟨by omega, q⟩, jj_bnd, jj_bnd, wget_def, wset_v, if_pos ⟨rfl, rfl⟩, nI_1, nI_1, wset_wset, skip_c h k (p + 1) (x + 1) f (by omega) (by omega) (by omega)]
    · rw [if_neg (show ¬ nI (L p) = 32 from fun z => q ((nI_eq (b := 32) (by omega) (by decide)).mp z)), if_neg (fun z => q z.2)]
