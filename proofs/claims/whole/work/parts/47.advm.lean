/-! PURE: the next word, reference -/
def mT (t : Nat) : Nat := if t = 0 then 0 else if t = 1 then 2 else if t = 2 then 4 else if t = 59 then 3 else 1
def wd3 (w : Wd) (p v : Nat) : Wd := wset (wset w 92 20 (nI v)) 92 17 (nI p)
theorem wd3_v (w : Wd) (p v b i : Nat) : (wd3 w p v).1 b i = if b = 92 ∧ i = 17 then nI p else if b = 92 ∧ i = 20 then nI v else w.1 b i := rfl
theorem wd3_7 (w : Wd) (p v : Nat) : (wd3 w p v).1 92 17 = nI p := rfl
theorem wd3_0 (w : Wd) (p v : Nat) : (wd3 w p v).1 92 20 = nI v := rfl
theorem wd3_8 (w : Wd) (p v : Nat) : (wd3 w p v).1 92 18 = w.1 92 18 := rfl
theorem wd3_07 (w : Wd) (p v : Nat) (x : Int32) : (wset (wd3 w p v) 92 20 x).1 92 17 = nI p := rfl
theorem wd3_s (w : Wd) (p v p2 v2 : Nat) : wset (wset (wd3 w p v) 92 20 (nI v2)) 92 17 (nI p2) = wd3 w p2 v2 := by
  refine Prod.ext ?_ rfl
  funext b i
  rw [wset_v, wset_v, wd3_v, wd3_v]
  by_cases h1 : b = 92 ∧ i = 17
  · rw [if_pos h1, if_pos h1]
  · rw [if_neg h1, if_neg h1]
    by_cases h2 : b = 92 ∧ i = 20
    · rw [if_pos h2, if_neg h1, if_pos h2]
    · rw [if_neg h2, if_neg h1, if_neg h2, if_neg h2]
theorem TxM_wd3 {tn : Nat} {L : Nat → Nat} {w : Wd} (h : TxM tn L w) (p v : Nat) : TxM tn L (wd3 w p v) := TxM_wset (TxM_wset h (by omega) _) (by omega) _
theorem run_m {tn st : Nat} {L : Nat → Nat} {w : Wd} (h : TxM tn L w) (hst : st < tn) (h8 : w.1 92 18 = nI st) : ∀ (k p f m : Nat), p + k = tn → st ≤ p → k < f → m ≤ 999 → f_X6_next_l67 f (nI (L st)) (wd3 w p m) = some ((), wset (wd3 w (dgE tn L k p) (dgM tn L k p m)) 92 19 (nI (if 99 < dgM tn L k p m then 4 else if L st = 48 ∧ 1 < dgE tn L k p - st then 4 else 2))) := by
  have ht := h.1
  obtain ⟨-, hLs⟩ := h.2.2 st hst
  have fin : ∀ (p f m : Nat), st ≤ p → p ≤ tn → m ≤ 999 → ¬ (p < tn ∧ isD (L p)) → f_X6_next_l67 (f + 1) (nI (L st)) (wd3 w p m) = some ((), wset (wd3 w p m) 92 19 (nI (if 99 < m then 4 else if L st = 48 ∧ 1 < p - st then 4 else 2))) := by
    intro p f m h1 h2 h3 h4
    have hfig : f_X6_isFigure (if p < tn then nI (L p) else -1) (wd3 w p m) = some (0, wd3 w p m) := by
      rw [digit_m]
      by_cases l : p < tn
      · rw [if_pos l, digI (h.2.2 p l).2, if_neg (fun q => h4 ⟨l, q⟩)]
      · rw [if_neg l, if_pos (show (-1 : Int32) < 48 by decide)]
    rw [f_X6_next_l67, f_X6_next_h67, wget_def, wd3_7, letter_m (TxM_wd3 h _ _) (by omega), jj_cal, hfig, jj_cal, if_pos (show (0 : Int32) = 0 from rfl), wget_def, wd3_0]
    by_cases y : 99 < m
    · rw [if_pos (show (99 : Int32) < nI m from nI_lt (a := 99) y (by omega)), if_pos y, jj_bnd]; rfl
    · rw [if_neg (show ¬ (99 : Int32) < nI m from jj_le_nlt (nI_le (b := 99) (by omega) (by decide))), if_neg y]
      by_cases q : L st = 48
      · rw [if_pos (show nI (L st) = 48 by rw [q]; rfl), wget_def, wget_def, wd3_7, wd3_8, h8, nI_sub h1]
        by_cases z : 1 < p - st
        · rw [if_neg (show ¬ nI (p - st) ≤ 1 from nI_ge (a := 1) z (by omega)), jj_bnd, if_pos ⟨q, z⟩]; rfl
        · rw [if_pos (show nI (p - st) ≤ 1 from nI_le (b := 1) (by omega) (by decide)), jj_bnd, if_neg (show ¬ (L st = 48 ∧ 1 < p - st) from fun a => z a.2)]; rfl
      · rw [if_neg (show ¬ nI (L st) = 48 from fun a => q ((nI_eq (b := 48) (by omega) (by decide)).mp a)), jj_bnd, if_neg (show ¬ (L st = 48 ∧ 1 < p - st) from fun a => q a.1)]; rfl
  intro k
  induction k with
  | zero =>
    intro p f m hp hs hf hm
    obtain ⟨f, rfl⟩ : ∃ k, f = k + 1 := ⟨f - 1, by omega⟩
    rw [dgE, dgM]
    exact fin p f m hs (by omega) hm (fun q => by omega)
  | succ k ih =>
    intro p f m hp hs hf hm
    obtain ⟨f, rfl⟩ : ∃ k, f = k + 1 := ⟨f - 1, by omega⟩
    obtain ⟨-, hL⟩ := h.2.2 p (by omega)
    by_cases q2 : p < tn ∧ isD (L p)
    · have q := q2.2
      have hm2 : (if m ≤ 99 then 10 * m + (L p - 48) else m) ≤ 999 := by
        have := q.2
        split <;> omega
      rw [dgE, dgM, if_pos q2, if_pos q2, ← ih (p + 1) f _ (by omega) (by omega) (by omega) hm2, f_X6_next_l67, f_X6_next_h67, wget_def, wd3_7, letter_m (TxM_wd3 h _ _) (by omega), jj_cal, if_pos q2.1, digit_m, digI hL, jj_cal, if_pos q, if_neg jj_ne10, wget_def, wd3_0]
      by_cases y : m ≤ 99
      · rw [if_pos (show nI m ≤ 99 from nI_le (b := 99) y (by decide)), wget_def, wd3_7, letter_m (TxM_wd3 h _ _) (by omega), jj_cal, if_pos q2.1, jj_bnd, show (10 : Int32) * nI m = nI (10 * m) from nI_mul 10 _, nI_add, show nI (10 * m + L p) - (48 : Int32) = nI (10 * m + L p - 48) from nI_sub (b := 48) (by have := q.1; omega), jj_bnd, wget_def, wd3_07, nI_1, wd3_s, if_pos y, show 10 * m + L p - 48 = 10 * m + (L p - 48) by have := q.1; omega]
      · rw [if_neg (show ¬ nI m ≤ 99 from nI_ge (a := 99) (by omega) (by omega)), jj_bnd, jj_bnd, wget_def, wd3_07, nI_1, wd3_s, if_neg y]
    · rw [dgE, dgM, if_neg q2, if_neg q2]
      exact fin p f m hs (by omega) hm q2
