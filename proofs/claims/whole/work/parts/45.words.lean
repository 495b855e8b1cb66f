/-! PURE: the next word of the class -/
def dgE (tn : Nat) (L : Nat → Nat) : Nat → Nat → Nat
  | 0, p => p
  | k + 1, p => if p < tn ∧ isD (L p) then dgE tn L k (p + 1) else p
def dgM (tn : Nat) (L : Nat → Nat) : Nat → Nat → Nat → Nat
  | 0, _, m => m
  | k + 1, p, m => if p < tn ∧ isD (L p) then dgM tn L k (p + 1) (if m ≤ 99 then 10 * m + (L p - 48) else m) else m
theorem dgE_le (tn : Nat) (L : Nat → Nat) : ∀ k p, p ≤ dgE tn L k p ∧ dgE tn L k p ≤ p + k
  | 0, p => ⟨Nat.le_refl _, Nat.le_refl _⟩
  | k + 1, p => by
    rw [dgE]
    split
    · have := dgE_le tn L k (p + 1); omega
    · omega
theorem dgM_le (tn : Nat) (L : Nat → Nat) : ∀ k p m, m ≤ 999 → dgM tn L k p m ≤ 999
  | 0, p, m, h => h
  | k + 1, p, m, h => by
    rw [dgM]
    split
    · rename_i q
      refine dgM_le tn L k (p + 1) _ ?_
      have := q.2.2
      split <;> omega
    · exact h
def wd2 (w : Wd) (p v : Nat) : Wd := wset (wset w 1 6 (nI v)) 1 3 (nI p)
theorem wd2_v (w : Wd) (p v b i : Nat) : (wd2 w p v).1 b i = if b = 1 ∧ i = 3 then nI p else if b = 1 ∧ i = 6 then nI v else w.1 b i := rfl
theorem wd2_3 (w : Wd) (p v : Nat) : (wd2 w p v).1 1 3 = nI p := rfl
theorem wd2_6 (w : Wd) (p v : Nat) : (wd2 w p v).1 1 6 = nI v := rfl
theorem wd2_63 (w : Wd) (p v : Nat) (x : Int32) : (wset (wd2 w p v) 1 6 x).1 1 3 = nI p := rfl
theorem wd2_s (w : Wd) (p v p2 v2 : Nat) : wset (wset (wd2 w p v) 1 6 (nI v2)) 1 3 (nI p2) = wd2 w p2 v2 := by
  refine Prod.ext ?_ rfl
  funext b i
  rw [wset_v, wset_v, wd2_v, wd2_v]
  by_cases h1 : b = 1 ∧ i = 3
  · rw [if_pos h1, if_pos h1]
  · rw [if_neg h1, if_neg h1]
    by_cases h2 : b = 1 ∧ i = 6
    · rw [if_pos h2, if_neg h1, if_pos h2]
    · rw [if_neg h2, if_neg h1, if_neg h2, if_neg h2]
theorem TxC_wd2 {tn : Nat} {L : Nat → Nat} {w : Wd} (h : TxC tn L w) (p v : Nat) : TxC tn L (wd2 w p v) := TxC_wset (TxC_wset h (by omega) _) (by omega) _
theorem run_c {tn : Nat} {L : Nat → Nat} {w : Wd} (h : TxC tn L w) : ∀ (k p x f m : Nat), p + k = tn → x + k ≤ 120 → k < f → m ≤ 999 → f_X1_takeDigits_l7 f (nI x) (wd2 w p (min 100 m)) = f_X1_takeDigits_b71 (wd2 w (dgE tn L k p) (min 100 (dgM tn L k p m)))
  | 0, p, x, f, m, hp, hx, hf, hm => by
    obtain ⟨f, rfl⟩ : ∃ k, f = k + 1 := ⟨f - 1, by omega⟩
    have ht := h.1
    rw [f_X1_takeDigits_l7, f_X1_takeDigits_h7, dgE, dgM]
    by_cases q : (120 : Int32) ≤ nI x
    · rw [if_pos q]
    · rw [if_neg q, wget_def, wd2_v, if_pos ⟨rfl, rfl⟩, letter_c (TxC_wd2 h _ _) (by omega), jj_cal, if_neg (show ¬ p < tn by omega), digit_c, jj_cal, if_pos (show (0 : Int32) < 48 by decide), if_pos rfl]
  | k + 1, p, x, f, m, hp, hx, hf, hm => by
    obtain ⟨f, rfl⟩ : ∃ k, f = k + 1 := ⟨f - 1, by omega⟩
    have ht := h.1
    obtain ⟨-, hL⟩ := h.2.2 p (by omega)
    rw [f_X1_takeDigits_l7, f_X1_takeDigits_h7, dgE, dgM, if_neg (show ¬ (120 : Int32) ≤ nI x from nI_ge (b := 120) (by omega) (by decide)), wget_def, wd2_v, if_pos ⟨rfl, rfl⟩, letter_c (TxC_wd2 h _ _) (by omega), jj_cal, if_pos (show p < tn by omega), digit_c, digI hL, jj_cal]
    by_cases q : isD (L p)
    · have q2 : p < tn ∧ isD (L p) := ⟨by omega, q⟩
      have hm2 : (if m ≤ 99 then 10 * m + (L p - 48) else m) ≤ 999 := by
        have := q.2
        split <;> omega
      have hv : imin (100 : Int32) (((10 : Int32) * nI (min 100 m) + nI (L p)) - (48 : Int32)) = nI (min 100 (if m ≤ 99 then 10 * m + (L p - 48) else m)) := by
        rw [show (10 : Int32) * nI (min 100 m) = nI (10 * min 100 m) from nI_mul 10 _, nI_add, show nI (10 * min 100 m + L p) - (48 : Int32) = nI (10 * min 100 m + L p - 48) from nI_sub (b := 48) (by have := q.1; omega), show (100 : Int32) = nI 100 from rfl, imin_nI (by decide) (by omega)]
        congr 1
        have := q.1
        split <;> omega
      rw [if_pos q, if_neg jj_ne10, if_pos q2, if_pos q2, wget_def, wd2_3, letter_c (TxC_wd2 h _ _) (by omega), jj_cal, if_pos (show p < tn by omega), jj_bnd, wget_def, wd2_6, hv, jj_bnd, jj_bnd, wget_def, wd2_63, nI_1, nI_1, wd2_s, run_c h k (p + 1) (x + 1) f _ (by omega) (by omega) (by omega) hm2]
    · rw [if_neg q, if_pos rfl, if_neg (fun z => q z.2), if_neg (fun z => q z.2)]
theorem dec_c {tn st e v : Nat} {L : Nat → Nat} {w : Wd} (h : TxC tn L w) (hst : st < tn) (h4 : w.1 1 4 = nI st) (h3 : w.1 1 3 = nI e) (h6 : w.1 1 6 = nI v) (he : st ≤ e) (he2 : e ≤ 120) (hv : v ≤ 100) : f_X1_takeDigits_b71 w = some ((), wset w 1 5 (nI (if 99 < v then 2 else if L st = 48 ∧ 1 < e - st then 2 else 1))) := by
  have ht := h.1
  obtain ⟨-, hL⟩ := h.2.2 st hst
  have hb : f_X1_takeDigits_b101 w = some ((), wset w 1 5 (nI (if 99 < v then 2 else 1))) := by
    rw [f_X1_takeDigits_b101, jj_bnd, wget_def, h6]
    by_cases q : 99 < v
    · rw [if_pos (show (99 : Int32) < nI v from nI_lt (a := 99) q (by omega)), if_pos q, jj_bnd]; rfl
    · rw [if_neg (show ¬ (99 : Int32) < nI v from jj_le_nlt (nI_le (b := 99) (by omega) (by decide))), if_pos rfl, if_neg q, jj_bnd]; rfl
  rw [f_X1_takeDigits_b71, wget_def, h4, letter_c h (by omega), jj_cal, if_pos hst]
  by_cases q : L st = 48
  · rw [if_pos (show nI (L st) = 48 by rw [q]; rfl), wget_def, wget_def, h3, h4, nI_sub he]
    by_cases z : 1 < e - st
    · rw [if_neg (show ¬ nI (e - st) ≤ 1 from nI_ge (a := 1) z (by omega)), jj_bnd, wget_def, h6]
      by_cases y : 99 < v
      · rw [if_pos (show (99 : Int32) < nI v from nI_lt (a := 99) y (by omega)), if_pos y, jj_bnd]; rfl
      · rw [if_neg (show ¬ (99 : Int32) < nI v from jj_le_nlt (nI_le (b := 99) (by omega) (by decide))), if_neg jj_ne10, if_neg y, if_pos ⟨q, z⟩, jj_bnd]; rfl
    · rw [if_pos (show nI (e - st) ≤ 1 from nI_le (b := 1) (by omega) (by decide)), hb]
      congr 4
      by_cases y : 99 < v
      · rw [if_pos y, if_pos y]
      · rw [if_neg y, if_neg y, if_neg (fun a => z a.2)]
  · rw [if_neg (show ¬ nI (L st) = 48 from fun a => q ((nI_eq (b := 48) (by omega) (by decide)).mp a)), hb]
    congr 4
    by_cases y : 99 < v
    · rw [if_pos y, if_pos y]
    · rw [if_neg y, if_neg y, if_neg (fun a => q a.1)]
abbrev isSg (c : Nat) : Prop := c = 100 ∨ c = 104 ∨ c = 103 ∨ c = 114 ∨ c = 59
theorem sign_c {c : Nat} (hc : c ≤ 255) (w : Wd) : f_X1_isSign (nI c) w = some (if isSg c then 1 else 0, w) := by
  have q100 : nI c = 100 ↔ c = 100 := nI_eq (a := c) (b := 100) (by omega) (by decide)
  have q104 : nI c = 104 ↔ c = 104 := nI_eq (a := c) (b := 104) (by omega) (by decide)
  have q103 : nI c = 103 ↔ c = 103 := nI_eq (a := c) (b := 103) (by omega) (by decide)
  have q114 : nI c = 114 ↔ c = 114 := nI_eq (a := c) (b := 114) (by omega) (by decide)
  have q59 : nI c = 59 ↔ c = 59 := nI_eq (a := c) (b := 59) (by omega) (by decide)
  rw [f_X1_isSign, f_X1_isSign_b0, f_X1_isSign_b30]
  by_cases h1 : c = 100
  · rw [if_pos (q100.mpr h1), if_pos (show isSg c from Or.inl h1)]
  · by_cases h2 : c = 104
    · rw [if_neg (fun z => h1 (q100.mp z)), if_pos (q104.mpr h2), if_pos (show isSg c from Or.inr (Or.inl h2))]
    · by_cases h3 : c = 103
      · rw [if_neg (fun z => h1 (q100.mp z)), if_neg (fun z => h2 (q104.mp z)), if_pos (q103.mpr h3), if_pos (show isSg c from Or.inr (Or.inr (Or.inl h3)))]
      · by_cases h4 : c = 114
        · rw [if_neg (fun z => h1 (q100.mp z)), if_neg (fun z => h2 (q104.mp z)), if_neg (fun z => h3 (q103.mp z)), if_pos (q114.mpr h4), if_pos (show isSg c from Or.inr (Or.inr (Or.inr (Or.inl h4))))]
        · by_cases h5 : c = 59
          · rw [if_neg (fun z => h1 (q100.mp z)), if_neg (fun z => h2 (q104.mp z)), if_neg (fun z => h3 (q103.mp z)), if_neg (fun z => h4 (q114.mp z)), if_pos (q59.mpr h5), if_pos (show isSg c from Or.inr (Or.inr (Or.inr (Or.inr h5))))]
          · rw [if_neg (fun z => h1 (q100.mp z)), if_neg (fun z => h2 (q104.mp z)), if_neg (fun z => h3 (q103.mp z)), if_neg (fun z => h4 (q114.mp z)), if_neg (fun z => h5 (q59.mp z)), if_neg (show ¬ isSg c by omega)]
/-- the word that begins behind place p: its start, the place behind it, what it is (0 end, 1 number, 2 no word, else its letter), its value -/
def lxS (tn : Nat) (L : Nat → Nat) (p : Nat) : Nat := skp tn L (tn - p) p
def lxM (tn : Nat) (L : Nat → Nat) (p : Nat) : Nat := dgM tn L (tn - lxS tn L p) (lxS tn L p) 0
def lxE (tn : Nat) (L : Nat → Nat) (p : Nat) : Nat := if lxS tn L p < tn then (if isD (L (lxS tn L p)) then dgE tn L (tn - lxS tn L p) (lxS tn L p) else lxS tn L p + 1) else lxS tn L p
def lxT (tn : Nat) (L : Nat → Nat) (p : Nat) : Nat := if lxS tn L p < tn then (if isD (L (lxS tn L p)) then (if 99 < lxM tn L p then 2 else if L (lxS tn L p) = 48 ∧ 1 < lxE tn L p - lxS tn L p then 2 else 1) else (if isSg (L (lxS tn L p)) then L (lxS tn L p) else 2)) else 0
