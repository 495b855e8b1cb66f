/-! PURE: the next word, reference: what it is -/
theorem skip_m {tn : Nat} {L : Nat → Nat} {w : Wd} (h : TxM tn L w) : ∀ (k p f : Nat), p + k = tn → k < f → f_X6_next_l0 f (wset w 92 17 (nI p)) = f_X6_next_l0 1 (wset w 92 17 (nI (skp tn L k p)))
  | 0, p, f, hp, hf => by
    obtain ⟨f, rfl⟩ : ∃ k, f = k + 1 := ⟨f - 1, by omega⟩
    have ht := h.1
    have hl := letter_m (p := p) (TxM_wset h (a := 92) (j := 17) (by omega) (nI p)) (by omega)
    rw [if_neg (show ¬ p < tn by omega)] at hl
    rw [skp, f_X6_next_l0, f_X6_next_l0, f_X6_next_h0, f_X6_next_h0, wget_def, show (wset w 92 17 (nI p)).1 92 17 = nI p from rfl, hl, jj_cal, jj_cal, if_neg (show ¬ (-1 : Int32) = 32 by decide), if_neg (show ¬ (-1 : Int32) = 32 by decide)]
  | k + 1, p, f, hp, hf => by
    obtain ⟨f, rfl⟩ : ∃ k, f = k + 1 := ⟨f - 1, by omega⟩
    have ht := h.1
    obtain ⟨-, hL⟩ := h.2.2 p (by omega)
    have hl := letter_m (p := p) (TxM_wset h (a := 92) (j := 17) (by omega) (nI p)) (by omega)
    rw [if_pos (show p < tn by omega)] at hl
    rw [skp]
    by_cases q : L p = 32
    · rw [if_pos ⟨by omega, q⟩, ← skip_m h k (p + 1) f (by omega) (by omega), f_X6_next_l0, f_X6_next_h0, wget_def, show (wset w 92 17 (nI p)).1 92 17 = nI p from rfl, hl, jj_cal, if_pos (show nI (L p) = 32 by rw [q]; rfl), jj_bnd, wget_def, show (wset w 92 17 (nI p)).1 92 17 = nI p from rfl, nI_1, wset_wset]
    · have hne : ¬ nI (L p) = 32 := fun z => q ((nI_eq (b := 32) (by omega) (by decide)).mp z)
      rw [if_neg (fun z => q z.2), f_X6_next_l0, f_X6_next_l0, f_X6_next_h0, f_X6_next_h0, wget_def, show (wset w 92 17 (nI p)).1 92 17 = nI p from rfl, hl, jj_cal, jj_cal, if_neg hne, if_neg hne]
