/-! PURE: the next word, reference: what it is -/
theorem skip_m {tn : Nat} {L : Nat → Nat} {w : Wd} (h : TxM tn L w) : ∀ (k p f : Nat), p + k = tn → k < f → f_X6_next_l0 f (wset w 92 17 (nI p)) = f_X6_next_l0 1 (wset w 92 17 (nI (skp tn L k p)))
  | 0, p, f, hp, hf => by
    obtain ⟨f, rfl⟩ : ∃ k, f = k + 1 := ⟨f - 1, by omega⟩
    have ht := h.1
    have hl := letter_m (p := p) (TxM_wset h (a := 92) (j := 17) (by omega) (nI p)) (by omega)
    rw [if_neg (show ¬ p < tn by omega)] at hl
    rw [skp, f_X6_next_l0, f_X6_next_l0, f_X6_next_h0, f_X6_next_h0, wget_def, show (wset w 92 17 (nI p)).1 92 17 = nI p from rfl, hl, jj_cal, jj_cal, if_neg (show ¬ (-1 : Int32) = 32 by decide), if_neg (show ¬ (-1 : Int32) = 32 by decide)]
  | k + 1, p, f, hp, hf => by
    obtain ⟨f, rfl⟩ : ∃ k, f = k + 1 := ⟨f - 1, by omega⟩
    have ht := h.1
    obtain ⟨-, hL⟩ := h.2.2 p (by omega)
    have hl := letter_m (p := p) (TxM_wset h (a := 92) (j := 17) (by omega) (nI p)) (by omega)
    rw [if_pos (show p < tn by omega)] at hl
    rw [skp]
    by_cases q : L p = 32
    · rw [if_pos ⟨by omega, q⟩, ← skip_m h k (p + 1) f (by omega) (by omega), f_X6_next_l0, f_X6_next_h0, wget_def, show (wset w 92 17 (nI p)).1 92 17 = nI p from rfl, hl, jj_cal, if_pos (show nI (L p) = 32 by rw [q]; rfl), jj_bnd, wget_def, show (wset w 92 17 (nI p)).1 92 17 = nI p from rfl, nI_1, wset_wset]
    · have hne : ¬ nI (L p) = 32 := fun z => q ((nI_eq (b := 32) (by omega) (by decide)).mp z)
      rw [if_neg (fun z => q z.2), f_X6_next_l0, f_X6_next_l0, f_X6_next_h0, f_X6_next_h0, wget_def, show (wset w 92 17 (nI p)).1 92 17 = nI p from rfl, hl, jj_cal, jj_cal, if_neg hne, if_neg hne]
theorem skp_stop {tn : Nat} {L : Nat → Nat} : ∀ (k p : Nat), p + k = tn → skp tn L k p < tn → L (skp tn L k p) ≠ 32
  | 0, p, hp, h => by rw [skp] at h; omega
  | k + 1, p, hp, h => by
    rw [skp] at h ⊢
    by_cases q : p < tn ∧ L p = 32
    · rw [if_pos q] at h ⊢
      exact skp_stop k (p + 1) (by omega) h
    · rw [if_neg q] at h ⊢
      exact fun z => q ⟨h, z⟩
theorem adv_m {tn p : Nat} {L : Nat → Nat} {w : Wd} (h : TxM tn L w) (hp : p ≤ tn) (h7 : w.1 92 17 = nI p) : ∃ w', f_X6_next w = some ((), w') ∧ w'.2 = w.2 ∧ (∀ a j, ¬ (a = 92 ∧ 17 ≤ j ∧ j ≤ 20) → w'.1 a j = w.1 a j) ∧ w'.1 92 17 = nI (lxE tn L p) ∧ w'.1 92 18 = nI (lxS tn L p) ∧ w'.1 92 19 = nI (mT (lxT tn L p)) ∧ (lxT tn L p = 1 → w'.1 92 20 = nI (lxM tn L p)) ∧ (2 < lxT tn L p → w'.1 92 20 = nI (lxT tn L p)) := by
  have ht := h.1
  have hsk := skp_le tn L (tn - p) p
  obtain ⟨S, hS⟩ : ∃ x, x = lxS tn L p := ⟨_, rfl⟩
  have hS1 : p ≤ S ∧ S ≤ tn := by rw [hS]; unfold lxS; omega
  have hstop : S < tn → L S ≠ 32 := fun q => by
    rw [hS] at q ⊢
    exact skp_stop (tn - p) p (by omega) q
  obtain ⟨V, hV⟩ : ∃ x, x = wset w 92 17 (nI S) := ⟨_, rfl⟩
  obtain ⟨V1, hV1⟩ : ∃ x, x = wset V 92 18 (nI S) := ⟨_, rfl⟩
  obtain ⟨V2, hV2⟩ : ∃ x, x = wset V1 92 20 0 := ⟨_, rfl⟩
  have hTV : TxM tn L V := by rw [hV]; exact TxM_wset h (by omega) _
  have hTV1 : TxM tn L V1 := by rw [hV1]; exact TxM_wset hTV (by omega) _
  have v7 : V.1 92 17 = nI S := by rw [hV, wset_v, if_pos ⟨rfl, rfl⟩]
  have v17 : V1.1 92 17 = nI S := by rw [hV1, wset_v, if_neg (by omega), v7]
  have v18 : V1.1 92 18 = nI S := by rw [hV1, wset_v, if_pos ⟨rfl, rfl⟩]
  have v27 : V2.1 92 17 = nI S := by rw [hV2, wset_v, if_neg (by omega), v17]
  have v28 : V2.1 92 18 = nI S := by rw [hV2, wset_v, if_neg (by omega), v18]
  have v22 : V2.2 = w.2 := by rw [hV2, wset_2, hV1, wset_2, hV, wset_2]
  have vo : ∀ a j, ¬ (a = 92 ∧ 17 ≤ j ∧ j ≤ 20) → V2.1 a j = w.1 a j := fun a j q => by rw [hV2, wset_v, if_neg (by omega), hV1, wset_v, if_neg (by omega), hV, wset_v, if_neg (by omega)]
  have e0 : f_X6_next w = f_X6_next_l0 1 V := by
    rw [f_X6_next, hV, hS]
    have := skip_m h (tn - p) p 300 (by omega) (by omega)
    rw [wset_self h7] at this
    exact this
  have hl := letter_m (p := S) hTV (by omega)
  have hl1 := letter_m (p := S) hTV1 (by omega)
  by_cases l : S < tn
  · obtain ⟨-, hL⟩ := h.2.2 S l
    rw [if_pos l] at hl hl1
    have h32 : ¬ nI (L S) = 32 := fun z => hstop l ((nI_eq (b := 32) (by omega) (by decide)).mp z)
    have hpre : f_X6_next w = (if (if isD (L S) then (1 : Int32) else 0) = 0 then (if nI (L S) = (100 : Int32) then (bnd (wset V2 92 19 (1 : Int32)) (fun w_20 => bnd (wset w_20 92 20 (nI (L S))) (fun w_22 => bnd (wset w_22 92 17 ((wget w_22 92 17) + (1 : Int32))) (fun w_24 => some ((), w_24))))) else (if nI (L S) = (104 : Int32) then (bnd (wset V2 92 19 (1 : Int32)) (fun w_27 => bnd (wset w_27 92 20 (nI (L S))) (fun w_29 => bnd (wset w_29 92 17 ((wget w_29 92 17) + (1 : Int32))) (fun w_31 => some ((), w_31))))) else (if nI (L S) = (103 : Int32) then (bnd (wset V2 92 19 (1 : Int32)) (fun w_34 => bnd (wset w_34 92 20 (nI (L S))) (fun w_36 => bnd (wset w_36 92 17 ((wget w_36 92 17) + (1 : Int32))) (fun w_38 => some ((), w_38))))) else (if nI (L S) = (114 : Int32) then (bnd (wset V2 92 19 (1 : Int32)) (fun w_54 => bnd (wset w_54 92 20 (nI (L S))) (fun w_56 => bnd (wset w_56 92 17 ((wget w_56 92 17) + (1 : Int32))) (fun w_58 => some ((), w_58))))) else (if nI (L S) = (59 : Int32) then (bnd (wset V2 92 19 (3 : Int32)) (fun w_48 => bnd (wset w_48 92 20 (nI (L S))) (fun w_50 => bnd (wset w_50 92 17 ((wget w_50 92 17) + (1 : Int32))) (fun w_52 => some ((), w_52))))) else (bnd (wset V2 92 19 (4 : Int32)) (fun w_42 => bnd (wset w_42 92 20 (nI (L S))) (fun w_44 => bnd (wset w_44 92 17 ((wget w_44 92 17) + (1 : Int32))) (fun w_46 => some ((), w_46)))))))))) else (f_X6_next_l67 300 (nI (L S)) V2)) := by
      rw [e0, f_X6_next_l0, f_X6_next_h0, wget_def V, v7, hl, jj_cal, if_neg h32, jj_bnd, wget_def V, v7, ← hV1, wget_def V1, v17, hl1, jj_cal, jj_bnd, jj_bnd, ← hV2, if_pos (show (0 : Int32) ≤ nI (L S) from nI_le (a := 0) (by omega) (by omega)), digit_m, digI hL, jj_cal]
    by_cases q : isD (L S)
    · obtain ⟨e1, e2⟩ := dgE_le tn L (tn - S) S
      have hm := dgM_le tn L (tn - S) S 0 (by omega)
      have hz : V2 = wd3 V1 S 0 := by
        unfold wd3
        rw [wset_self (w := wset V1 92 20 (nI 0)) (a := 92) (j := 17) (v := nI S) (by rw [wset_v, if_neg (by omega), v17]), hV2]
        rfl
      have hrun := run_m hTV1 l v18 (tn - S) S 300 0 (by omega) (by omega) (by omega) (by omega)
      obtain ⟨E, hE⟩ : ∃ x, x = dgE tn L (tn - S) S := ⟨_, rfl⟩
      obtain ⟨m, hmm⟩ : ∃ x, x = dgM tn L (tn - S) S 0 := ⟨_, rfl⟩
      rw [← hE, ← hmm, ← hz] at hrun
      have hT : lxT tn L p = if 99 < m then 2 else if L S = 48 ∧ 1 < E - S then 2 else 1 := by
        unfold lxT lxE lxM
        rw [← hS, if_pos l, if_pos q, if_pos l, if_pos q, ← hE, ← hmm]
      have hEE : lxE tn L p = E := by unfold lxE; rw [← hS, if_pos l, if_pos q, hE]
      have hMM : lxM tn L p = m := by unfold lxM; rw [← hS, hmm]
      refine ⟨wset (wd3 V1 E m) 92 19 (nI (if 99 < m then 4 else if L S = 48 ∧ 1 < E - S then 4 else 2)), ?_, ?_, fun a j z => ?_, ?_, ?_, ?_, fun z => ?_, fun z => ?_⟩
      · rw [hpre, if_pos q, if_neg jj_ne10, hrun]
      · show V1.2 = w.2
        rw [hV1, wset_2, hV, wset_2]
      · rw [wset_v, if_neg (by omega), wd3_v, if_neg (by omega), if_neg (by omega), hV1, wset_v, if_neg (by omega), hV, wset_v, if_neg (by omega)]
      · rw [wset_v, if_neg (by omega), wd3_7, hEE]
      · rw [wset_v, if_neg (by omega), wd3_8, v18, hS]
      · rw [wset_v, if_pos ⟨rfl, rfl⟩, hT]
        by_cases y : 99 < m
        · rw [if_pos y, if_pos y]; rfl
        · rw [if_neg y, if_neg y]
          by_cases x : L S = 48 ∧ 1 < E - S
          · rw [if_pos x, if_pos x]; rfl
          · rw [if_neg x, if_neg x]; rfl
      · rw [wset_v, if_neg (by omega), wd3_0, hMM]
      · rw [hT] at z
        exfalso
        by_cases y : 99 < m
        · rw [if_pos y] at z; omega
        · rw [if_neg y] at z
          by_cases x : L S = 48 ∧ 1 < E - S
          · rw [if_pos x] at z; omega
          · rw [if_neg x] at z; omega
    · have hT : lxT tn L p = if isSg (L S) then L S else 2 := by
        unfold lxT
        rw [← hS, if_pos l, if_neg q]
      have hEE : lxE tn L p = S + 1 := by unfold lxE; rw [← hS, if_pos l, if_neg q]
      have body : ∀ t : Int32, bnd (wset V2 92 19 t) (fun w_20 => bnd (wset w_20 92 20 (nI (L S))) (fun w_22 => bnd (wset w_22 92 17 ((wget w_22 92 17) + (1 : Int32))) (fun w_24 => some ((), w_24)))) = some ((), wset (wset (wset V2 92 19 t) 92 20 (nI (L S))) 92 17 (nI (S + 1))) := fun t => by
        rw [jj_bnd, jj_bnd, jj_bnd, wget_def, wset_v, if_neg (by omega), wset_v, if_neg (by omega), v27, nI_1]
      have q100 : nI (L S) = 100 ↔ L S = 100 := nI_eq (b := 100) (by omega) (by decide)
      have q104 : nI (L S) = 104 ↔ L S = 104 := nI_eq (b := 104) (by omega) (by decide)
      have q103 : nI (L S) = 103 ↔ L S = 103 := nI_eq (b := 103) (by omega) (by decide)
      have q114 : nI (L S) = 114 ↔ L S = 114 := nI_eq (b := 114) (by omega) (by decide)
      have q59 : nI (L S) = 59 ↔ L S = 59 := nI_eq (b := 59) (by omega) (by decide)
      rw [if_neg q, if_pos (show (0 : Int32) = 0 from rfl), body, body, body] at hpre
      have hres : f_X6_next w = some ((), wset (wset (wset V2 92 19 (nI (mT (lxT tn L p)))) 92 20 (nI (L S))) 92 17 (nI (S + 1))) := by
        rw [hpre, hT]
        by_cases h1 : L S = 100
        · rw [if_pos (q100.mpr h1), if_pos (show isSg (L S) from Or.inl h1), h1]; rfl
        · rw [if_neg (fun z => h1 (q100.mp z))]
          by_cases h2 : L S = 104
          · rw [if_pos (q104.mpr h2), if_pos (show isSg (L S) from Or.inr (Or.inl h2)), h2]; rfl
          · rw [if_neg (fun z => h2 (q104.mp z))]
            by_cases h3 : L S = 103
            · rw [if_pos (q103.mpr h3), if_pos (show isSg (L S) from Or.inr (Or.inr (Or.inl h3))), h3]; rfl
            · rw [if_neg (fun z => h3 (q103.mp z))]
              by_cases h4 : L S = 114
              · rw [if_pos (q114.mpr h4), if_pos (show isSg (L S) from Or.inr (Or.inr (Or.inr (Or.inl h4)))), h4]; rfl
              · rw [if_neg (fun z => h4 (q114.mp z))]
                by_cases h5 : L S = 59
                · rw [if_pos (q59.mpr h5), if_pos (show isSg (L S) from Or.inr (Or.inr (Or.inr (Or.inr h5)))), h5]; rfl
                · rw [if_neg (fun z => h5 (q59.mp z)), if_neg (show ¬ isSg (L S) by omega)]; rfl
      refine ⟨_, hres, ?_, fun a j z => ?_, ?_, ?_, ?_, fun z => ?_, fun z => ?_⟩
      · rw [wset_2, wset_2, wset_2, v22]
      · rw [wset_v, if_neg (by omega), wset_v, if_neg (by omega), wset_v, if_neg (by omega), vo a j z]
      · rw [wset_v, if_pos ⟨rfl, rfl⟩, hEE]
      · rw [wset_v, if_neg (by omega), wset_v, if_neg (by omega), wset_v, if_neg (by omega), v28, hS]
      · rw [wset_v, if_neg (by omega), wset_v, if_neg (by omega), wset_v, if_pos ⟨rfl, rfl⟩]
      · rw [hT] at z
        exfalso
        by_cases y : isSg (L S)
        · rw [if_pos y] at z; omega
        · rw [if_neg y] at z; omega
      · rw [hT] at z ⊢
        by_cases y : isSg (L S)
        · rw [if_pos y, wset_v, if_neg (by omega), wset_v, if_pos ⟨rfl, rfl⟩]
        · rw [if_neg y] at z; omega
  · rw [if_neg l] at hl hl1
    have hT : lxT tn L p = 0 := by unfold lxT; rw [← hS, if_neg l]
    have hEE : lxE tn L p = S := by unfold lxE; rw [← hS, if_neg l]
    refine ⟨wset V2 92 19 0, ?_, ?_, fun a j z => ?_, ?_, ?_, ?_, fun z => by omega, fun z => by omega⟩
    · rw [e0, f_X6_next_l0, f_X6_next_h0, wget_def V, v7, hl, jj_cal, if_neg (show ¬ (-1 : Int32) = 32 by decide), jj_bnd, wget_def V, v7, ← hV1, wget_def V1, v17, hl1, jj_cal, jj_bnd, jj_bnd, ← hV2, if_neg (show ¬ (0 : Int32) ≤ -1 by decide), jj_bnd]
    · rw [wset_2, v22]
    · rw [wset_v, if_neg (by omega), vo a j z]
    · rw [wset_v, if_neg (by omega), v27, hEE]
    · rw [wset_v, if_neg (by omega), v28, hS]
    · rw [wset_v, if_pos ⟨rfl, rfl⟩, hT]; rfl
