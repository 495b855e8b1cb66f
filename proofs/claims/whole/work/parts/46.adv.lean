/-! PURE: the next word, class -/
theorem wset_self {w : Wd} {a j : Nat} {v : Int32} (h : w.1 a j = v) : wset w a j v = w := by
  refine Prod.ext ?_ rfl
  funext b i
  rw [wset_v]
  by_cases q : b = a ∧ i = j
  · rw [if_pos q, q.1, q.2, h]
  · rw [if_neg q]
theorem adv_c {tn p : Nat} {L : Nat → Nat} {w : Wd} (h : TxC tn L w) (hp : p ≤ tn) (h3 : w.1 1 3 = nI p) : ∃ w', f_X1_advance w = some ((), w') ∧ w'.2 = w.2 ∧ (∀ a j, ¬ (a = 1 ∧ 3 ≤ j ∧ j ≤ 6) → w'.1 a j = w.1 a j) ∧ w'.1 1 3 = nI (lxE tn L p) ∧ w'.1 1 4 = nI (lxS tn L p) ∧ w'.1 1 5 = nI (lxT tn L p) ∧ (lxT tn L p = 1 → w'.1 1 6 = nI (lxM tn L p) ∧ lxM tn L p ≤ 99) := by
  have ht := h.1
  have hsk := skp_le tn L (tn - p) p
  obtain ⟨S, hS⟩ : ∃ x, x = lxS tn L p := ⟨_, rfl⟩
  have hS1 : p ≤ S ∧ S ≤ tn := by rw [hS]; unfold lxS; omega
  obtain ⟨V, hV⟩ : ∃ x, x = wset w 1 3 (nI S) := ⟨_, rfl⟩
  obtain ⟨V1, hV1⟩ : ∃ x, x = wset V 1 4 (nI S) := ⟨_, rfl⟩
  have hTV1 : TxC tn L V1 := by rw [hV1, hV]; exact TxC_wset (TxC_wset h (by omega) _) (by omega) _
  have v3 : V.1 1 3 = nI S := by rw [hV, wset_v, if_pos ⟨rfl, rfl⟩]
  have v13 : V1.1 1 3 = nI S := by rw [hV1, wset_v, if_neg (by omega), v3]
  have v12 : V1.1 1 2 = nI tn := hTV1.2.1
  have vo : ∀ a j, ¬ (a = 1 ∧ 3 ≤ j ∧ j ≤ 6) → V1.1 a j = w.1 a j := fun a j q => by rw [hV1, wset_v, if_neg (by omega), hV, wset_v, if_neg (by omega)]
  have e0 : f_X1_advance w = f_X1_advance_b37 V := by
    rw [f_X1_advance, f_X1_advance_b0, jj_bnd, hV, hS]
    have := skip_c h (tn - p) p 0 300 (by omega) (by omega) (by omega)
    rw [wset_self h3] at this
    exact this
  by_cases l : S < tn
  · obtain ⟨-, hL⟩ := h.2.2 S l
    by_cases q : isD (L S)
    · obtain ⟨e1, e2⟩ := dgE_le tn L (tn - S) S
      have hm := dgM_le tn L (tn - S) S 0 (by omega)
      obtain ⟨E, hE⟩ : ∃ x, x = dgE tn L (tn - S) S := ⟨_, rfl⟩
      obtain ⟨m, hmm⟩ : ∃ x, x = dgM tn L (tn - S) S 0 := ⟨_, rfl⟩
      rw [← hE] at e1 e2
      rw [← hmm] at hm
      have hz : wset V1 1 6 0 = wd2 V1 S (min 100 0) := (wset_self (w := wset V1 1 6 0) (a := 1) (j := 3) (v := nI S) (by rw [wset_v, if_neg (by omega), v13])).symm
      have hrun := run_c hTV1 (tn - S) S 0 300 0 (by omega) (by omega) (by omega) (by omega)
      rw [← hE, ← hmm] at hrun
      have hdec := dec_c (st := S) (e := E) (v := min 100 m) (TxC_wd2 hTV1 E (min 100 m)) l (by rw [wd2_v, if_neg (by omega), if_neg (by omega), hV1, wset_v, if_pos ⟨rfl, rfl⟩]) (wd2_3 _ _ _) (wd2_6 _ _ _) (by omega) (by omega) (by omega)
      have hT : lxT tn L p = if 99 < min 100 m then 2 else if L S = 48 ∧ 1 < E - S then 2 else 1 := by
        unfold lxT lxE lxM
        rw [← hS, if_pos l, if_pos q, if_pos l, if_pos q, ← hE, ← hmm]
        by_cases y : 99 < m
        · rw [if_pos y, if_pos (by omega)]
        · rw [if_neg y, if_neg (show ¬ 99 < min 100 m by omega)]
      have hEE : lxE tn L p = E := by unfold lxE; rw [← hS, if_pos l, if_pos q, hE]
      have hMM : lxM tn L p = m := by unfold lxM; rw [← hS, hmm]
      refine ⟨wset (wd2 V1 E (min 100 m)) 1 5 (nI (if 99 < min 100 m then 2 else if L S = 48 ∧ 1 < E - S then 2 else 1)), ?_, ?_, fun a j z => ?_, ?_, ?_, ?_, fun z => ?_⟩
      · rw [e0, f_X1_advance_b37, jj_bnd, wget_def V, v3, ← hV1, wget_def, v13, letter_c hTV1 (by omega), jj_cal, jj_bnd, if_pos l, wget_def, wget_def, v13, v12, if_pos (nI_lt l (by omega)), digit_c, digI hL, jj_cal, if_pos q, if_neg jj_ne10, f_X1_takeDigits, f_X1_takeDigits_b0, jj_bnd, jj_bnd, hz, show (0 : Int32) = nI 0 from rfl, hrun, hdec, jj_cal]
      · rw [wset_2]
        show V1.2 = w.2
        rw [hV1, wset_2, hV, wset_2]
      · rw [wset_v, if_neg (by omega), wd2_v, if_neg (by omega), if_neg (by omega), vo a j z]
      · rw [wset_v, if_neg (by omega), wd2_3, hEE]
      · rw [wset_v, if_neg (by omega), wd2_v, if_neg (by omega), if_neg (by omega), hV1, wset_v, if_pos ⟨rfl, rfl⟩, hS]
      · rw [wset_v, if_pos ⟨rfl, rfl⟩, hT]
      · rw [hT] at z
        have h99 : m ≤ 99 := by
          by_cases y : 99 < min 100 m
          · rw [if_pos y] at z; omega
          · omega
        refine ⟨?_, by rw [hMM]; exact h99⟩
        rw [wset_v, if_neg (by omega), wd2_6, hMM, Nat.min_eq_right (by omega)]
    · have hT : lxT tn L p = if isSg (L S) then L S else 2 := by
        unfold lxT
        rw [← hS, if_pos l, if_neg q]
      have hEE : lxE tn L p = S + 1 := by unfold lxE; rw [← hS, if_pos l, if_neg q]
      refine ⟨wset (wset V1 1 3 (nI (S + 1))) 1 5 (nI (if isSg (L S) then L S else 2)), ?_, ?_, fun a j z => ?_, ?_, ?_, ?_, fun z => ?_⟩
      · rw [e0, f_X1_advance_b37, jj_bnd, wget_def V, v3, ← hV1, wget_def, v13, letter_c hTV1 (by omega), jj_cal, jj_bnd, if_pos l, wget_def, wget_def, v13, v12, if_pos (nI_lt l (by omega)), digit_c, digI hL, jj_cal, if_neg q, if_pos (show (0 : Int32) = 0 from rfl), jj_bnd, wget_def V1, v13, nI_1, sign_c hL, jj_cal]
        by_cases y : isSg (L S)
        · rw [if_pos y, if_neg jj_ne10, jj_bnd, if_pos y]
        · rw [if_neg y, if_pos (show (0 : Int32) = 0 from rfl), jj_bnd, if_neg y]; rfl
      · rw [wset_2, wset_2, hV1, wset_2, hV, wset_2]
      · rw [wset_v, if_neg (by omega), wset_v, if_neg (by omega), vo a j z]
      · rw [wset_v, if_neg (by omega), wset_v, if_pos ⟨rfl, rfl⟩, hEE]
      · rw [wset_v, if_neg (by omega), wset_v, if_neg (by omega), hV1, wset_v, if_pos ⟨rfl, rfl⟩, hS]
      · rw [wset_v, if_pos ⟨rfl, rfl⟩, hT]
      · rw [hT] at z
        exfalso
        by_cases y : isSg (L S)
        · rw [if_pos y] at z; omega
        · rw [if_neg y] at z; omega
  · have hT : lxT tn L p = 0 := by unfold lxT; rw [← hS, if_neg l]
    have hEE : lxE tn L p = S := by unfold lxE; rw [← hS, if_neg l]
    refine ⟨wset V1 1 5 0, ?_, ?_, fun a j z => ?_, ?_, ?_, ?_, fun z => by omega⟩
    · rw [e0, f_X1_advance_b37, jj_bnd, wget_def V, v3, ← hV1, wget_def, v13, letter_c hTV1 (by omega), jj_cal, jj_bnd, if_neg l, wget_def, wget_def, v13, v12, if_neg (jj_le_nlt (nI_le (show tn ≤ S by omega) (by omega))), jj_bnd]
    · rw [wset_2, hV1, wset_2, hV, wset_2]
    · rw [wset_v, if_neg (by omega), vo a j z]
    · rw [wset_v, if_neg (by omega), v13, hEE]
    · rw [wset_v, if_neg (by omega), hV1, wset_v, if_pos ⟨rfl, rfl⟩, hS]
    · rw [wset_v, if_pos ⟨rfl, rfl⟩, hT]; rfl
