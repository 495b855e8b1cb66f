/-! PURE: minute, heats, undo -/
theorem IvT_D {n : Nat} {w : Wd} (hT : IvT n w) : DInv n (w.1 92 5) (w.1 93) (w.1 94) := by
  obtain ⟨-, -, -, -, -, -, hg, -, hA⟩ := hT
  exact ⟨hg, fun d hd => ⟨(hA d hd).2.2.2.1, (hA d hd).2.2.2.2.1⟩⟩
theorem pass_14 {n M k : Nat} {w w1 : Wd} {row : Nat → Int32} (hn : n ≤ 6) (hk : k = 14 ∨ k = 19) (hT : IvT n w) (hf : ∀ a, a = 4 ∨ a = 5 ∨ a = 7 → w1.1 a = w.1 a) (hS : SRel n w1 k row) (hI : RInv n M row) :
    ∃ w', f_X4_passMinute k 4 w1 = some ((), w') ∧ w'.2 = w1.2 ∧ (∀ a, a < k ∨ k + 4 < a → w'.1 a = w1.1 a) ∧ SRel n w' k (minM n (w.1 92 5) (w.1 93) (w.1 94) row) ∧ RInv n (M + 1) (minM n (w.1 92 5) (w.1 93) (w.1 94) row) := by
  obtain ⟨-, -, -, t3, -, -, -, -, tA⟩ := id hT
  exact pass_sim hn (by omega) hS hI (IvT_D hT) (by rw [hf 4 (by simp)]; exact t3) (fun d hd => ⟨by rw [hf 5 (by simp)]; exact (tA d hd).1, by rw [hf 7 (by simp)]; exact (tA d hd).2.1⟩)
theorem op_minute : Op0 Iv f_X5_minute f_X6_minute := by
  intro w hI
  obtain ⟨n, hn, hT, hS, hP, hG, hN, hX, hE⟩ := id hI
  obtain ⟨t0, t1, -⟩ := id hT
  obtain ⟨kn, nx, pk, px, p2, p9, p1, pold⟩ := id hP
  obtain ⟨⟨s0, s1, sA, sB⟩, m, h, i0, im, i1, ih, iA⟩ := id hS
  by_cases h99 : m = 99
  · subst h99
    refine ⟨-2, w, w, ?_, ?_, hI⟩
    · rw [f_X5_minute, f_X5_minute_b0, wget_def, s0, i0, if_neg (show ¬ nI 99 < 99 by decide)]
    · rw [f_X6_minute, f_X6_minute_b0, wget_def, i0, if_pos (show nI 99 = 99 from rfl)]
  · have hR98 : RInv n 98 (w.1 96) := ⟨m, h, i0, by omega, i1, ih, iA⟩
    obtain ⟨w1, c0, hC⟩ := rem_c hn hS p1 px p2 pk
    obtain ⟨c1, c2, -⟩ := id hC
    have hS1 : SRel n w1 14 (w.1 96) := SRel_cong hS.1 (fun a h1 h2 => c2 a (by omega) (by omega))
    have hf1 : ∀ a, a = 4 ∨ a = 5 ∨ a = 7 → w1.1 a = w.1 a := fun a ha => c2 a (by omega) (by omega)
    obtain ⟨w2, g0, g1, g2, -⟩ := pass_14 hn (Or.inl rfl) hT hf1 hS1 hR98
    have e92 : w2.1 92 = w.1 92 := by rw [g2 92 (by omega), c2 92 (by omega) (by omega)]
    have e96 : w2.1 96 = w.1 96 := by rw [g2 96 (by omega), c2 96 (by omega) (by omega)]
    obtain ⟨w3, m0, hM⟩ := remM (w := w2) (kn := kn) (by rw [e92]; exact p9) pk
    obtain ⟨m1, m2, m3, -⟩ := id hM
    obtain ⟨w4, a0, a1, a2⟩ := asItIs_eq w3
    have a103 : ∀ i, i < 26 → w.1 96 i = w4.1 103 i := fun i hi => by rw [a2 i hi, m2 96 (by decide) (by decide), e96]
    have ao : ∀ a, a ≠ 103 → w4.1 a = w3.1 a := fun a ha => by rw [a1]; exact wrow_off ha
    have a92 : ∀ j, j ≠ 9 → w4.1 92 j = w.1 92 j := fun j hj => by rw [ao 92 (by decide), m3 j hj, e92]
    have a93 : w4.1 93 = w.1 93 := by rw [ao 93 (by decide), m2 93 (by decide) (by decide), g2 93 (by omega), c2 93 (by omega) (by omega)]
    have a94 : w4.1 94 = w.1 94 := by rw [ao 94 (by decide), m2 94 (by decide) (by decide), g2 94 (by omega), c2 94 (by omega) (by omega)]
    have q0 := goesBy_eq (w := w4) (n := n) (by rw [a92 0 (by decide)]; exact t0) hn
    rw [a92 5 (by decide), a93, a94] at q0
    obtain ⟨row, hrow⟩ : ∃ x, x = minM n (w.1 92 5) (w.1 93) (w.1 94) (w4.1 103) := ⟨_, rfl⟩
    rw [← hrow] at q0
    obtain ⟨w2', g0', -, -, g3, g4⟩ := pass_14 (w1 := w1) hn (Or.inl rfl) hT hf1 (SRel_row hn hS1 a103) (RInv_row hn hR98 a103)
    obtain rfl : w2 = w2' := by
      have hq := g0.symm.trans g0'
      injection hq with hq
      injection hq
    rw [← hrow] at g3 g4
    obtain ⟨w5, hw5⟩ : ∃ x, x = wrow w4 103 row := ⟨_, rfl⟩
    have b103 : w5.1 103 = row := by rw [hw5]; exact wrow_row w4 103 row
    have bo : ∀ a, a ≠ 103 → w5.1 a = w4.1 a := fun a ha => by rw [hw5]; exact wrow_off ha
    obtain ⟨v, hv⟩ : ∃ x, x = wrow w5 96 (fun j => if 0 ≤ j ∧ j < 0 + 26 then w5.1 103 (0 + (j - 0)) else w5.1 96 j) := ⟨_, rfl⟩
    have hcp : f_X6_copy 96 103 0 0 w5 = some ((), v) := by
      rw [hv]
      exact copy26 (k0 := 96) (k2 := 103) (a := 0) (c := 0) (by decide) (by decide) (by decide) (by decide) (by decide) w5
    have v96 : ∀ j, j < 26 → row j = v.1 96 j := fun j hj => by
      rw [hv, wrow_row, if_pos (by omega), b103, Nat.zero_add, Nat.sub_zero]
    have vo : ∀ a, a ≠ 96 → v.1 a = w5.1 a := fun a ha => by rw [hv]; exact wrow_off ha
    have vS : ∀ a, 14 ≤ a → a ≤ 18 → v.1 a = w2.1 a := fun a h1 h2 => by rw [vo a (by omega), bo a (by omega), ao a (by omega), m2 a (by omega) (by omega)]
    have e4 : v.1 92 0 = nI n := by rw [vo 92 (by decide), bo 92 (by decide), a92 0 (by decide)]; exact t0
    have hup : bset (fun d => decide (w2.1 15 d = 0)) 6 = bset (fun d => decide (v.1 103 (2 + d) = 0)) n := bset6 hn (fun d hd => by
        have := (g3.2.2.1 d hd).1
        show decide _ = decide _
        rw [vo 103 (by decide), b103, ← this]) (fun d h1 h2 => by
        have := (g3.2.2.2 d h1 h2).1
        show decide (w2.1 15 d = 0) = false
        rw [this]; rfl)
    refine ⟨nI (popc (bset (fun d => decide (v.1 103 (2 + d) = 0)) n)), w2, v, ?_, ?_, ?_⟩
    · rw [f_X5_minute, f_X5_minute_b0, wget_def, s0, i0, if_pos (show nI m < 99 from nI_lt (b := 99) (by omega) (by decide)), c0, jj_cal, g0, jj_cal, upOnes_eq, jj_cal, bc_eq (bset_lt _ 6), jj_cal, hup]
    · rw [f_X6_minute, f_X6_minute_b0, wget_def, e96, i0, if_neg (show ¬ nI m = 99 from fun q => h99 ((nI_eq (a := m) (b := 99) (by omega) (by decide)).mp q)), m0, jj_cal, a0, jj_cal, q0, jj_cal, ← hw5, hcp, jj_cal, atDepth_eq e4 hn, jj_cal, bits_eq (lt64 hn (bset_lt _ n)), jj_cal]
    · exact Iv_did hn hT hS pk px pold hG hN hX hE hC g1 g2 hM (by rw [hv, wrow_2, hw5, wrow_2, a1, wrow_2]) (fun a h1 h2 => by rw [vo a h1, bo a h2, ao a h2]) (SRel_row hn (SRel_cong g3 vS) v96) (RInv_row hn g4 v96)
theorem le9 {x : Int32} (h : x ≤ 9) : ¬ (9 : Int32) < x := by
  rw [Int32.le_iff_toInt_le] at h
  rw [Int32.lt_iff_toInt_lt]
  omega
theorem nle9 {x : Int32} (h : ¬ x ≤ 9) : (9 : Int32) < x := by
  rw [Int32.le_iff_toInt_le] at h
  rw [Int32.lt_iff_toInt_lt]
  omega
theorem op_heats : Op1 Iv f_X5_heats f_X6_heats := by
  intro a w hI
  obtain ⟨n, hn, hT, hS, hP, hG, hN, hX, hE⟩ := id hI
  obtain ⟨t0, t1, -⟩ := id hT
  obtain ⟨kn, nx, pk, px, p2, p9, p1, pold⟩ := id hP
  obtain ⟨⟨s0, s1, sA, sB⟩, m, h, i0, im, i1, ih, iA⟩ := id hS
  by_cases g1 : a < 0
  · refine ⟨-1, w, w, ?_, ?_, hI⟩
    · rw [f_X5_heats, f_X5_heats_b0, if_pos g1]
    · rw [f_X6_heats, f_X6_heats_b0, in_eq, if_neg (fun q => q.1 g1), jj_cal, if_pos rfl]
  · by_cases g2 : a ≤ 9
    · obtain ⟨ac, hac, rfl⟩ := nI_of g1
      have hac2 : ac ≤ 9 := (nI_leI hac (by decide)).mp g2
      by_cases g3 : w.1 14 1 = nI ac
      · refine ⟨-2, w, w, ?_, ?_, hI⟩
        · rw [f_X5_heats, f_X5_heats_b0, if_neg g1, if_pos g2, wget_def, if_pos g3]
        · rw [f_X6_heats, f_X6_heats_b0, in_eq, if_pos ⟨g1, le9 g2⟩, jj_cal, if_neg jj_ne10, jj_bnd, wget_def, if_pos (by rw [← s1]; exact g3)]
      · obtain ⟨w1, c0, hC⟩ := rem_c hn hS p1 px p2 pk
        obtain ⟨c1, c2, -⟩ := id hC
        obtain ⟨w2, hw2⟩ : ∃ x, x = wset w1 14 1 (nI ac) := ⟨_, rfl⟩
        have d2 : ∀ a, a < 14 ∨ 18 < a → w2.1 a = w1.1 a := fun a ha => by rw [hw2]; exact (wset_off w1 14 1 (nI ac) a (by omega)).1
        have e92 : w2.1 92 = w.1 92 := by rw [d2 92 (by omega), c2 92 (by omega) (by omega)]
        have e96 : w2.1 96 = w.1 96 := by rw [d2 96 (by omega), c2 96 (by omega) (by omega)]
        obtain ⟨w3, m0, hM⟩ := remM (w := w2) (kn := kn) (by rw [e92]; exact p9) pk
        obtain ⟨m1, m2, m3, -⟩ := id hM
        obtain ⟨v, hv⟩ : ∃ x, x = wset w3 96 1 (nI ac) := ⟨_, rfl⟩
        have vo : ∀ a, a ≠ 96 → v.1 a = w3.1 a := fun a ha => by rw [hv]; exact (wset_off w3 96 1 (nI ac) a ha).1
        have v96 : ∀ j, v.1 96 j = if j = 1 then nI ac else w.1 96 j := fun j => by
          rw [hv, wset_v, m2 96 (by decide) (by decide), e96]
          simp only [true_and]
        have vS : ∀ a, 14 ≤ a → a ≤ 18 → v.1 a = w2.1 a := fun a h1 h2 => by rw [vo a (by omega), m2 a (by omega) (by omega)]
        have z14 : ∀ j, w2.1 14 j = if j = 1 then nI ac else w.1 14 j := fun j => by rw [hw2, wset_v, c2 14 (by omega) (by omega)]; simp only [true_and]
        have zo : ∀ a, 14 ≤ a → a ≤ 18 → a ≠ 14 → w2.1 a = w.1 a := fun a h1 h2 h3 => by rw [hw2, (wset_off w1 14 1 (nI ac) a h3).1, c2 a (by omega) (by omega)]
        have x14 : w1.1 14 1 = w.1 96 1 := by rw [c2 14 (by omega) (by omega)]; exact s1
        refine ⟨w.1 96 1, w2, v, ?_, ?_, ?_⟩
        · rw [f_X5_heats, f_X5_heats_b0, if_neg g1, if_pos g2, wget_def, if_neg g3, c0, jj_cal, jj_bnd, jj_bnd, ← hw2, wget_def, x14]
        · rw [f_X6_heats, f_X6_heats_b0, in_eq, if_pos ⟨g1, le9 g2⟩, jj_cal, if_neg jj_ne10, jj_bnd, wget_def, e96, if_neg (by rw [← s1]; exact g3), m0, jj_cal, jj_bnd, ← hv]
        · refine Iv_did hn hT hS pk px pold hG hN hX hE hC (by rw [hw2]; rfl) d2 hM (by rw [hv]; rfl) (fun a h1 h2 => vo a h1) ⟨?_, ?_, fun e he => ⟨?_, ?_, ?_, ?_⟩, fun e h1 h2 => ⟨?_, ?_⟩⟩ ⟨m, ac, ?_, im, ?_, hac2, fun e he => ?_⟩
          · rw [vS 14 (by omega) (by omega), z14, if_neg (by omega), v96, if_neg (by omega)]; exact s0
          · rw [vS 14 (by omega) (by omega), z14, if_pos rfl, v96, if_pos rfl]
          · rw [vS 15 (by omega) (by omega), zo 15 (by omega) (by omega) (by omega), v96, if_neg (by omega)]; exact (sA e he).1
          · rw [vS 16 (by omega) (by omega), zo 16 (by omega) (by omega) (by omega), v96, if_neg (by omega)]; exact (sA e he).2.1
          · rw [vS 17 (by omega) (by omega), zo 17 (by omega) (by omega) (by omega), v96, if_neg (by omega)]; exact (sA e he).2.2.1
          · rw [vS 18 (by omega) (by omega), zo 18 (by omega) (by omega) (by omega), v96, if_neg (by omega)]; exact (sA e he).2.2.2
          · rw [vS 15 (by omega) (by omega), zo 15 (by omega) (by omega) (by omega)]; exact (sB e h1 h2).1
          · rw [vS 18 (by omega) (by omega), zo 18 (by omega) (by omega) (by omega)]; exact (sB e h1 h2).2
          · rw [v96, if_neg (by omega)]; exact i0
          · rw [v96, if_pos rfl]
          · rw [v96, if_neg (by omega), v96, if_neg (by omega), v96, if_neg (by omega), v96, if_neg (by omega)]; exact iA e he
    · refine ⟨-1, w, w, ?_, ?_, hI⟩
      · rw [f_X5_heats, f_X5_heats_b0, if_neg g1, if_neg g2]
      · rw [f_X6_heats, f_X6_heats_b0, in_eq, if_neg (fun q => q.2 (nle9 g2)), jj_cal, if_pos rfl]
theorem op_undo : Op0 Iv f_X5_undo f_X6_undo := by
  intro w hI
  obtain ⟨n, hn, hT, hS, hP, hG, hN, hX, hE⟩ := id hI
  obtain ⟨kn, nx, pk, px, p2, p9, p1, pold⟩ := id hP
  by_cases hk : kn = 0
  · subst hk
    refine ⟨-2, w, w, ?_, ?_, hI⟩
    · rw [f_X5_undo, f_X5_undo_b0, wget_def, p2, if_pos (show nI 0 = 0 from rfl)]
    · rw [f_X6_undo, f_X6_undo_b0, wget_def, p9, if_pos (show nI 0 = 0 from rfl)]
  · obtain ⟨w1, c0, c1, c2, c3, c4, c5⟩ := recC p1 px p2 (by omega) pk
    obtain ⟨w2, hw2⟩ : ∃ x, x = wset w1 92 9 (nI (kn - 1)) := ⟨_, rfl⟩
    obtain ⟨v, hv⟩ : ∃ x, x = wrow w2 96 (fun j => if 0 ≤ j ∧ j < 0 + 26 then w2.1 97 (26 * (kn - 1) + (j - 0)) else w2.1 96 j) := ⟨_, rfl⟩
    have hcp : f_X6_copy 96 97 0 (nI (26 * (kn - 1))) w2 = some ((), v) := by
      rw [hv]
      exact copy26 (k0 := 96) (k2 := 97) (a := 0) (c := 26 * (kn - 1)) (by decide) (by decide) (show 26 * (kn - 1) + 26 ≤ 260 by omega) (by decide) (by decide) w2
    have e9 : w1.1 92 = w.1 92 := c2 92 (by omega) (by omega)
    have z9 : w2.1 92 9 = nI (kn - 1) := by rw [hw2, wset_v, if_pos ⟨rfl, rfl⟩]
    have vo : ∀ a, a ≠ 96 → a ≠ 92 → v.1 a = w1.1 a := fun a ha hb => by rw [hv, wrow_off ha, hw2]; exact (wset_off w1 92 9 _ a hb).1
    have g : ∀ a, a ≠ 96 → a ≠ 92 → a ≠ 24 → (a < 14 ∨ 18 < a) → v.1 a = w.1 a := fun a h1 h2 h3 h4 => by rw [vo a h1 h2, c2 a h3 h4]
    have v92 : v.1 92 = w2.1 92 := by rw [hv]; exact wrow_off (by decide)
    have g92 : ∀ j, j ≠ 9 → v.1 92 j = w.1 92 j := fun j hj => by rw [v92, hw2, wset_v, if_neg (by omega), e9]
    have e97 : w2.1 97 = w.1 97 := by rw [hw2, (wset_off w1 92 9 _ 97 (by decide)).1]; exact c2 97 (by omega) (by omega)
    have v96 : ∀ j, j < 26 → w.1 97 (26 * (kn - 1) + j) = v.1 96 j := fun j hj => by rw [hv, wrow_row, if_pos (by omega), e97, Nat.sub_zero]
    have k1 : nI kn - 1 = nI (kn - 1) := nI_sub (b := 1) (by omega)
    obtain ⟨o1, o2⟩ := pold (kn - 1) (by omega)
    have ex : (nx + 10 - kn + (kn - 1)) % 10 = (nx + 9) % 10 := by omega
    rw [ex] at o1
    have o3 := c5 n _ hn o1
    refine ⟨nI (kn - 1), w1, v, ?_, ?_, n, hn, IvT_cong hT (fun j hj => g92 j (by omega)) (fun a ha => g a (by omega) (by omega) (by omega) (by omega)), ⟨?_, ?_⟩, ⟨kn - 1, (nx + 9) % 10, by omega, by omega, ?_, ?_, ?_, fun j hj => ?_⟩,
      IvG_cong hG (by rw [g 0 (by omega) (by omega) (by omega) (by omega)]) (fun a h1 h2 => g a (by omega) (by omega) (by omega) (by omega)) (g 98 (by omega) (by omega) (by omega) (by omega)) (g 99 (by omega) (by omega) (by omega) (by omega)),
      IvN_cong hN (by rw [g 86 (by omega) (by omega) (by omega) (by omega)]) (g92 12 (by decide)) (fun a ha => g a (by omega) (by omega) (by omega) (by omega)),
      IvX_cong hX (by rw [g 1 (by omega) (by omega) (by omega) (by omega)]) (g92 16 (by decide)) (g 2 (by omega) (by omega) (by omega) (by omega)) (g 101 (by omega) (by omega) (by omega) (by omega)),
      IvE_cong hE (by rw [hv, wrow_2, hw2, wset_2, c1]) (by rw [g 90 (by omega) (by omega) (by omega) (by omega)])⟩
    · rw [f_X5_undo, f_X5_undo_b0, wget_def, p2, if_neg (show ¬ nI kn = 0 from fun q => hk ((nI_eq (a := kn) (b := 0) (by omega) (by decide)).mp q)), c0, jj_cal, wget_def, c4]
    · rw [f_X6_undo, f_X6_undo_b0, wget_def, e9, p9, if_neg (show ¬ nI kn = 0 from fun q => hk ((nI_eq (a := kn) (b := 0) (by omega) (by decide)).mp q)), jj_bnd, k1, ← hw2, wget_def, z9, lit26, hcp, jj_cal, wget_def, v92, z9]
    · exact SRel_row hn (SRel_cong o3 (fun a h1 h2 => vo a (by omega) (by omega))) v96
    · exact RInv_row hn o2 v96
    · rw [vo 24 (by decide) (by decide)]; exact c4
    · rw [v92]; exact z9
    · rw [vo 24 (by decide) (by decide)]; exact c3
    · obtain ⟨q1, q2⟩ := pold j (by omega)
      have ej : (nx + 10 - kn + j) % 10 = ((nx + 9) % 10 + 10 - (kn - 1) + j) % 10 := by omega
      rw [ej] at q1
      rw [g 97 (by omega) (by omega) (by omega) (by omega)]
      exact ⟨SRel_cong q1 (fun a h1 h2 => g a (by omega) (by omega) (by omega) (by omega)), q2⟩
