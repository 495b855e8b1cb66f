/-! PURE: the first world -/
theorem begin_l : ∀ (k i f : Nat) (w : Wd), i + k = 6 → k < f → ∃ w', f_X4_begin_l15 14 4 f (nI i) w = some ((), w') ∧ w'.2 = w.2 ∧ (∀ a, a < 15 ∨ 18 < a → w'.1 a = w.1 a) ∧ (∀ j, i ≤ j → j < 6 → w'.1 15 j = -9 ∧ w'.1 16 j = w.1 6 j ∧ w'.1 17 j = nI (2 ^ j) ∧ w'.1 18 j = -9) ∧ ∀ j a, j < i → w'.1 a j = w.1 a j
  | 0, i, f, w, hi, hf => by
    obtain ⟨f, rfl⟩ : ∃ k, f = k + 1 := ⟨f - 1, by omega⟩
    obtain rfl : i = 6 := by omega
    refine ⟨w, ?_, rfl, fun _ _ => rfl, fun j h1 h2 => by omega, fun _ _ _ => rfl⟩
    rw [f_X4_begin_l15, f_X4_begin_h15, if_pos (by decide)]
  | k + 1, i, f, w, hi, hf => by
    obtain ⟨f, rfl⟩ : ∃ k, f = k + 1 := ⟨f - 1, by omega⟩
    have hi6 : i < 6 := by omega
    obtain ⟨u1, hu1⟩ : ∃ x, x = wset w 15 i (-9) := ⟨_, rfl⟩
    obtain ⟨u2, hu2⟩ : ∃ x, x = wset u1 16 i (u1.1 6 i) := ⟨_, rfl⟩
    obtain ⟨u3, hu3⟩ : ∃ x, x = wset u2 17 i (nI (2 ^ i)) := ⟨_, rfl⟩
    obtain ⟨u4, hu4⟩ : ∃ x, x = wset u3 18 i (-9) := ⟨_, rfl⟩
    have e6 : u1.1 6 i = w.1 6 i := by rw [hu1, wset_v, if_neg (by omega)]
    have e4 : ∀ a j, u4.1 a j = if a = 18 ∧ j = i then -9 else if a = 17 ∧ j = i then nI (2 ^ i) else if a = 16 ∧ j = i then w.1 6 i else if a = 15 ∧ j = i then -9 else w.1 a j := fun a j => by
      rw [hu4, wset_v, hu3, wset_v, hu2, wset_v, e6, hu1, wset_v]
    obtain ⟨w', h1, h2, h3, h4, h5⟩ := begin_l k (i + 1) f u4 (by omega) (by omega)
    refine ⟨w', ?_, ?_, fun a ha => ?_, fun j g1 g2 => ?_, fun j a g => ?_⟩
    · rw [f_X4_begin_l15, f_X4_begin_h15, if_neg (show ¬ (6 : Int32) ≤ nI i from nI_ge (b := 6) hi6 (by decide)), jj_grd (jj_i6 hi6), jj_bnd, jj_grd (jj_i6 hi6), jj_grd (jj_i6 hi6), jj_bnd, jj_grd (jj_i6 hi6), jj_bnd, jj_grd (jj_i6 hi6), jj_bnd, jj_bnd, nI_1, jj_tn (show i < 2 ^ 31 by omega), jj_shl (show i < 7 by omega), ← hu1, wget_def, ← hu2, ← hu3, ← hu4, h1]
    · rw [h2, hu4, wset_2, hu3, wset_2, hu2, wset_2, hu1, wset_2]
    · rw [h3 a ha]
      funext j
      rw [e4, if_neg (by omega), if_neg (by omega), if_neg (by omega), if_neg (by omega)]
    · by_cases z : j = i
      · subst z
        rw [h5 j 15 (by omega), h5 j 16 (by omega), h5 j 17 (by omega), h5 j 18 (by omega), e4, e4, e4, e4]
        refine ⟨?_, ?_, ?_, ?_⟩
        · rw [if_neg (by omega), if_neg (by omega), if_neg (by omega), if_pos ⟨rfl, rfl⟩]
        · rw [if_neg (by omega), if_neg (by omega), if_pos ⟨rfl, rfl⟩]
        · rw [if_neg (by omega), if_pos ⟨rfl, rfl⟩]
        · rw [if_pos ⟨rfl, rfl⟩]
      · obtain ⟨q1, q2, q3, q4⟩ := h4 j (by omega) g2
        refine ⟨q1, ?_, q3, q4⟩
        rw [q2, e4, if_neg (by omega), if_neg (by omega), if_neg (by omega), if_neg (by omega)]
    · rw [h5 j a (by omega), e4, if_neg (by omega), if_neg (by omega), if_neg (by omega), if_neg (by omega)]
theorem begin_eq (w : Wd) : ∃ w', f_X4_begin 14 4 w = some ((), w') ∧ w'.2 = w.2 ∧ (∀ a, a < 14 ∨ 18 < a → w'.1 a = w.1 a) ∧ w'.1 14 0 = 0 ∧ w'.1 14 1 = w.1 4 1 ∧ ∀ j, j < 6 → w'.1 15 j = -9 ∧ w'.1 16 j = w.1 6 j ∧ w'.1 17 j = nI (2 ^ j) ∧ w'.1 18 j = -9 := by
  obtain ⟨u1, hu1⟩ : ∃ x, x = wset w 14 0 0 := ⟨_, rfl⟩
  obtain ⟨u2, hu2⟩ : ∃ x, x = wset u1 14 1 (u1.1 4 1) := ⟨_, rfl⟩
  have e41 : u1.1 4 1 = w.1 4 1 := by rw [hu1, wset_v, if_neg (by omega)]
  have e2 : ∀ a, a ≠ 14 → u2.1 a = w.1 a := fun a ha => by rw [hu2, (wset_off _ 14 _ _ a ha).1, hu1, (wset_off _ 14 _ _ a ha).1]
  obtain ⟨w', h1, h2, h3, h4, -⟩ := begin_l 6 0 300 u2 rfl (by decide)
  refine ⟨w', ?_, ?_, fun a ha => ?_, ?_, ?_, fun j hj => ?_⟩
  · rw [f_X4_begin, f_X4_begin_b0, jj_bnd, ← hu1, jj_bnd, wget_def, ← hu2, jj_bnd]
    exact h1
  · rw [h2, hu2, wset_2, hu1, wset_2]
  · rw [h3 a (by omega), e2 a (by omega)]
  · rw [h3 14 (by omega), hu2, wset_v, if_neg (by omega), hu1, wset_v, if_pos ⟨rfl, rfl⟩]
  · rw [h3 14 (by omega), hu2, wset_v, if_pos ⟨rfl, rfl⟩, e41]
  · obtain ⟨q1, q2, q3, q4⟩ := h4 j (by omega) hj
    exact ⟨q1, by rw [q2, e2 6 (by omega)], q3, q4⟩
theorem wI_lo (w : Wd) {a : Nat} (h : a < 92) (j : Nat) : (wI w).1 a j = w.1 a j := if_pos h
theorem wI_hi (w : Wd) {a : Nat} (h : 92 ≤ a) (j : Nat) (h1 : ¬ (a = 92 ∧ j = 4)) (h2 : ¬ (a = 92 ∧ j = 5)) (h3 : ¬ (a = 92 ∧ j = 6)) (h4 : ¬ (a = 96 ∧ j = 1)) : (wI w).1 a j = 0 := by
  show (if a < 92 then w.1 a j else if a = 92 ∧ j = 4 then 3 else if a = 92 ∧ j = 5 then 1 else if a = 92 ∧ j = 6 then 20 else if a = 96 ∧ j = 1 then 3 else 0) = 0
  rw [if_neg (by omega), if_neg h1, if_neg h2, if_neg h3, if_neg h4]
theorem first_ok : ∃ wa w1, f_X2_setAsAtFirst 4 w0 = some ((), wa) ∧ f_X4_begin 14 4 wa = some ((), w1) ∧ Iv (wI w1) := by
  obtain ⟨wa, hwa⟩ : ∃ x, x = wset (wset (wset (wset w0 4 0 0) 4 1 3) 4 2 1) 4 3 20 := ⟨_, rfl⟩
  have a4 : ∀ j, wa.1 4 j = if j = 3 then 20 else if j = 2 then 1 else if j = 1 then 3 else 0 := fun j => by
    rw [hwa, wset_v, wset_v, wset_v, wset_v]
    simp only [true_and]
    by_cases h0 : j = 0
    · subst h0; rfl
    · rw [if_neg h0]; rfl
  have ao : ∀ a, a ≠ 4 → ∀ j, wa.1 a j = 0 := fun a ha j => by
    rw [hwa, (wset_off _ 4 _ _ a ha).1, (wset_off _ 4 _ _ a ha).1, (wset_off _ 4 _ _ a ha).1, (wset_off _ 4 _ _ a ha).1]
    rfl
  obtain ⟨w1, b1, b2, b3, b4, b5, b6⟩ := begin_eq wa
  have o4 : ∀ j, (wI w1).1 4 j = wa.1 4 j := fun j => by rw [wI_lo w1 (by omega), b3 4 (by omega)]
  have oo : ∀ a, a < 92 → a ≠ 4 → (a < 14 ∨ 18 < a) → ∀ j, (wI w1).1 a j = 0 := fun a h1 h2 h3 j => by rw [wI_lo w1 h1, b3 a h3, ao a h2]
  have o924 : (wI w1).1 92 4 = 3 := rfl
  have o925 : (wI w1).1 92 5 = 1 := rfl
  have o926 : (wI w1).1 92 6 = 20 := rfl
  have o961 : (wI w1).1 96 1 = 3 := rfl
  have ohi := fun (a j : Nat) (h : 92 ≤ a) => wI_hi w1 h j
  refine ⟨wa, w1, ?_, b1, 0, by omega, ⟨?_, ?_, ?_, ?_, ?_, ⟨3, by omega, o924⟩, ⟨1, by omega, o925⟩, ⟨20, by omega, by omega, o926⟩, fun d hd => absurd hd (Nat.not_lt_zero d)⟩, ⟨⟨?_, ?_, fun d hd => absurd hd (Nat.not_lt_zero d), fun d _ hd => ⟨?_, ?_⟩⟩, 0, 3, ?_, by omega, o961, by omega, fun d hd => absurd hd (Nat.not_lt_zero d)⟩, ⟨0, 0, by omega, by omega, ?_, ?_, ?_, fun j hj => absurd hj (Nat.not_lt_zero j)⟩, ⟨0, by omega, ?_, fun i hi => ⟨?_, fun q => ?_⟩⟩, ⟨0, by omega, ?_, ?_, fun j hj => absurd hj (Nat.not_lt_zero j)⟩, ⟨0, by omega, ?_, ?_, fun j hj => absurd hj (Nat.not_lt_zero j)⟩, ?_, ?_⟩
  · rw [f_X2_setAsAtFirst, f_X2_setAsAtFirst_b0, jj_bnd, jj_bnd, jj_bnd, jj_bnd, ← hwa]
  · exact ohi 92 0 (by omega) (by omega) (by omega) (by omega) (by omega)
  · rw [o4, a4]; rfl
  · rw [o4, a4, o924]; rfl
  · rw [o4, a4, o925]; rfl
  · rw [o4, a4, o926]; rfl
  · rw [wI_lo w1 (by omega), b4, ohi 96 0 (by omega) (by omega) (by omega) (by omega) (by omega)]
  · rw [wI_lo w1 (by omega), b5, a4, o961]; rfl
  · rw [wI_lo w1 (by omega)]; exact (b6 d hd).1
  · rw [wI_lo w1 (by omega)]; exact (b6 d hd).2.2.2
  · exact ohi 96 0 (by omega) (by omega) (by omega) (by omega) (by omega)
  · exact oo 24 (by omega) (by omega) (by omega) 2
  · exact ohi 92 9 (by omega) (by omega) (by omega) (by omega) (by omega)
  · exact oo 24 (by omega) (by omega) (by omega) 1
  · exact oo 0 (by omega) (by omega) (by omega) 8
  · rw [ohi 99 i (by omega) (by omega) (by omega) (by omega) (by omega), Nat.zero_testBit]; rfl
  · rw [Nat.zero_testBit] at q; cases q
  · exact oo 86 (by omega) (by omega) (by omega) 3
  · exact ohi 92 12 (by omega) (by omega) (by omega) (by omega) (by omega)
  · exact oo 1 (by omega) (by omega) (by omega) 2
  · exact ohi 92 16 (by omega) (by omega) (by omega) (by omega) (by omega)
  · show w1.2 0 = 0
    rw [b2, hwa]; rfl
  · exact oo 90 (by omega) (by omega) (by omega) 0
