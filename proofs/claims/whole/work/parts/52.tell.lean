/-! PURE: what an item tells -/
theorem tell_h {n m : Nat} (u v : Wd) (hl : Tl n u v) (hm : m ≤ 9) (h30 : u.1 3 0 = nI m) : ∃ u1, f_X1_tell 9 104 u = some ((), u1) ∧ Tl n u1 (wset v 92 25 (nI m)) ∧ frC u u1 ∧ ∀ j, j ≤ 6 → u1.1 1 j = u.1 1 j := by
  obtain ⟨h1, h2, h3, h4, h5, h6, h7⟩ := hl
  obtain ⟨u1, hu1⟩ : ∃ x, x = wset (wset u 9 1 (nI m)) 1 7 1 := ⟨_, rfl⟩
  have o : ∀ a j, ¬ (a = 9 ∧ j = 1) → ¬ (a = 1 ∧ j = 7) → u1.1 a j = u.1 a j := fun a j x y => by rw [hu1, wset_v, if_neg y, wset_v, if_neg x]
  have e1 : u1.1 9 1 = nI m := by rw [hu1, wset_v, if_neg (by omega), wset_v, if_pos ⟨rfl, rfl⟩]
  have e2 : u1.1 1 7 = 1 := by rw [hu1, wset_v, if_pos ⟨rfl, rfl⟩]
  have ov : ∀ a j, ¬ (a = 92 ∧ j = 25) → (wset v 92 25 (nI m)).1 a j = v.1 a j := fun a j x => by rw [wset_v, if_neg x]
  have e3 : (wset v 92 25 (nI m)).1 92 25 = nI m := by rw [wset_v, if_pos ⟨rfl, rfl⟩]
  refine ⟨u1, ?_, ⟨h1, (o 9 0 (by omega) (by omega)).trans h2, (ov 92 23 (by omega)).trans h3, ?_, ?_, ?_, fun d hd => ?_⟩, hu1 ▸ (frC_wset u _ (by omega)).tr (frC_wset _ _ (by omega)), fun j hj => o 1 j (by omega) (by omega)⟩
  · rw [f_X1_tell, f_X1_tell_b0, if_neg (show ¬ (104 : Int32) = 100 by decide), if_pos (show (104 : Int32) = 104 from rfl), jj_bnd, jj_bnd, wget_def, h30, ← hu1]
  · exact Or.inr ⟨e2, m, hm, e3, e1⟩
  · rw [o 1 8 (by omega) (by omega), ov 92 26 (by omega), o 9 2 (by omega) (by omega)]
    exact h5
  · rw [o 1 9 (by omega) (by omega), ov 92 27 (by omega), o 9 3 (by omega) (by omega)]
    exact h6
  · rw [o 10 d (by omega) (by omega), o 11 d (by omega) (by omega), o 12 d (by omega) (by omega), o 13 d (by omega) (by omega), ov 102 (4 * d) (by omega), ov 102 (4 * d + 1) (by omega), ov 102 (4 * d + 2) (by omega), ov 102 (4 * d + 3) (by omega)]
    exact h7 d hd
theorem tell_g {n m : Nat} (u v : Wd) (hl : Tl n u v) (hm : m ≤ 9) (h30 : u.1 3 0 = nI m) : ∃ u1, f_X1_tell 9 103 u = some ((), u1) ∧ Tl n u1 (wset v 92 26 (nI m)) ∧ frC u u1 ∧ ∀ j, j ≤ 6 → u1.1 1 j = u.1 1 j := by
  obtain ⟨h1, h2, h3, h4, h5, h6, h7⟩ := hl
  obtain ⟨u1, hu1⟩ : ∃ x, x = wset (wset u 9 2 (nI m)) 1 8 1 := ⟨_, rfl⟩
  have o : ∀ a j, ¬ (a = 9 ∧ j = 2) → ¬ (a = 1 ∧ j = 8) → u1.1 a j = u.1 a j := fun a j x y => by rw [hu1, wset_v, if_neg y, wset_v, if_neg x]
  have e1 : u1.1 9 2 = nI m := by rw [hu1, wset_v, if_neg (by omega), wset_v, if_pos ⟨rfl, rfl⟩]
  have e2 : u1.1 1 8 = 1 := by rw [hu1, wset_v, if_pos ⟨rfl, rfl⟩]
  have ov : ∀ a j, ¬ (a = 92 ∧ j = 26) → (wset v 92 26 (nI m)).1 a j = v.1 a j := fun a j x => by rw [wset_v, if_neg x]
  have e3 : (wset v 92 26 (nI m)).1 92 26 = nI m := by rw [wset_v, if_pos ⟨rfl, rfl⟩]
  refine ⟨u1, ?_, ⟨h1, (o 9 0 (by omega) (by omega)).trans h2, (ov 92 23 (by omega)).trans h3, ?_, ?_, ?_, fun d hd => ?_⟩, hu1 ▸ (frC_wset u _ (by omega)).tr (frC_wset _ _ (by omega)), fun j hj => o 1 j (by omega) (by omega)⟩
  · rw [f_X1_tell, f_X1_tell_b0, if_neg (show ¬ (103 : Int32) = 100 by decide), if_neg (show ¬ (103 : Int32) = 104 by decide), if_pos (show (103 : Int32) = 103 from rfl), jj_bnd, jj_bnd, wget_def, h30, ← hu1]
  · rw [o 1 7 (by omega) (by omega), ov 92 25 (by omega), o 9 1 (by omega) (by omega)]
    exact h4
  · exact Or.inr ⟨e2, m, hm, e3, e1⟩
  · rw [o 1 9 (by omega) (by omega), ov 92 27 (by omega), o 9 3 (by omega) (by omega)]
    exact h6
  · rw [o 10 d (by omega) (by omega), o 11 d (by omega) (by omega), o 12 d (by omega) (by omega), o 13 d (by omega) (by omega), ov 102 (4 * d) (by omega), ov 102 (4 * d + 1) (by omega), ov 102 (4 * d + 2) (by omega), ov 102 (4 * d + 3) (by omega)]
    exact h7 d hd
theorem tell_r {n m : Nat} (u v : Wd) (hl : Tl n u v) (hm9 : 9 ≤ m) (hm : m ≤ 40) (h30 : u.1 3 0 = nI m) : ∃ u1, f_X1_tell 9 114 u = some ((), u1) ∧ Tl n u1 (wset v 92 27 (nI m)) ∧ frC u u1 ∧ ∀ j, j ≤ 6 → u1.1 1 j = u.1 1 j := by
  obtain ⟨h1, h2, h3, h4, h5, h6, h7⟩ := hl
  obtain ⟨u1, hu1⟩ : ∃ x, x = wset (wset u 9 3 (nI m)) 1 9 1 := ⟨_, rfl⟩
  have o : ∀ a j, ¬ (a = 9 ∧ j = 3) → ¬ (a = 1 ∧ j = 9) → u1.1 a j = u.1 a j := fun a j x y => by rw [hu1, wset_v, if_neg y, wset_v, if_neg x]
  have e1 : u1.1 9 3 = nI m := by rw [hu1, wset_v, if_neg (by omega), wset_v, if_pos ⟨rfl, rfl⟩]
  have e2 : u1.1 1 9 = 1 := by rw [hu1, wset_v, if_pos ⟨rfl, rfl⟩]
  have ov : ∀ a j, ¬ (a = 92 ∧ j = 27) → (wset v 92 27 (nI m)).1 a j = v.1 a j := fun a j x => by rw [wset_v, if_neg x]
  have e3 : (wset v 92 27 (nI m)).1 92 27 = nI m := by rw [wset_v, if_pos ⟨rfl, rfl⟩]
  refine ⟨u1, ?_, ⟨h1, (o 9 0 (by omega) (by omega)).trans h2, (ov 92 23 (by omega)).trans h3, ?_, ?_, ?_, fun d hd => ?_⟩, hu1 ▸ (frC_wset u _ (by omega)).tr (frC_wset _ _ (by omega)), fun j hj => o 1 j (by omega) (by omega)⟩
  · rw [f_X1_tell, f_X1_tell_b0, if_neg (show ¬ (114 : Int32) = 100 by decide), if_neg (show ¬ (114 : Int32) = 104 by decide), if_neg (show ¬ (114 : Int32) = 103 by decide), jj_bnd, jj_bnd, wget_def, h30, ← hu1]
  · rw [o 1 7 (by omega) (by omega), ov 92 25 (by omega), o 9 1 (by omega) (by omega)]
    exact h4
  · rw [o 1 8 (by omega) (by omega), ov 92 26 (by omega), o 9 2 (by omega) (by omega)]
    exact h5
  · exact Or.inr ⟨e2, m, hm9, hm, e3, e1⟩
  · rw [o 10 d (by omega) (by omega), o 11 d (by omega) (by omega), o 12 d (by omega) (by omega), o 13 d (by omega) (by omega), ov 102 (4 * d) (by omega), ov 102 (4 * d + 1) (by omega), ov 102 (4 * d + 2) (by omega), ov 102 (4 * d + 3) (by omega)]
    exact h7 d hd
theorem lo_1 {sg : Int32} (h1 : ¬ sg = 114) (h2 : ¬ sg = 100) (w : Wd) : f_X1_leastOf sg (nI 0) w = some (nI 0, w) := by
  rw [f_X1_leastOf, f_X1_leastOf_b0, if_neg h1, if_neg h2]
  rfl
theorem hi_1 {sg : Int32} (h1 : ¬ sg = 114) (h2 : ¬ sg = 100) (w : Wd) : f_X1_greatestOf sg (nI 0) w = some (nI 9, w) := by
  rw [f_X1_greatestOf, f_X1_greatestOf_b0, if_neg h1, if_neg h2, f_X1_greatestOf_b22, if_neg h2]
  rfl
theorem lo_r (w : Wd) : f_X1_leastOf 114 (nI 0) w = some (nI 9, w) := by
  rw [f_X1_leastOf, f_X1_leastOf_b0, if_pos (show (114 : Int32) = 114 from rfl)]
  rfl
theorem hi_r (w : Wd) : f_X1_greatestOf 114 (nI 0) w = some (nI 40, w) := by
  rw [f_X1_greatestOf, f_X1_greatestOf_b0, if_pos (show (114 : Int32) = 114 from rfl)]
  rfl
def lob (i : Nat) : Nat := if i = 1 then 1 else 0
def hib (i : Nat) : Nat := if i = 0 then 40 else if i = 2 then 3 else 9
theorem lo_d {i : Nat} (h : i < 4) (w : Wd) : f_X1_leastOf 100 (nI i) w = some (nI (lob i), w) := by
  rw [f_X1_leastOf, f_X1_leastOf_b0, if_neg (show ¬ (100 : Int32) = 114 by decide), if_pos (show (100 : Int32) = 100 from rfl)]
  have h4 : i = 0 ∨ i = 1 ∨ i = 2 ∨ i = 3 := by omega
  rcases h4 with rfl | rfl | rfl | rfl
  · rw [if_neg (show ¬ nI 0 = 1 by decide)]; rfl
  · rw [if_pos (show nI 1 = 1 from rfl)]; rfl
  · rw [if_neg (show ¬ nI 2 = 1 by decide)]; rfl
  · rw [if_neg (show ¬ nI 3 = 1 by decide)]; rfl
theorem hi_d {i : Nat} (h : i < 4) (w : Wd) : f_X1_greatestOf 100 (nI i) w = some (nI (hib i), w) := by
  rw [f_X1_greatestOf, f_X1_greatestOf_b0, if_neg (show ¬ (100 : Int32) = 114 by decide), if_pos (show (100 : Int32) = 100 from rfl), f_X1_greatestOf_b22, if_pos (show (100 : Int32) = 100 from rfl)]
  have h4 : i = 0 ∨ i = 1 ∨ i = 2 ∨ i = 3 := by omega
  rcases h4 with rfl | rfl | rfl | rfl
  · rw [if_pos (show nI 0 = 0 from rfl)]; rfl
  · rw [if_neg (show ¬ nI 1 = 0 by decide), if_neg (show ¬ nI 1 = 2 by decide)]; rfl
  · rw [if_neg (show ¬ nI 2 = 0 by decide), if_pos (show nI 2 = 2 from rfl)]; rfl
  · rw [if_neg (show ¬ nI 3 = 0 by decide), if_neg (show ¬ nI 3 = 2 by decide)]; rfl
theorem body_h (w : Wd) : f_X6_readBody 104 w = cal (f_X6_takesNumber (nI 0) (nI 9) w) (fun r w1 => bnd (wset w1 92 25 r) (fun w2 => some ((), w2))) := by
  rw [f_X6_readBody, f_X6_readBody_b0, if_neg (show ¬ (104 : Int32) = 100 by decide), if_neg (show ¬ (104 : Int32) = 101 by decide), if_neg (show ¬ (104 : Int32) = 102 by decide), if_neg (show ¬ (104 : Int32) = 103 by decide), if_pos (show (104 : Int32) = 104 from rfl)]
  rfl
theorem body_g (w : Wd) : f_X6_readBody 103 w = cal (f_X6_takesNumber (nI 0) (nI 9) w) (fun r w1 => bnd (wset w1 92 26 r) (fun w2 => some ((), w2))) := by
  rw [f_X6_readBody, f_X6_readBody_b0, if_neg (show ¬ (103 : Int32) = 100 by decide), if_neg (show ¬ (103 : Int32) = 101 by decide), if_neg (show ¬ (103 : Int32) = 102 by decide), if_pos (show (103 : Int32) = 103 from rfl)]
  rfl
theorem body_r (w : Wd) : f_X6_readBody 114 w = cal (f_X6_takesNumber (nI 9) (nI 40) w) (fun r w1 => bnd (wset w1 92 27 r) (fun w2 => some ((), w2))) := by
  rw [f_X6_readBody, f_X6_readBody_b0, if_neg (show ¬ (114 : Int32) = 100 by decide), if_neg (show ¬ (114 : Int32) = 101 by decide), if_neg (show ¬ (114 : Int32) = 102 by decide), if_neg (show ¬ (114 : Int32) = 103 by decide), if_neg (show ¬ (114 : Int32) = 104 by decide)]
  rfl
