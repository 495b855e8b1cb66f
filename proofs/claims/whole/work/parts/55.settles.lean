/-! PURE: what the text told, settled: the reference -/
theorem wg {w : Wd} {a j b i : Nat} {x : Int32} (h : ¬ (b = a ∧ i = j)) : wget (wset w a j x) b i = wget w b i := by
  rw [wget_def, wget_def, wset_v, if_neg h]
theorem wgs {w : Wd} {a j : Nat} {x : Int32} : wget (wset w a j x) a j = x := by
  rw [wget_def, wset_v, if_pos ⟨rfl, rfl⟩]
def stW (v : Wd) (h g r : Int32) : Wd := wset (wset (wset (wset (wset (wset v 92 0 (v.1 92 23)) 92 4 h) 92 5 g) 92 6 r) 96 0 0) 96 1 h
theorem settles_b {v : Wd} {h g r : Int32} (h5 : 0 ≤ v.1 92 25 ∧ h = v.1 92 25 ∨ ¬ 0 ≤ v.1 92 25 ∧ h = 3) (h6 : 0 ≤ v.1 92 26 ∧ g = v.1 92 26 ∨ ¬ 0 ≤ v.1 92 26 ∧ g = 1) (h7 : 0 ≤ v.1 92 27 ∧ r = v.1 92 27 ∨ ¬ 0 ≤ v.1 92 27 ∧ r = 20) : f_X6_settles v = f_X6_settles_l85 300 (nI 0) (stW v h g r) := by
  unfold stW
  rw [f_X6_settles, f_X6_settles_b0, jj_bnd, wget_def v 92 23, wg (a := 92) (j := 0) (b := 92) (i := 25) (by omega), wget_def v 92 25]
  rcases h5 with ⟨c5, e5⟩ | ⟨c5, e5⟩ <;> rcases h6 with ⟨c6, e6⟩ | ⟨c6, e6⟩ <;> rcases h7 with ⟨c7, e7⟩ | ⟨c7, e7⟩ <;> rw [e5, e6, e7]
  · rw [if_pos c5, jj_bnd, wg (a := 92) (j := 4) (b := 92) (i := 26) (by omega), wg (a := 92) (j := 0) (b := 92) (i := 26) (by omega), wget_def v 92 26, if_pos c6, jj_bnd, wg (a := 92) (j := 5) (b := 92) (i := 27) (by omega), wg (a := 92) (j := 4) (b := 92) (i := 27) (by omega), wg (a := 92) (j := 0) (b := 92) (i := 27) (by omega), wget_def v 92 27, if_pos c7, jj_bnd, jj_bnd, wg (a := 96) (j := 0) (b := 92) (i := 4) (by omega), wg (a := 92) (j := 6) (b := 92) (i := 4) (by omega), wg (a := 92) (j := 5) (b := 92) (i := 4) (by omega), wgs, jj_bnd, jj_bnd, show (0 : Int32) = nI 0 from rfl]
  · rw [if_pos c5, jj_bnd, wg (a := 92) (j := 4) (b := 92) (i := 26) (by omega), wg (a := 92) (j := 0) (b := 92) (i := 26) (by omega), wget_def v 92 26, if_pos c6, jj_bnd, wg (a := 92) (j := 5) (b := 92) (i := 27) (by omega), wg (a := 92) (j := 4) (b := 92) (i := 27) (by omega), wg (a := 92) (j := 0) (b := 92) (i := 27) (by omega), wget_def v 92 27, if_neg c7, jj_bnd, jj_bnd, wg (a := 96) (j := 0) (b := 92) (i := 4) (by omega), wg (a := 92) (j := 6) (b := 92) (i := 4) (by omega), wg (a := 92) (j := 5) (b := 92) (i := 4) (by omega), wgs, jj_bnd, jj_bnd, show (0 : Int32) = nI 0 from rfl]
  · rw [if_pos c5, jj_bnd, wg (a := 92) (j := 4) (b := 92) (i := 26) (by omega), wg (a := 92) (j := 0) (b := 92) (i := 26) (by omega), wget_def v 92 26, if_neg c6, jj_bnd, wg (a := 92) (j := 5) (b := 92) (i := 27) (by omega), wg (a := 92) (j := 4) (b := 92) (i := 27) (by omega), wg (a := 92) (j := 0) (b := 92) (i := 27) (by omega), wget_def v 92 27, if_pos c7, jj_bnd, jj_bnd, wg (a := 96) (j := 0) (b := 92) (i := 4) (by omega), wg (a := 92) (j := 6) (b := 92) (i := 4) (by omega), wg (a := 92) (j := 5) (b := 92) (i := 4) (by omega), wgs, jj_bnd, jj_bnd, show (0 : Int32) = nI 0 from rfl]
  · rw [if_pos c5, jj_bnd, wg (a := 92) (j := 4) (b := 92) (i := 26) (by omega), wg (a := 92) (j := 0) (b := 92) (i := 26) (by omega), wget_def v 92 26, if_neg c6, jj_bnd, wg (a := 92) (j := 5) (b := 92) (i := 27) (by omega), wg (a := 92) (j := 4) (b := 92) (i := 27) (by omega), wg (a := 92) (j := 0) (b := 92) (i := 27) (by omega), wget_def v 92 27, if_neg c7, jj_bnd, jj_bnd, wg (a := 96) (j := 0) (b := 92) (i := 4) (by omega), wg (a := 92) (j := 6) (b := 92) (i := 4) (by omega), wg (a := 92) (j := 5) (b := 92) (i := 4) (by omega), wgs, jj_bnd, jj_bnd, show (0 : Int32) = nI 0 from rfl]
  · rw [if_neg c5, jj_bnd, wg (a := 92) (j := 4) (b := 92) (i := 26) (by omega), wg (a := 92) (j := 0) (b := 92) (i := 26) (by omega), wget_def v 92 26, if_pos c6, jj_bnd, wg (a := 92) (j := 5) (b := 92) (i := 27) (by omega), wg (a := 92) (j := 4) (b := 92) (i := 27) (by omega), wg (a := 92) (j := 0) (b := 92) (i := 27) (by omega), wget_def v 92 27, if_pos c7, jj_bnd, jj_bnd, wg (a := 96) (j := 0) (b := 92) (i := 4) (by omega), wg (a := 92) (j := 6) (b := 92) (i := 4) (by omega), wg (a := 92) (j := 5) (b := 92) (i := 4) (by omega), wgs, jj_bnd, jj_bnd, show (0 : Int32) = nI 0 from rfl]
  · rw [if_neg c5, jj_bnd, wg (a := 92) (j := 4) (b := 92) (i := 26) (by omega), wg (a := 92) (j := 0) (b := 92) (i := 26) (by omega), wget_def v 92 26, if_pos c6, jj_bnd, wg (a := 92) (j := 5) (b := 92) (i := 27) (by omega), wg (a := 92) (j := 4) (b := 92) (i := 27) (by omega), wg (a := 92) (j := 0) (b := 92) (i := 27) (by omega), wget_def v 92 27, if_neg c7, jj_bnd, jj_bnd, wg (a := 96) (j := 0) (b := 92) (i := 4) (by omega), wg (a := 92) (j := 6) (b := 92) (i := 4) (by omega), wg (a := 92) (j := 5) (b := 92) (i := 4) (by omega), wgs, jj_bnd, jj_bnd, show (0 : Int32) = nI 0 from rfl]
  · rw [if_neg c5, jj_bnd, wg (a := 92) (j := 4) (b := 92) (i := 26) (by omega), wg (a := 92) (j := 0) (b := 92) (i := 26) (by omega), wget_def v 92 26, if_neg c6, jj_bnd, wg (a := 92) (j := 5) (b := 92) (i := 27) (by omega), wg (a := 92) (j := 4) (b := 92) (i := 27) (by omega), wg (a := 92) (j := 0) (b := 92) (i := 27) (by omega), wget_def v 92 27, if_pos c7, jj_bnd, jj_bnd, wg (a := 96) (j := 0) (b := 92) (i := 4) (by omega), wg (a := 92) (j := 6) (b := 92) (i := 4) (by omega), wg (a := 92) (j := 5) (b := 92) (i := 4) (by omega), wgs, jj_bnd, jj_bnd, show (0 : Int32) = nI 0 from rfl]
  · rw [if_neg c5, jj_bnd, wg (a := 92) (j := 4) (b := 92) (i := 26) (by omega), wg (a := 92) (j := 0) (b := 92) (i := 26) (by omega), wget_def v 92 26, if_neg c6, jj_bnd, wg (a := 92) (j := 5) (b := 92) (i := 27) (by omega), wg (a := 92) (j := 4) (b := 92) (i := 27) (by omega), wg (a := 92) (j := 0) (b := 92) (i := 27) (by omega), wget_def v 92 27, if_neg c7, jj_bnd, jj_bnd, wg (a := 96) (j := 0) (b := 92) (i := 4) (by omega), wg (a := 92) (j := 6) (b := 92) (i := 4) (by omega), wg (a := 92) (j := 5) (b := 92) (i := 4) (by omega), wgs, jj_bnd, jj_bnd, show (0 : Int32) = nI 0 from rfl]
theorem sett_l : ∀ (k i f : Nat) (w : Wd), i + k = 6 → k < f → ∃ w', f_X6_settles_l85 f (nI i) w = some ((), w') ∧ w'.2 = w.2 ∧ (∀ a j, ¬ (93 ≤ a ∧ a ≤ 96) → ¬ (a = 99 ∧ j < 2) → ¬ (a = 92 ∧ (j = 9 ∨ j = 12 ∨ j = 16)) → w'.1 a j = w.1 a j) ∧
    (∀ a j, 93 ≤ a → a ≤ 95 → j < i → w'.1 a j = w.1 a j) ∧ (∀ j, j < 2 + i ∨ (8 ≤ j ∧ j < 8 + i) ∨ (14 ≤ j ∧ j < 14 + i) ∨ (20 ≤ j ∧ j < 20 + i) → w'.1 96 j = w.1 96 j) ∧
    (∀ d, i ≤ d → d < 6 → w'.1 93 d = w.1 102 (4 * d) ∧ w'.1 94 d = w.1 102 (4 * d + 2) ∧ w'.1 95 d = w.1 102 (4 * d + 3) ∧ w'.1 96 (2 + d) = -9 ∧ w'.1 96 (8 + d) = w.1 102 (4 * d + 1) ∧ w'.1 96 (14 + d) = nI (2 ^ d) ∧ w'.1 96 (20 + d) = -9) ∧
    w'.1 92 9 = 0 ∧ w'.1 92 12 = 0 ∧ w'.1 92 16 = 0 ∧ w'.1 99 0 = 0 ∧ w'.1 99 1 = 0
  | 0, i, f, w, hi, hf => by
    obtain ⟨f, rfl⟩ : ∃ k, f = k + 1 := ⟨f - 1, by omega⟩
    obtain rfl : i = 6 := by omega
    obtain ⟨u, hu⟩ : ∃ x, x = wset (wset (wset (wset (wset w 92 9 0) 92 12 0) 99 0 0) 99 1 0) 92 16 0 := ⟨_, rfl⟩
    have e : ∀ a j, u.1 a j = if a = 92 ∧ j = 16 then 0 else if a = 99 ∧ j = 1 then 0 else if a = 99 ∧ j = 0 then 0 else if a = 92 ∧ j = 12 then 0 else if a = 92 ∧ j = 9 then 0 else w.1 a j := fun a j => by
      rw [hu, wset_v, wset_v, wset_v, wset_v, wset_v]
    have e2 : ∀ a j, ¬ (a = 99 ∧ j < 2) → ¬ (a = 92 ∧ (j = 9 ∨ j = 12 ∨ j = 16)) → u.1 a j = w.1 a j := fun a j x y => by rw [e, if_neg (by omega), if_neg (by omega), if_neg (by omega), if_neg (by omega), if_neg (by omega)]
    refine ⟨u, ?_, by rw [hu, wset_2, wset_2, wset_2, wset_2, wset_2], fun a j x y z => e2 a j y z, fun a j x y z => e2 a j (by omega) (by omega), fun j _ => e2 96 j (by omega) (by omega), fun d h1 h2 => by omega, ?_, ?_, ?_, ?_, ?_⟩
    · rw [f_X6_settles_l85, f_X6_settles_h85, if_pos (show (6 : Int32) ≤ nI 6 by decide), jj_bnd, jj_bnd, jj_bnd, jj_bnd, jj_bnd, ← hu]
    · rw [e, if_neg (by omega), if_neg (by omega), if_neg (by omega), if_neg (by omega), if_pos ⟨rfl, rfl⟩]
    · rw [e, if_neg (by omega), if_neg (by omega), if_neg (by omega), if_pos ⟨rfl, rfl⟩]
    · rw [e, if_pos ⟨rfl, rfl⟩]
    · rw [e, if_neg (by omega), if_neg (by omega), if_pos ⟨rfl, rfl⟩]
    · rw [e, if_neg (by omega), if_pos ⟨rfl, rfl⟩]
  | k + 1, i, f, w, hi, hf => by
    obtain ⟨f, rfl⟩ : ∃ k, f = k + 1 := ⟨f - 1, by omega⟩
    have hi6 : i < 6 := by omega
    obtain ⟨u1, hu1⟩ : ∃ x, x = wset w 93 i (w.1 102 (4 * i)) := ⟨_, rfl⟩
    obtain ⟨u2, hu2⟩ : ∃ x, x = wset u1 94 i (u1.1 102 (4 * i + 2)) := ⟨_, rfl⟩
    obtain ⟨u3, hu3⟩ : ∃ x, x = wset u2 95 i (u2.1 102 (4 * i + 3)) := ⟨_, rfl⟩
    obtain ⟨u4, hu4⟩ : ∃ x, x = wset u3 96 (2 + i) (-9) := ⟨_, rfl⟩
    obtain ⟨u5, hu5⟩ : ∃ x, x = wset u4 96 (8 + i) (u4.1 102 (4 * i + 1)) := ⟨_, rfl⟩
    obtain ⟨u6, hu6⟩ : ∃ x, x = wset u5 96 (14 + i) (nI (2 ^ i)) := ⟨_, rfl⟩
    obtain ⟨u7, hu7⟩ : ∃ x, x = wset u6 96 (20 + i) (-9) := ⟨_, rfl⟩
    have c1 : ∀ j, u1.1 102 j = w.1 102 j := fun j => by rw [hu1, wset_v, if_neg (by omega)]
    have c2 : ∀ j, u2.1 102 j = w.1 102 j := fun j => by rw [hu2, wset_v, if_neg (by omega), c1]
    have c3 : ∀ j, u3.1 102 j = w.1 102 j := fun j => by rw [hu3, wset_v, if_neg (by omega), c2]
    have c4 : ∀ j, u4.1 102 j = w.1 102 j := fun j => by rw [hu4, wset_v, if_neg (by omega), c3]
    have e : ∀ a j, u7.1 a j = if a = 96 ∧ j = 20 + i then -9 else if a = 96 ∧ j = 14 + i then nI (2 ^ i) else if a = 96 ∧ j = 8 + i then w.1 102 (4 * i + 1) else if a = 96 ∧ j = 2 + i then -9 else if a = 95 ∧ j = i then w.1 102 (4 * i + 3) else if a = 94 ∧ j = i then w.1 102 (4 * i + 2) else if a = 93 ∧ j = i then w.1 102 (4 * i) else w.1 a j := fun a j => by
      rw [hu7, wset_v, hu6, wset_v, hu5, wset_v, c4, hu4, wset_v, hu3, wset_v, c2, hu2, wset_v, c1, hu1, wset_v]
    have en : ∀ a j, ¬ (a = 96 ∧ j = 20 + i) → ¬ (a = 96 ∧ j = 14 + i) → ¬ (a = 96 ∧ j = 8 + i) → ¬ (a = 96 ∧ j = 2 + i) → ¬ (a = 95 ∧ j = i) → ¬ (a = 94 ∧ j = i) → ¬ (a = 93 ∧ j = i) → u7.1 a j = w.1 a j := fun a j x1 x2 x3 x4 x5 x6 x7 => by
      rw [e, if_neg x1, if_neg x2, if_neg x3, if_neg x4, if_neg x5, if_neg x6, if_neg x7]
    obtain ⟨w', h1, h2, h3, h4, h5, h6, h7⟩ := sett_l k (i + 1) f u7 (by omega) (by omega)
    refine ⟨w', ?_, ?_, fun a j x y z => ?_, fun a j x y z => ?_, fun j x => ?_, fun d d1 d2 => ?_, h7⟩
    · rw [f_X6_settles_l85, f_X6_settles_h85, if_neg (show ¬ (6 : Int32) ≤ nI i from nI_ge (b := 6) hi6 (by decide)), show (4 : Int32) * nI i = nI (4 * i) from nI_mul 4 i, show nI (4 * i) + (2 : Int32) = nI (4 * i + 2) from nI_add _ 2, show nI (4 * i) + (3 : Int32) = nI (4 * i + 3) from nI_add _ 3, nI_1 (4 * i), jj_2, jj_8, jj_14, jj_20, jj_tn (show 4 * i < 2 ^ 31 by omega), jj_tn (show i < 2 ^ 31 by omega), jj_tn (show 4 * i + 2 < 2 ^ 31 by omega), jj_tn (show 4 * i + 3 < 2 ^ 31 by omega), jj_tn (show 4 * i + 1 < 2 ^ 31 by omega), jj_tn (show 2 + i < 2 ^ 31 by omega), jj_tn (show 8 + i < 2 ^ 31 by omega), jj_tn (show 14 + i < 2 ^ 31 by omega), jj_tn (show 20 + i < 2 ^ 31 by omega), jj_shl (show i < 7 by omega),
        jj_grd (jj_inb (show 4 * i < 24 by omega) (by decide)), jj_grd (jj_i6 hi6), jj_bnd, wget_def w 102 (4 * i), ← hu1, jj_grd (jj_inb (show 4 * i + 2 < 24 by omega) (by decide)), jj_grd (jj_i6 hi6), jj_bnd, wget_def u1 102 (4 * i + 2), ← hu2, jj_grd (jj_inb (show 4 * i + 3 < 24 by omega) (by decide)), jj_grd (jj_i6 hi6), jj_bnd, wget_def u2 102 (4 * i + 3), ← hu3, jj_grd (jj_i26 (show 2 + i < 26 by omega)), jj_bnd, ← hu4,
        jj_grd (jj_inb (show 4 * i + 1 < 24 by omega) (by decide)), jj_grd (jj_i26 (show 8 + i < 26 by omega)), jj_bnd, wget_def u4 102 (4 * i + 1), ← hu5, jj_grd (jj_i26 (show 14 + i < 26 by omega)), jj_bnd, ← hu6, jj_grd (jj_i26 (show 20 + i < 26 by omega)), jj_bnd, ← hu7, nI_1, jj_bnd, h1]
    · rw [h2, hu7, wset_2, hu6, wset_2, hu5, wset_2, hu4, wset_2, hu3, wset_2, hu2, wset_2, hu1, wset_2]
    · rw [h3 a j x y z, en a j (by omega) (by omega) (by omega) (by omega) (by omega) (by omega) (by omega)]
    · rw [h4 a j x y (by omega), en a j (by omega) (by omega) (by omega) (by omega) (by omega) (by omega) (by omega)]
    · rw [h5 j (by omega), en 96 j (by omega) (by omega) (by omega) (by omega) (by omega) (by omega) (by omega)]
    · by_cases q : d = i
      · subst q
        rw [h4 93 d (by omega) (by omega) (by omega), h4 94 d (by omega) (by omega) (by omega), h4 95 d (by omega) (by omega) (by omega), h5 (2 + d) (by omega), h5 (8 + d) (by omega), h5 (14 + d) (by omega), h5 (20 + d) (by omega)]
        refine ⟨?_, ?_, ?_, ?_, ?_, ?_, ?_⟩
        · rw [e, if_neg (by omega), if_neg (by omega), if_neg (by omega), if_neg (by omega), if_neg (by omega), if_neg (by omega), if_pos ⟨rfl, rfl⟩]
        · rw [e, if_neg (by omega), if_neg (by omega), if_neg (by omega), if_neg (by omega), if_neg (by omega), if_pos ⟨rfl, rfl⟩]
        · rw [e, if_neg (by omega), if_neg (by omega), if_neg (by omega), if_neg (by omega), if_pos ⟨rfl, rfl⟩]
        · rw [e, if_neg (by omega), if_neg (by omega), if_neg (by omega), if_pos ⟨rfl, rfl⟩]
        · rw [e, if_neg (by omega), if_neg (by omega), if_pos ⟨rfl, rfl⟩]
        · rw [e, if_neg (by omega), if_pos ⟨rfl, rfl⟩]
        · rw [e, if_pos ⟨rfl, rfl⟩]
      · obtain ⟨g1, g2, g3, g4, g5, g6, g7⟩ := h6 d (by omega) d2
        rw [en 102 (4 * d) (by omega) (by omega) (by omega) (by omega) (by omega) (by omega) (by omega)] at g1
        rw [en 102 (4 * d + 2) (by omega) (by omega) (by omega) (by omega) (by omega) (by omega) (by omega)] at g2
        rw [en 102 (4 * d + 3) (by omega) (by omega) (by omega) (by omega) (by omega) (by omega) (by omega)] at g3
        rw [en 102 (4 * d + 1) (by omega) (by omega) (by omega) (by omega) (by omega) (by omega) (by omega)] at g5
        exact ⟨g1, g2, g3, g4, g5, g6, g7⟩
