/-! PURE: copies; what is remembered and recalled -/
theorem wcpy_v (w : Wd) (s t n b i : Nat) : (wcpy w s t n).1 b i = if b = t ∧ i < n then w.1 s i else w.1 b i := rfl
theorem SRel_row {n k : Nat} (hn : n ≤ 6) {w : Wd} {r r2 : Nat → Int32} (h : SRel n w k r) (e : ∀ i, i < 26 → r i = r2 i) : SRel n w k r2 := by
  obtain ⟨h1, h2, h3, h4⟩ := h
  refine ⟨by rw [← e 0 (by omega)]; exact h1, by rw [← e 1 (by omega)]; exact h2, fun d hd => ?_, h4⟩
  rw [← e (2 + d) (by omega), ← e (8 + d) (by omega), ← e (14 + d) (by omega), ← e (20 + d) (by omega)]
  exact h3 d hd
theorem RInv_row {n M : Nat} (hn : n ≤ 6) {r r2 : Nat → Int32} (h : RInv n M r) (e : ∀ i, i < 26 → r i = r2 i) : RInv n M r2 := by
  obtain ⟨m, t, h1, h2, h3, h4, h5⟩ := h
  refine ⟨m, t, by rw [← e 0 (by omega)]; exact h1, h2, by rw [← e 1 (by omega)]; exact h3, h4, fun d hd => ?_⟩
  rw [← e (2 + d) (by omega), ← e (8 + d) (by omega), ← e (14 + d) (by omega), ← e (20 + d) (by omega)]
  exact h5 d hd
theorem copy4 (k0 k1 : Nat) (h : k1 + 4 < k0 ∨ k0 + 4 < k1) (w : Wd) : ∃ w', f_X4_copy k0 k1 w = some ((), w') ∧ w'.2 = w.2 ∧ (∀ a, a < k0 ∨ k0 + 4 < a → w'.1 a = w.1 a) ∧ ∀ n row, n ≤ 6 → SRel n w k1 row → SRel n w' k0 row := by
  obtain ⟨w1, hw1⟩ : ∃ x, x = wset w k0 0 (w.1 k1 0) := ⟨_, rfl⟩
  obtain ⟨w2, hw2⟩ : ∃ x, x = wset w1 k0 1 (w1.1 k1 1) := ⟨_, rfl⟩
  obtain ⟨w3, hw3⟩ : ∃ x, x = wcpy w2 (k1 + 1) (k0 + 1) 6 := ⟨_, rfl⟩
  obtain ⟨w4, hw4⟩ : ∃ x, x = wcpy w3 (k1 + 2) (k0 + 2) 6 := ⟨_, rfl⟩
  obtain ⟨w5, hw5⟩ : ∃ x, x = wcpy w4 (k1 + 3) (k0 + 3) 6 := ⟨_, rfl⟩
  obtain ⟨w6, hw6⟩ : ∃ x, x = wcpy w5 (k1 + 4) (k0 + 4) 6 := ⟨_, rfl⟩
  have v1 : ∀ b i, w1.1 b i = if b = k0 ∧ i = 0 then w.1 k1 0 else w.1 b i := fun b i => by rw [hw1]; rfl
  have v2 : ∀ b i, w2.1 b i = if b = k0 ∧ i = 1 then w1.1 k1 1 else w1.1 b i := fun b i => by rw [hw2]; rfl
  have v3 : ∀ b i, w3.1 b i = if b = k0 + 1 ∧ i < 6 then w2.1 (k1 + 1) i else w2.1 b i := fun b i => by rw [hw3]; rfl
  have v4 : ∀ b i, w4.1 b i = if b = k0 + 2 ∧ i < 6 then w3.1 (k1 + 2) i else w3.1 b i := fun b i => by rw [hw4]; rfl
  have v5 : ∀ b i, w5.1 b i = if b = k0 + 3 ∧ i < 6 then w4.1 (k1 + 3) i else w4.1 b i := fun b i => by rw [hw5]; rfl
  have v6 : ∀ b i, w6.1 b i = if b = k0 + 4 ∧ i < 6 then w5.1 (k1 + 4) i else w5.1 b i := fun b i => by rw [hw6]; rfl
  have off : ∀ b i, b < k0 ∨ k0 + 4 < b → w6.1 b i = w.1 b i := fun b i hb => by
    rw [v6, if_neg (by omega), v5, if_neg (by omega), v4, if_neg (by omega), v3, if_neg (by omega), v2, if_neg (by omega), v1, if_neg (by omega)]
  refine ⟨w6, ?_, ?_, fun a ha => funext fun i => off a i ha, fun n row hn hS => ?_⟩
  · unfold f_X4_copy f_X4_copy_b0
    simp only [bnd, wget_def]
    rw [← hw1, ← hw2, ← hw3, ← hw4, ← hw5, ← hw6]
  · rw [hw6, hw5, hw4, hw3, hw2, hw1]; rfl
  · obtain ⟨h1, h2, h3, h4⟩ := hS
    have e0 : w6.1 k0 0 = w.1 k1 0 := by
      rw [v6, if_neg (by omega), v5, if_neg (by omega), v4, if_neg (by omega), v3, if_neg (by omega), v2, if_neg (by omega), v1, if_pos ⟨rfl, rfl⟩]
    have e1 : w6.1 k0 1 = w.1 k1 1 := by
      rw [v6, if_neg (by omega), v5, if_neg (by omega), v4, if_neg (by omega), v3, if_neg (by omega), v2, if_pos ⟨rfl, rfl⟩, v1, if_neg (by omega)]
    have g1 : ∀ i, i < 6 → w6.1 (k0 + 1) i = w.1 (k1 + 1) i := fun i hi => by
      rw [v6, if_neg (by omega), v5, if_neg (by omega), v4, if_neg (by omega), v3, if_pos ⟨rfl, hi⟩, v2, if_neg (by omega), v1, if_neg (by omega)]
    have g2 : ∀ i, i < 6 → w6.1 (k0 + 2) i = w.1 (k1 + 2) i := fun i hi => by
      rw [v6, if_neg (by omega), v5, if_neg (by omega), v4, if_pos ⟨rfl, hi⟩, v3, if_neg (by omega), v2, if_neg (by omega), v1, if_neg (by omega)]
    have g3 : ∀ i, i < 6 → w6.1 (k0 + 3) i = w.1 (k1 + 3) i := fun i hi => by
      rw [v6, if_neg (by omega), v5, if_pos ⟨rfl, hi⟩, v4, if_neg (by omega), v3, if_neg (by omega), v2, if_neg (by omega), v1, if_neg (by omega)]
    have g4 : ∀ i, i < 6 → w6.1 (k0 + 4) i = w.1 (k1 + 4) i := fun i hi => by
      rw [v6, if_pos ⟨rfl, hi⟩, v5, if_neg (by omega), v4, if_neg (by omega), v3, if_neg (by omega), v2, if_neg (by omega), v1, if_neg (by omega)]
    refine ⟨by rw [e0]; exact h1, by rw [e1]; exact h2, fun d hd => ?_, fun d p1 p2 => ?_⟩
    · rw [g1 d (by omega), g2 d (by omega), g3 d (by omega), g4 d (by omega)]
      exact h3 d hd
    · rw [g1 d p2, g4 d p2]
      exact h4 d p1 p2
theorem copy26 {k0 k2 a c : Nat} (hk : k0 ≠ k2) (ha : a + 26 ≤ lenOf k0) (hc : c + 26 ≤ lenOf k2) (h0 : lenOf k0 ≤ 300) (h2 : lenOf k2 ≤ 300) (w : Wd) : f_X6_copy k0 k2 (nI a) (nI c) w = some ((), wrow w k0 (fun j => if a ≤ j ∧ j < a + 26 then w.1 k2 (c + (j - a)) else w.1 k0 j)) := by
  have h := jj_loop0 (F := fun f x r => f_X6_copy_l3 k0 k2 f (nI a) (nI c) x (wrow w k0 r)) (s := fun d r => upd r (a + d) (w.1 k2 (c + d))) (ex := fun r => some ((), wrow w k0 r)) (N := 26) (by
    intro f i r hi
    have h6 : ¬ (26 : Int32) ≤ nI i := nI_ge hi (by decide)
    show f_X6_copy_l3 k0 k2 (f + 1) (nI a) (nI c) (nI i) _ = f_X6_copy_l3 k0 k2 f (nI a) (nI c) (nI (i + 1)) _
    rw [f_X6_copy_l3, f_X6_copy_h3, if_neg h6]
    simp only [nI_add, jj_inb (show c + i < lenOf k2 by omega) (show lenOf k2 < 2 ^ 31 by omega), jj_inb (show a + i < lenOf k0 by omega) (show lenOf k0 < 2 ^ 31 by omega), jj_tn (show c + i < 2 ^ 31 by omega), jj_tn (show a + i < 2 ^ 31 by omega), grd, bnd, wget_def, wset_wrow, wrow_off (w := w) (r := r) (show k2 ≠ k0 from fun q => hk q.symm), nI_1]) (by
    intro f r
    show f_X6_copy_l3 k0 k2 (f + 1) (nI a) (nI c) (nI 26) _ = _
    rw [f_X6_copy_l3, f_X6_copy_h3, if_pos (by decide)]) 26 0 (w.1 k0) 300 rfl (by decide)
  rw [itr_pwb (o := a) (N := 26) (F := fun d _ => w.1 k2 (c + d)) (fun d r _ _ => rfl) 26 (Nat.le_refl _)] at h
  simp only [wrow_self] at h
  exact h
theorem place_eq {w : Wd} {nx : Nat} (h : w.1 24 1 = nI nx) (hx : nx < 10) : f_X0_place w = some (some (26 + 5 * nx), w) := by
  unfold f_X0_place f_X0_place_b0
  rw [wget_def, h, if_neg (nI_pos (show nx < 2 ^ 31 by omega)), if_neg (show ¬ (10 : Int32) ≤ nI nx from nI_ge (b := 10) hx (by decide)), jj_inb hx (by decide), jj_tn (show nx < 2 ^ 31 by omega)]
  rfl
theorem remC {w : Wd} {nx kn : Nat} (h1 : w.1 24 1 = nI nx) (hx : nx < 10) (h2 : w.1 24 2 = nI kn) (hk : kn ≤ 10) : ∃ w', f_X0_remember 14 w = some ((), w') ∧ w'.2 = w.2 ∧ (∀ a, a ≠ 24 → (a < 26 + 5 * nx ∨ 26 + 5 * nx + 4 < a) → w'.1 a = w.1 a) ∧ w'.1 24 1 = nI ((nx + 1) % 10) ∧ w'.1 24 2 = nI (min 10 (kn + 1)) ∧ ∀ n row, n ≤ 6 → SRel n w 14 row → SRel n w' (26 + 5 * nx) row := by
  obtain ⟨w1, c1, c2, c3, c4⟩ := copy4 (26 + 5 * nx) 14 (by omega) w
  have k1 : kindOf (26 + 5 * nx) = 4 := kRingAll nx hx
  have hci : f_X0_copyInto (some (26 + 5 * nx)) (some 14) w = some ((), w1) := by
    show grd (decide (kindOf (26 + 5 * nx) = 4)) (grd (decide (kindOf 14 = 4)) (f_X4_copy (26 + 5 * nx) 14 w)) = _
    rw [decide_eq_true k1, c1]
    rfl
  have r24 : w1.1 24 = w.1 24 := c3 24 (by omega)
  have hmin : imin 10 (nI kn + 1) = nI (min 10 (kn + 1)) := (mv_all kn (by omega)).2.2.2.1
  obtain ⟨w2, hw2⟩ : ∃ x, x = wset w1 24 1 (nI ((nx + 1) % 10)) := ⟨_, rfl⟩
  obtain ⟨w3, hw3⟩ : ∃ x, x = wset w2 24 2 (nI (min 10 (kn + 1))) := ⟨_, rfl⟩
  have e2 : w2.1 24 2 = nI kn := by rw [hw2]; (simp only [wset_v, wrow_v, jj_upd, true_and, and_true, if_true, wrow_2, wset_2] <;> (repeat (first | rw [if_neg (by omega)] | rw [if_pos (by omega)])) <;> (try rfl)); rw [r24]; exact h2
  have off : ∀ a, a ≠ 24 → w3.1 a = w1.1 a := fun a ha => by rw [hw3, hw2]; (funext zz_i; simp only [wset_v, wrow_v, jj_upd, true_and, and_true, if_true] <;> (repeat (first | rw [if_neg (by omega)] | rw [if_pos (by omega)])) <;> (try rfl))
  refine ⟨w3, ?_, ?_, fun a ha hb => by rw [off a ha, c3 a hb], ?_, ?_, fun n row hn hS => ?_⟩
  · unfold f_X0_remember f_X0_remember_b0
    rw [place_eq h1 hx]
    simp only [cal, hci, bnd, wget_def, r24, h1, nI_1]
    by_cases q : nx = 9
    · subst q
      rw [if_pos (by decide)]
      have e : (0 : Int32) = nI ((9 + 1) % 10) := rfl
      rw [e, ← hw2, e2, hmin, ← hw3]
    · rw [if_neg (show ¬ (10 : Int32) ≤ nI (nx + 1) from nI_ge (b := 10) (by omega) (by decide))]
      have e : nx + 1 = (nx + 1) % 10 := by omega
      rw [e, ← hw2, e2, hmin, ← hw3]
  · rw [hw3, hw2]; exact c2
  · rw [hw3, hw2]; (simp only [wset_v, wrow_v, jj_upd, true_and, and_true, if_true, wrow_2, wset_2] <;> (repeat (first | rw [if_neg (by omega)] | rw [if_pos (by omega)])) <;> (try rfl))
  · rw [hw3]; (simp only [wset_v, wrow_v, jj_upd, true_and, and_true, if_true, wrow_2, wset_2] <;> (repeat (first | rw [if_neg (by omega)] | rw [if_pos (by omega)])) <;> (try rfl))
  · exact SRel_cong (c4 n row hn hS) (fun a p1 p2 => off a (by omega))
theorem recC {w : Wd} {nx kn : Nat} (h1 : w.1 24 1 = nI nx) (hx : nx < 10) (h2 : w.1 24 2 = nI kn) (hk0 : 0 < kn) (hk : kn ≤ 10) : ∃ w', f_X0_recall 14 w = some ((), w') ∧ w'.2 = w.2 ∧ (∀ a, a ≠ 24 → (a < 14 ∨ 18 < a) → w'.1 a = w.1 a) ∧ w'.1 24 1 = nI ((nx + 9) % 10) ∧ w'.1 24 2 = nI (kn - 1) ∧ ∀ n row, n ≤ 6 → SRel n w (26 + 5 * ((nx + 9) % 10)) row → SRel n w' 14 row := by
  have hmax : imax 0 (nI kn - 1) = nI (kn - 1) := (mv_all kn (by omega)).2.2.2.2
  obtain ⟨w1, hw1⟩ : ∃ x, x = wset w 24 1 (nI ((nx + 9) % 10)) := ⟨_, rfl⟩
  obtain ⟨w2, hw2⟩ : ∃ x, x = wset w1 24 2 (nI (kn - 1)) := ⟨_, rfl⟩
  have e2 : w1.1 24 2 = nI kn := by rw [hw1]; (simp only [wset_v, wrow_v, jj_upd, true_and, and_true, if_true, wrow_2, wset_2] <;> (repeat (first | rw [if_neg (by omega)] | rw [if_pos (by omega)])) <;> (try rfl)); exact h2
  have e1 : w2.1 24 1 = nI ((nx + 9) % 10) := by rw [hw2, hw1]; (simp only [wset_v, wrow_v, jj_upd, true_and, and_true, if_true, wrow_2, wset_2] <;> (repeat (first | rw [if_neg (by omega)] | rw [if_pos (by omega)])) <;> (try rfl))
  have e3 : w2.1 24 2 = nI (kn - 1) := by rw [hw2]; (simp only [wset_v, wrow_v, jj_upd, true_and, and_true, if_true, wrow_2, wset_2] <;> (repeat (first | rw [if_neg (by omega)] | rw [if_pos (by omega)])) <;> (try rfl))
  have off : ∀ a, a ≠ 24 → w2.1 a = w.1 a := fun a ha => by rw [hw2, hw1]; (funext zz_i; simp only [wset_v, wrow_v, jj_upd, true_and, and_true, if_true] <;> (repeat (first | rw [if_neg (by omega)] | rw [if_pos (by omega)])) <;> (try rfl))
  have hp := place_eq e1 (by omega)
  obtain ⟨w3, c1, c2, c3, c4⟩ := copy4 14 (26 + 5 * ((nx + 9) % 10)) (by omega) w2
  have k1 : kindOf (26 + 5 * ((nx + 9) % 10)) = 4 := kRingAll _ (by omega)
  have hci : f_X0_copyInto (some 14) (some (26 + 5 * ((nx + 9) % 10))) w2 = some ((), w3) := by
    show grd (decide (kindOf 14 = 4)) (grd (decide (kindOf (26 + 5 * ((nx + 9) % 10)) = 4)) (f_X4_copy 14 (26 + 5 * ((nx + 9) % 10)) w2)) = _
    rw [decide_eq_true k1, c1]
    rfl
  refine ⟨w3, ?_, ?_, fun a ha hb => by rw [c3 a hb, off a ha], by rw [c3 24 (by omega), e1], by rw [c3 24 (by omega), e3], fun n row hn hS => c4 n row hn (SRel_cong hS (fun a p1 p2 => off a (by omega)))⟩
  · unfold f_X0_recall f_X0_recall_b0
    simp only [bnd, wget_def, h1]
    by_cases q : nx = 0
    · subst q
      rw [if_pos (by decide)]
      have e : (9 : Int32) = nI ((0 + 9) % 10) := rfl
      rw [e, ← hw1, e2, hmax, ← hw2, hp]
      simp only [cal, hci]
    · have hnx : ¬ nI nx ≤ 0 := nI_ge (a := 0) (by omega) (by omega)
      rw [if_neg hnx]
      have e : nI nx - 1 = nI ((nx + 9) % 10) := by
        obtain ⟨z, rfl⟩ : ∃ z, nx = z + 1 := ⟨nx - 1, by omega⟩
        rw [nI_pred]
        congr 1
        omega
      rw [e, ← hw1, e2, hmax, ← hw2, hp]
      simp only [cal, hci]
  · rw [c2, hw2, hw1]; rfl
theorem lit26 (k : Nat) : (26 : Int32) * nI k = nI (26 * k) := (Int32.ofNat_mul 26 k).symm
theorem shiftM {w : Wd} (h9 : w.1 92 9 = nI 10) : f_X6_remembers_l11 300 0 w = f_X6_remembers_b49 (wset (wrow w 97 (fun j => if j < 234 then w.1 97 (j + 26) else w.1 97 j)) 92 9 (nI 9)) := by
  have h := jj_loop (F := fun f x r => f_X6_remembers_l11 f x (wrow w 97 r)) (s := fun d r => upd r d (r (d + 26))) (ex := fun r => f_X6_remembers_b49 (wset (wrow w 97 r) 92 9 (nI 9))) (N := 234) (fun i r => r = fun j => if j < i then w.1 97 (j + 26) else w.1 97 j) (by
    intro f i r hi hP
    constructor
    · have h6 : ¬ (234 : Int32) ≤ nI i := nI_ge hi (by decide)
      show f_X6_remembers_l11 (f + 1) (nI i) _ = f_X6_remembers_l11 f (nI (i + 1)) _
      rw [f_X6_remembers_l11, f_X6_remembers_h11, if_neg h6]
      have e26 : nI i + 26 = nI (i + 26) := nI_add i 26
      simp only [e26, jj_inb (show i + 26 < 260 by omega) (show 260 < 2 ^ 31 by decide), jj_inb (show i < 260 by omega) (show 260 < 2 ^ 31 by decide), jj_tn (show i + 26 < 2 ^ 31 by omega), jj_tn (show i < 2 ^ 31 by omega), grd, bnd, wget_def, wset_wrow, wrow_row, nI_1]
    · subst hP
      funext j
      rw [jj_upd]
      by_cases q : j = i
      · subst q
        rw [if_pos rfl]
        show (if j + 26 < j then w.1 97 (j + 26 + 26) else w.1 97 (j + 26)) = if j < j + 1 then w.1 97 (j + 26) else w.1 97 j
        rw [if_neg (by omega), if_pos (by omega)]
      · rw [if_neg q]
        by_cases q2 : j < i
        · rw [if_pos q2, if_pos (by omega)]
        · rw [if_neg q2, if_neg (by omega)]) (by
    intro f r _
    show f_X6_remembers_l11 (f + 1) (nI 234) _ = _
    rw [f_X6_remembers_l11, f_X6_remembers_h11, if_pos (by decide)]
    simp only [bnd, wget_def, wrow_off (w := w) (r := r) (show 92 ≠ 97 by decide), h9]
    rfl) 234 0 (w.1 97) 300 rfl (by decide) (by funext j; rw [if_neg (by omega)])
  simp only [wrow_self] at h
  refine h.trans ?_
  have hi := itr_inv (s := fun d (r : Nat → Int32) => upd r d (r (d + 26))) (P := fun i r => r = fun j => if j < i then w.1 97 (j + 26) else w.1 97 j) 234 0 (w.1 97) (by funext j; rw [if_neg (by omega)]) (by
    intro i r _ _ hP
    subst hP
    funext j
    rw [jj_upd]
    by_cases q : j = i
    · subst q
      rw [if_pos rfl]
      show (if j + 26 < j then w.1 97 (j + 26 + 26) else w.1 97 (j + 26)) = if j < j + 1 then w.1 97 (j + 26) else w.1 97 j
      rw [if_neg (by omega), if_pos (by omega)]
    · rw [if_neg q]
      by_cases q2 : j < i
      · rw [if_pos q2, if_pos (by omega)]
      · rw [if_neg q2, if_neg (by omega)])
  rw [hi]
theorem pushM {w : Wd} {kn : Nat} (h9 : w.1 92 9 = nI kn) (hk : kn ≤ 9) : f_X6_remembers_b49 w = some ((), wset (wrow w 97 (fun j => if 26 * kn ≤ j ∧ j < 26 * kn + 26 then w.1 96 (j - 26 * kn) else w.1 97 j)) 92 9 (nI (kn + 1))) := by
  unfold f_X6_remembers_b49
  rw [wget_def, h9, lit26]
  have hc := copy26 (k0 := 97) (k2 := 96) (a := 26 * kn) (c := 0) (by decide) (show 26 * kn + 26 ≤ 260 by omega) (show 0 + 26 ≤ 26 by decide) (show 260 ≤ 300 by decide) (show 26 ≤ 300 by decide) w
  have e0 : (0 : Int32) = nI 0 := rfl
  rw [e0, hc]
  simp only [cal, bnd, wget_def, Nat.zero_add]
  rw [wrow_off (show 92 ≠ 97 by decide), h9, nI_1]
theorem remM {w : Wd} {kn : Nat} (h9 : w.1 92 9 = nI kn) (hk : kn ≤ 10) : ∃ w', f_X6_remembers w = some ((), w') ∧ w'.2 = w.2 ∧ (∀ a, a ≠ 97 → a ≠ 92 → w'.1 a = w.1 a) ∧ (∀ j, j ≠ 9 → w'.1 92 j = w.1 92 j) ∧ w'.1 92 9 = nI (min 10 (kn + 1)) ∧ (∀ i, i < 26 → w'.1 97 (26 * (min 10 (kn + 1) - 1) + i) = w.1 96 i) ∧ ∀ j i, j < min 10 (kn + 1) - 1 → i < 26 → w'.1 97 (26 * j + i) = w.1 97 (26 * (j + (kn + 1 - min 10 (kn + 1))) + i) := by
  by_cases q : kn = 10
  · subst q
    obtain ⟨w1, hw1⟩ : ∃ x, x = wset (wrow w 97 (fun j => if j < 234 then w.1 97 (j + 26) else w.1 97 j)) 92 9 (nI 9) := ⟨_, rfl⟩
    have e9 : w1.1 92 9 = nI 9 := by rw [hw1]; (simp only [wset_v, wrow_v, jj_upd, true_and, and_true, if_true, wrow_2, wset_2] <;> (repeat (first | rw [if_neg (by omega)] | rw [if_pos (by omega)])) <;> (try rfl))
    have e96 : w1.1 96 = w.1 96 := by rw [hw1]; (funext zz_i; simp only [wset_v, wrow_v, jj_upd, true_and, and_true, if_true] <;> (repeat (first | rw [if_neg (by omega)] | rw [if_pos (by omega)])) <;> (try rfl))
    have e97 : ∀ j, w1.1 97 j = if j < 234 then w.1 97 (j + 26) else w.1 97 j := fun j => by rw [hw1, wset_v, if_neg (by omega), wrow_v, if_pos rfl]
    obtain ⟨w2, hw2⟩ : ∃ x, x = wset (wrow w1 97 (fun j => if 26 * 9 ≤ j ∧ j < 26 * 9 + 26 then w1.1 96 (j - 26 * 9) else w1.1 97 j)) 92 9 (nI (9 + 1)) := ⟨_, rfl⟩
    refine ⟨w2, ?_, ?_, fun a ha hb => ?_, fun j hj => ?_, ?_, fun i hi => ?_, fun j i hj hi => ?_⟩
    · unfold f_X6_remembers f_X6_remembers_b0
      rw [wget_def, h9, if_pos (show nI 10 = 10 from rfl)]
      simp only [bnd]
      rw [shiftM h9, ← hw1, pushM e9 (by decide), ← hw2]
    · rw [hw2, hw1]; rfl
    · rw [hw2, hw1]; (funext zz_i; simp only [wset_v, wrow_v, jj_upd, true_and, and_true, if_true] <;> (repeat (first | rw [if_neg (by omega)] | rw [if_pos (by omega)])) <;> (try rfl))
    · rw [hw2, hw1]; (simp only [wset_v, wrow_v, jj_upd, true_and, and_true, if_true, wrow_2, wset_2] <;> (repeat (first | rw [if_neg (by omega)] | rw [if_pos (by omega)])) <;> (try rfl))
    · rw [hw2]; (simp only [wset_v, wrow_v, jj_upd, true_and, and_true, if_true, wrow_2, wset_2] <;> (repeat (first | rw [if_neg (by omega)] | rw [if_pos (by omega)])) <;> (try rfl))
    · show w2.1 97 (26 * 9 + i) = _
      rw [hw2, wset_v, if_neg (by omega), wrow_v, if_pos rfl, if_pos (by omega), Nat.add_sub_cancel_left, e96]
    · have hj2 : j < 9 := hj
      show _ = w.1 97 (26 * (j + 1) + i)
      rw [hw2, wset_v, if_neg (by omega), wrow_v, if_pos rfl, if_neg (by omega), e97, if_pos (by omega), show 26 * (j + 1) + i = 26 * j + i + 26 by omega]
  · obtain ⟨w2, hw2⟩ : ∃ x, x = wset (wrow w 97 (fun j => if 26 * kn ≤ j ∧ j < 26 * kn + 26 then w.1 96 (j - 26 * kn) else w.1 97 j)) 92 9 (nI (kn + 1)) := ⟨_, rfl⟩
    have em : min 10 (kn + 1) = kn + 1 := by omega
    refine ⟨w2, ?_, ?_, fun a ha hb => ?_, fun j hj => ?_, ?_, fun i hi => ?_, fun j i hj hi => ?_⟩
    · unfold f_X6_remembers f_X6_remembers_b0
      rw [wget_def, h9, if_neg (show ¬ nI kn = 10 from fun h => q ((nI_eq (a := kn) (b := 10) (by omega) (by decide)).mp h)), pushM h9 (by omega), ← hw2]
    · rw [hw2]; rfl
    · rw [hw2]; (funext zz_i; simp only [wset_v, wrow_v, jj_upd, true_and, and_true, if_true] <;> (repeat (first | rw [if_neg (by omega)] | rw [if_pos (by omega)])) <;> (try rfl))
    · rw [hw2]; (simp only [wset_v, wrow_v, jj_upd, true_and, and_true, if_true, wrow_2, wset_2] <;> (repeat (first | rw [if_neg (by omega)] | rw [if_pos (by omega)])) <;> (try rfl))
    · rw [hw2, em]; (simp only [wset_v, wrow_v, jj_upd, true_and, and_true, if_true, wrow_2, wset_2] <;> (repeat (first | rw [if_neg (by omega)] | rw [if_pos (by omega)])) <;> (try rfl))
    · rw [em, Nat.add_sub_cancel, hw2, wset_v, if_neg (by omega), wrow_v, if_pos rfl, if_pos (by omega), Nat.add_sub_cancel_left]
    · rw [em] at hj ⊢
      rw [hw2, wset_v, if_neg (by omega), wrow_v, if_pos rfl, if_neg (by omega), Nat.sub_self, Nat.add_zero]
/-- behind a thing done: the past of both, one longer -/
theorem IvP_push {n kn nx : Nat} (hn : n ≤ 6) {w v : Wd} (hkn : kn ≤ 10) (hnx : nx < 10) (hold : ∀ j, j < kn → SRel n w (26 + 5 * ((nx + 10 - kn + j) % 10)) (fun i => w.1 97 (26 * j + i)) ∧ RInv n 99 (fun i => w.1 97 (26 * j + i))) (hS : SRel n v (26 + 5 * nx) (w.1 96)) (hI : RInv n 99 (w.1 96))
    (h1 : v.1 24 1 = nI ((nx + 1) % 10)) (h2 : v.1 24 2 = nI (min 10 (kn + 1))) (h9 : v.1 92 9 = nI (min 10 (kn + 1))) (hr : ∀ a, 26 ≤ a → a ≤ 75 → (a < 26 + 5 * nx ∨ 26 + 5 * nx + 4 < a) → v.1 a = w.1 a)
    (g1 : ∀ i, i < 26 → v.1 97 (26 * (min 10 (kn + 1) - 1) + i) = w.1 96 i) (g2 : ∀ j i, j < min 10 (kn + 1) - 1 → i < 26 → v.1 97 (26 * j + i) = w.1 97 (26 * (j + (kn + 1 - min 10 (kn + 1))) + i)) : IvP n v := by
  refine ⟨min 10 (kn + 1), (nx + 1) % 10, by omega, by omega, h2, h9, h1, fun j hj => ?_⟩
  by_cases q : j = min 10 (kn + 1) - 1
  · have e : ((nx + 1) % 10 + 10 - min 10 (kn + 1) + j) % 10 = nx := by omega
    rw [e]
    have ej : ∀ i, i < 26 → w.1 96 i = v.1 97 (26 * j + i) := fun i hi => by rw [q]; exact (g1 i hi).symm
    exact ⟨SRel_row hn hS ej, RInv_row hn hI ej⟩
  · obtain ⟨o1, o2⟩ := hold (j + (kn + 1 - min 10 (kn + 1))) (by omega)
    have e : (nx + 10 - kn + (j + (kn + 1 - min 10 (kn + 1)))) % 10 = ((nx + 1) % 10 + 10 - min 10 (kn + 1) + j) % 10 := by omega
    have e2 : ((nx + 1) % 10 + 10 - min 10 (kn + 1) + j) % 10 ≠ nx := by omega
    have e3 : ((nx + 1) % 10 + 10 - min 10 (kn + 1) + j) % 10 < 10 := by omega
    rw [e] at o1
    have ej : ∀ i, i < 26 → w.1 97 (26 * (j + (kn + 1 - min 10 (kn + 1))) + i) = v.1 97 (26 * j + i) := fun i hi => (g2 j i (by omega) hi).symm
    refine ⟨SRel_row hn (SRel_cong o1 (fun a p1 p2 => hr a (by omega) (by omega) (by omega))) ej, RInv_row hn o2 ej⟩
