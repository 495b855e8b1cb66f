/-! PURE: skewers, dips -/
def skL (set : Int32) (L : Nat → Int32) : Nat → Int32 := fun j => if j < 6 then (if (set >>> (nI j &&& 31)) &&& 1 = 0 then L j else nI (2 ^ j)) else L j
theorem skewer_loop {k d : Nat} (hd : d < 6) (set : Int32) (w : Wd) : f_X4_skewer_l9 k 300 (nI d) set 0 w = some ((), wset (wrow w (k + 3) (skL set (w.1 (k + 3)))) (k + 2) d (imax 1 (w.1 (k + 2) d / 2))) := by
  have h := jj_loop0 (F := fun f x a => f_X4_skewer_l9 k f (nI d) set x (wrow w (k + 3) a)) (s := fun j a => upd a (0 + j) (if (set >>> (nI j &&& 31)) &&& 1 = 0 then a j else nI (2 ^ j))) (ex := fun a => some ((), wset (wrow w (k + 3) a) (k + 2) d (imax 1 (w.1 (k + 2) d / 2)))) (N := 6) (by
    intro f i a hi
    have h6 : ¬ (6 : Int32) ≤ nI i := nI_ge hi (by decide)
    show f_X4_skewer_l9 k (f + 1) (nI d) set (nI i) _ = f_X4_skewer_l9 k f (nI d) set (nI (i + 1)) _
    rw [f_X4_skewer_l9, f_X4_skewer_h9, if_neg h6]
    by_cases hb : (set >>> (nI i &&& 31)) &&& 1 = 0
    · rw [if_pos hb, f_X4_skewer_b32, jj_bnd, nI_1]
      simp only [hb, if_true, Nat.zero_add, jj_upd_self]
    · rw [if_neg hb, jj_grd (jj_i6 hi), jj_bnd, f_X4_skewer_b32, jj_bnd, nI_1, jj_tn (show i < 2 ^ 31 by omega), wset_wrow, jj_shl (show i < 7 by omega)]
      simp only [hb, if_false, Nat.zero_add]) (by
    intro f a
    show f_X4_skewer_l9 k (f + 1) (nI d) set (nI 6) _ = _
    rw [f_X4_skewer_l9, f_X4_skewer_h9, if_pos (by decide), jj_grd (jj_i6 hd), jj_grd (jj_i6 hd), jj_bnd, jj_tn (show d < 2 ^ 31 by omega), wget_def, wrow_off (show k + 2 ≠ k + 3 by omega)]) 6 0 (w.1 (k + 3)) 300 rfl (by decide)
  rw [itr_pw (o := 0) (F := fun j a => if (set >>> (nI j &&& 31)) &&& 1 = 0 then a j else nI (2 ^ j)) (fun j a ha => by rw [ha j (by omega)])] at h
  simp only [wrow_self] at h
  refine h.trans ?_
  congr 4
  funext j
  simp [skL]
def sz2 (x : Int32) : Int32 := if 4 ≤ x then x / 2 else 1
def skM (n : Nat) (set : Int32) (r : Nat → Int32) : Nat → Int32 := fun j => if 14 ≤ j ∧ j < 14 + n then (if (set >>> (nI (j - 14) &&& 31)) &&& 1 = 0 then r (14 + (j - 14)) else nI (2 ^ (j - 14))) else r j
theorem skewersM_loop {n d : Nat} {w : Wd} (hn : w.1 92 0 = nI n) (hn6 : n ≤ 6) (hd : d < n) (set : Int32) : f_X6_skewers_l42 300 (nI d) set 0 w = some (sz2 (w.1 96 (8 + d)), wrow w 96 (upd (skM n set (w.1 96)) (8 + d) (sz2 (w.1 96 (8 + d))))) := by
  have h := jj_loop0 (F := fun f x a => f_X6_skewers_l42 f (nI d) set x (wrow w 96 a)) (s := fun j a => upd a (14 + j) (if (set >>> (nI j &&& 31)) &&& 1 = 0 then a (14 + j) else nI (2 ^ j))) (ex := fun a => some (sz2 (a (8 + d)), wrow w 96 (upd a (8 + d) (sz2 (a (8 + d)))))) (N := n) (by
    intro f i a hi
    have h6 : ¬ nI n ≤ nI i := nI_ge hi (by omega)
    show f_X6_skewers_l42 (f + 1) (nI d) set (nI i) _ = f_X6_skewers_l42 f (nI d) set (nI (i + 1)) _
    rw [f_X6_skewers_l42, f_X6_skewers_h42, wget_def, wrow_off (by decide), hn, if_neg h6, has_eq, jj_cal]
    by_cases hb : (set >>> (nI i &&& 31)) &&& 1 = 0
    · rw [if_pos hb, if_pos rfl, jj_14, jj_grd (jj_i26 (show 14 + i < 26 by omega)), jj_grd (jj_i26 (show 14 + i < 26 by omega)), jj_bnd, jj_bnd, nI_1, jj_tn (show 14 + i < 2 ^ 31 by omega), wset_wrow, wget_def, wrow_row]
      simp only [hb, if_true]
    · rw [if_neg hb, if_neg jj_ne10, jj_14, jj_grd (jj_i26 (show 14 + i < 26 by omega)), jj_bnd, jj_bnd, nI_1, jj_tn (show 14 + i < 2 ^ 31 by omega), wset_wrow, jj_shl (show i < 7 by omega)]
      simp only [hb, if_false]) (by
    intro f a
    show f_X6_skewers_l42 (f + 1) (nI d) set (nI n) _ = _
    rw [f_X6_skewers_l42, f_X6_skewers_h42, wget_def, wrow_off (by decide), hn, if_pos (nI_le (Nat.le_refl n) (by omega)), jj_8, jj_grd (jj_i26 (show 8 + d < 26 by omega)), jj_tn (show 8 + d < 2 ^ 31 by omega), wget_def, wrow_row]
    unfold sz2
    by_cases h4 : 4 ≤ a (8 + d)
    · rw [if_pos h4, if_pos h4, jj_grd (jj_i26 (show 8 + d < 26 by omega)), jj_grd (jj_i26 (show 8 + d < 26 by omega)), jj_bnd, jj_grd (jj_i26 (show 8 + d < 26 by omega)), wset_wrow, wget_def, wrow_row, jj_upd, if_pos rfl]
    · rw [if_neg h4, if_neg h4, jj_grd (jj_i26 (show 8 + d < 26 by omega)), jj_bnd, jj_grd (jj_i26 (show 8 + d < 26 by omega)), wset_wrow, wget_def, wrow_row, jj_upd, if_pos rfl]) n 0 (w.1 96) 300 (by omega) (by omega)
  rw [itr_pwb (o := 14) (N := 6) (F := fun j a => if (set >>> (nI j &&& 31)) &&& 1 = 0 then a (14 + j) else nI (2 ^ j)) (fun j a hj ha => by rw [ha (14 + j) (by omega)]) n hn6] at h
  simp only [wrow_self] at h
  have e : (if 14 ≤ 8 + d ∧ 8 + d < 14 + n then (if (set >>> (nI (8 + d - 14) &&& 31)) &&& 1 = 0 then w.1 96 (14 + (8 + d - 14)) else nI (2 ^ (8 + d - 14))) else w.1 96 (8 + d)) = w.1 96 (8 + d) := if_neg (by omega)
  rw [e] at h
  exact h
theorem sz_all : ∀ k, k < 31 → imax 1 (nI k / 2) = sz2 (nI k) ∧ sz2 (nI k) = nI (max 1 (k / 2)) := by decide +kernel
theorem op_skewers : Op1 Iv f_X5_skewers f_X6_skewers := by
  intro a w hI
  obtain ⟨n, hn, hT, hS, hP, hG, hN, hX, hE⟩ := id hI
  obtain ⟨t0, t1, -⟩ := id hT
  obtain ⟨kn, nx, pk, px, p2, p9, p1, pold⟩ := id hP
  obtain ⟨⟨s0, s1, sA, sB⟩, m, h, i0, im, i1, ih, iA⟩ := id hS
  rcases one_cases a hn with ⟨d, hd, rfl⟩ | hx
  · by_cases hdry : w.1 15 d = -9
    · refine ⟨-2, w, w, ?_, ?_, hI⟩
      · rw [f_X5_skewers, f_X5_skewers_b0, isTold_yes t1 hn hd, jj_cal, if_neg jj_ne10, isDry_eq (show d < 6 by omega), jj_cal, if_pos hdry, if_neg jj_ne10]
      · rw [f_X6_skewers, f_X6_skewers_b0, isOne_yes t0 hn hd, jj_cal, if_neg jj_ne10, jj_2, jj_grd (jj_i26 (show 2 + d < 26 by omega)), jj_tn (show 2 + d < 2 ^ 31 by omega), wget_def, if_pos (show w.1 96 (2 + d) = -9 by rw [← (sA d hd).1]; exact hdry)]
    · obtain ⟨w1, c0, hC⟩ := rem_c hn hS p1 px p2 pk
      obtain ⟨c1, c2, -⟩ := id hC
      obtain ⟨set, hset⟩ : ∃ x, x = w.1 17 d := ⟨_, rfl⟩
      have hset2 : set = w.1 96 (14 + d) := by rw [hset]; exact (sA d hd).2.2.1
      obtain ⟨w2, hw2⟩ : ∃ x, x = wset (wrow w1 17 (skL set (w1.1 17))) 16 d (imax 1 (w1.1 16 d / 2)) := ⟨_, rfl⟩
      have hsk : f_X4_skewer 14 (nI d) w1 = some ((), w2) := by
        rw [f_X4_skewer, f_X4_skewer_b0, jj_grd (jj_i6 (show d < 6 by omega)), jj_bnd, jj_bnd, jj_tn (show d < 2 ^ 31 by omega), wget_def, skewer_loop (show d < 6 by omega), show w1.1 (14 + 3) d = set by rw [c2 (14 + 3) (by omega) (by omega)]; exact hset.symm, hw2]
      have x17 : w1.1 17 = w.1 17 := c2 17 (by omega) (by omega)
      have x16 : w1.1 16 = w.1 16 := c2 16 (by omega) (by omega)
      have d2 : ∀ a, a < 14 ∨ 18 < a → w2.1 a = w1.1 a := fun a ha => by rw [hw2, (wset_off _ 16 d _ a (by omega)).1]; exact wrow_off (by omega)
      have e92 : w2.1 92 = w.1 92 := by rw [d2 92 (by omega), c2 92 (by omega) (by omega)]
      have e96 : w2.1 96 = w.1 96 := by rw [d2 96 (by omega), c2 96 (by omega) (by omega)]
      obtain ⟨w3, m0, hM⟩ := remM (w := w2) (kn := kn) (by rw [e92]; exact p9) pk
      obtain ⟨m1, m2, m3, -⟩ := id hM
      have y96 : w3.1 96 = w.1 96 := by rw [m2 96 (by decide) (by decide), e96]
      have hl := skewersM_loop (w := w3) (n := n) (d := d) (by rw [m3 0 (by decide), e92]; exact t0) hn hd set
      obtain ⟨v, hv⟩ : ∃ x, x = wrow w3 96 (upd (skM n set (w3.1 96)) (8 + d) (sz2 (w3.1 96 (8 + d)))) := ⟨_, rfl⟩
      rw [← hv] at hl
      obtain ⟨-, ⟨q, q1, q2, q3⟩, -, -⟩ := iA d hd
      obtain ⟨z1, z2⟩ := sz_all q (by omega)
      have hsz : imax 1 (w1.1 16 d / 2) = sz2 (w3.1 96 (8 + d)) := by rw [x16, (sA d hd).2.1, y96, q3]; exact z1
      have hsz2 : sz2 (w3.1 96 (8 + d)) = nI (max 1 (q / 2)) := by rw [y96, q3]; exact z2
      have vo : ∀ a, a ≠ 96 → v.1 a = w3.1 a := fun a ha => by rw [hv]; exact wrow_off ha
      have v96 : ∀ j, v.1 96 j = if j = 8 + d then nI (max 1 (q / 2)) else skM n set (w.1 96) j := fun j => by rw [hv, wrow_row, jj_upd, hsz2, y96]
      have vm : ∀ j, j < 14 ∨ 20 ≤ j → j ≠ 8 + d → v.1 96 j = w.1 96 j := fun j h1 h2 => by
        rw [v96, if_neg h2]
        unfold skM
        rw [if_neg (by omega)]
      have vl : ∀ e, e < n → v.1 96 (14 + e) = if (set >>> (nI e &&& 31)) &&& 1 = 0 then w.1 96 (14 + e) else nI (2 ^ e) := fun e he => by
        rw [v96, if_neg (by omega)]
        unfold skM
        rw [if_pos (by omega), Nat.add_sub_cancel_left]
      have vS : ∀ a, 14 ≤ a → a ≤ 18 → v.1 a = w2.1 a := fun a h1 h2 => by rw [vo a (by omega), m2 a (by omega) (by omega)]
      have z16 : ∀ j, w2.1 16 j = if j = d then nI (max 1 (q / 2)) else w.1 16 j := fun j => by
        rw [hw2, wset_v, wrow_off (show 16 ≠ 17 by decide), x16, ← x16, hsz, hsz2]; simp only [true_and]
      have z17 : w2.1 17 = skL set (w.1 17) := by rw [hw2, (wset_off _ 16 d _ 17 (by decide)).1, wrow_row, x17]
      have zo : ∀ a, 14 ≤ a → a ≤ 18 → a ≠ 16 → a ≠ 17 → w2.1 a = w.1 a := fun a h1 h2 h3 h4 => by rw [hw2, (wset_off _ 16 d _ a h3).1, wrow_off h4, c2 a (by omega) (by omega)]
      refine ⟨sz2 (w3.1 96 (8 + d)), w2, v, ?_, ?_, ?_⟩
      · rw [f_X5_skewers, f_X5_skewers_b0, isTold_yes t1 hn hd, jj_cal, if_neg jj_ne10, isDry_eq (show d < 6 by omega), jj_cal, if_neg hdry, if_pos rfl, c0, jj_cal, hsk, jj_cal, jj_grd (jj_i6 (show d < 6 by omega)), jj_tn (show d < 2 ^ 31 by omega), wget_def, z16, if_pos rfl, hsz2]
      · rw [f_X6_skewers, f_X6_skewers_b0, isOne_yes (w := w2) (by rw [e92]; exact t0) hn hd, jj_cal, if_neg jj_ne10, jj_2, jj_grd (jj_i26 (show 2 + d < 26 by omega)), jj_tn (show 2 + d < 2 ^ 31 by omega), wget_def, if_neg (show ¬ w2.1 96 (2 + d) = -9 by rw [e96, ← (sA d hd).1]; exact hdry), m0, jj_cal, jj_14, jj_grd (jj_i26 (show 14 + d < 26 by omega)), jj_bnd, jj_bnd, jj_tn (show 14 + d < 2 ^ 31 by omega), wget_def, y96, ← hset2, hl, y96]
      · refine Iv_did hn hT hS pk px pold hG hN hX hE hC (by rw [hw2]; rfl) d2 hM (by rw [hv]; rfl) (fun a h1 h2 => vo a h1) ⟨?_, ?_, fun e he => ⟨?_, ?_, ?_, ?_⟩, fun e h1 h2 => ⟨?_, ?_⟩⟩ ⟨m, h, ?_, im, ?_, ih, fun e he => ⟨?_, ?_, ?_, ?_⟩⟩
        · rw [vS 14 (by omega) (by omega), zo 14 (by omega) (by omega) (by omega) (by omega), vm 0 (by omega) (by omega)]; exact s0
        · rw [vS 14 (by omega) (by omega), zo 14 (by omega) (by omega) (by omega) (by omega), vm 1 (by omega) (by omega)]; exact s1
        · rw [vS 15 (by omega) (by omega), zo 15 (by omega) (by omega) (by omega) (by omega), vm (2 + e) (by omega) (by omega)]; exact (sA e he).1
        · rw [vS 16 (by omega) (by omega), z16]
          by_cases ed : e = d
          · rw [if_pos ed, v96, if_pos (by omega)]
          · rw [if_neg ed, vm (8 + e) (by omega) (by omega)]; exact (sA e he).2.1
        · rw [vS 17 (by omega) (by omega), z17, vl e he]
          unfold skL
          rw [if_pos (by omega), (sA e he).2.2.1]
        · rw [vS 18 (by omega) (by omega), zo 18 (by omega) (by omega) (by omega) (by omega), vm (20 + e) (by omega) (by omega)]; exact (sA e he).2.2.2
        · rw [vS 15 (by omega) (by omega), zo 15 (by omega) (by omega) (by omega) (by omega)]; exact (sB e h1 h2).1
        · rw [vS 18 (by omega) (by omega), zo 18 (by omega) (by omega) (by omega) (by omega)]; exact (sB e h1 h2).2
        · rw [vm 0 (by omega) (by omega)]; exact i0
        · rw [vm 1 (by omega) (by omega)]; exact i1
        · rw [vm (2 + e) (by omega) (by omega)]; exact (iA e he).1
        · by_cases ed : e = d
          · exact ⟨max 1 (q / 2), by omega, by omega, by rw [v96, if_pos (by omega)]⟩
          · rw [vm (8 + e) (by omega) (by omega)]; exact (iA e he).2.1
        · rw [vl e he]
          split
          · exact (iA e he).2.2.1
          · exact ⟨2 ^ e, Nat.pow_lt_pow_right (by decide) he, rfl⟩
        · rw [vm (20 + e) (by omega) (by omega)]; exact (iA e he).2.2.2
  · refine ⟨-1, w, w, ?_, ?_, hI⟩
    · rw [f_X5_skewers, f_X5_skewers_b0, isTold_no t1 hn hx, jj_cal, if_pos rfl]
    · rw [f_X6_skewers, f_X6_skewers_b0, isOne_no t0 hn hx, jj_cal, if_pos rfl]
def dpL (d : Nat) (L : Nat → Int32) : Nat → Int32 := fun j => if j = d then nI (2 ^ d) else if j < 6 then L j &&& (nI (2 ^ d) ^^^ -1) else L j
theorem dip_eq {k d : Nat} (hd : d < 6) (w : Wd) : f_X4_dip k (nI d) w = some ((), wset (wrow w (k + 3) (dpL d (w.1 (k + 3)))) (k + 1) d (-9)) := by
  have h := jj_loop0 (F := fun f x a => f_X4_dip_l2 k f (nI d) x (wrow w (k + 3) a)) (s := fun j a => upd a (0 + j) (a j &&& (nI (2 ^ d) ^^^ -1))) (ex := fun a => some ((), wset (wrow w (k + 3) (upd a d (nI (2 ^ d)))) (k + 1) d (-9))) (N := 6) (by
    intro f i a hi
    have h6 : ¬ (6 : Int32) ≤ nI i := nI_ge hi (by decide)
    show f_X4_dip_l2 k (f + 1) (nI d) (nI i) _ = f_X4_dip_l2 k f (nI d) (nI (i + 1)) _
    rw [f_X4_dip_l2, f_X4_dip_h2, if_neg h6, jj_grd (jj_i6 hi), jj_grd (jj_i6 hi), jj_bnd, jj_bnd, nI_1, jj_tn (show i < 2 ^ 31 by omega), wset_wrow, jj_shl (show d < 7 by omega), wget_def, wrow_row, Nat.zero_add]) (by
    intro f a
    show f_X4_dip_l2 k (f + 1) (nI d) (nI 6) _ = _
    rw [f_X4_dip_l2, f_X4_dip_h2, if_pos (by decide), jj_grd (jj_i6 hd), jj_bnd, jj_grd (jj_i6 hd), jj_bnd, jj_tn (show d < 2 ^ 31 by omega), wset_wrow, jj_shl (show d < 7 by omega)]) 6 0 (w.1 (k + 3)) 300 rfl (by decide)
  rw [itr_pw (o := 0) (F := fun j a => a j &&& (nI (2 ^ d) ^^^ -1)) (fun j a ha => by rw [ha j (by omega)])] at h
  simp only [wrow_self] at h
  rw [f_X4_dip, f_X4_dip_b0, jj_bnd]
  refine h.trans ?_
  congr 4
  funext j
  simp [dpL, jj_upd]
def dpM (n d : Nat) (r : Nat → Int32) : Nat → Int32 := fun j => if j = 2 + d then -9 else if j = 14 + d then nI (2 ^ d) else if 14 ≤ j ∧ j < 14 + n then r (14 + (j - 14)) &&& (nI (2 ^ d) ^^^ -1) else r j
theorem dips_end {n d : Nat} {w : Wd} (hn : w.1 92 0 = nI n) (hn6 : n ≤ 6) (hd : d < n) : ∃ v, f_X6_dips_l30 300 (nI d) 0 w = some (nI (popc (bset (fun e => decide (v.1 96 (2 + e) = -9)) n)), v) ∧ v = wrow (wrow w 96 (dpM n d (w.1 96))) 103 (v.1 103) := by
  obtain ⟨w4, hw4⟩ : ∃ x, x = wrow w 96 (dpM n d (w.1 96)) := ⟨_, rfl⟩
  obtain ⟨v, v0, v1⟩ := dry_eq (w := w4) (n := n) (by rw [hw4, wrow_off (by decide)]; exact hn) hn6
  have v96 : v.1 96 = w4.1 96 := by rw [v1]; exact wrow_off (by decide)
  refine ⟨v, ?_, by rw [← hw4]; exact v1⟩
  have h := jj_loop0 (F := fun f x a => f_X6_dips_l30 f (nI d) x (wrow w 96 a)) (s := fun j a => upd a (14 + j) (a (14 + j) &&& (nI (2 ^ d) ^^^ -1))) (ex := fun a => f_X6_dips_l30 1 (nI d) (nI n) (wrow w 96 a)) (N := n) (by
    intro f i a hi
    have h6 : ¬ nI n ≤ nI i := nI_ge hi (by omega)
    show f_X6_dips_l30 (f + 1) (nI d) (nI i) _ = f_X6_dips_l30 f (nI d) (nI (i + 1)) _
    rw [f_X6_dips_l30, f_X6_dips_h30, wget_def, wrow_off (by decide), hn, if_neg h6, jj_14, jj_grd (jj_i26 (show 14 + i < 26 by omega)), jj_grd (jj_i26 (show 14 + i < 26 by omega)), jj_bnd, jj_bnd, nI_1, jj_tn (show 14 + i < 2 ^ 31 by omega), wset_wrow, wget_def, wrow_row, jj_shl (show d < 7 by omega)]) (by
    intro f a
    show f_X6_dips_l30 (f + 1) (nI d) (nI n) _ = f_X6_dips_l30 1 (nI d) (nI n) (wrow w 96 a)
    rw [f_X6_dips_l30, f_X6_dips_l30, f_X6_dips_h30, f_X6_dips_h30, wget_def, wrow_off (by decide), hn, if_pos (nI_le (Nat.le_refl n) (by omega)), if_pos (nI_le (Nat.le_refl n) (by omega))]) n 0 (w.1 96) 300 (by omega) (by omega)
  rw [itr_pwb (o := 14) (N := 6) (F := fun j a => a (14 + j) &&& (nI (2 ^ d) ^^^ -1)) (fun j a hj ha => by rw [ha (14 + j) (by omega)]) n hn6] at h
  simp only [wrow_self] at h
  refine h.trans ?_
  rw [f_X6_dips_l30, f_X6_dips_h30, wget_def, wrow_off (by decide), hn, if_pos (nI_le (Nat.le_refl n) (by omega)), jj_14, jj_grd (jj_i26 (show 14 + d < 26 by omega)), jj_bnd, jj_2, jj_grd (jj_i26 (show 2 + d < 26 by omega)), jj_bnd, jj_tn (show 14 + d < 2 ^ 31 by omega), jj_tn (show 2 + d < 2 ^ 31 by omega), wset_wrow, wset_wrow, jj_shl (show d < 7 by omega)]
  have e : wrow w 96 (upd (upd (fun j => if 14 ≤ j ∧ j < 14 + n then w.1 96 (14 + (j - 14)) &&& (nI (2 ^ d) ^^^ -1) else w.1 96 j) (14 + d) (nI (2 ^ d))) (2 + d) (-9)) = w4 := by rw [hw4]; rfl
  rw [e, v0, jj_cal, bits_eq (lt64 hn6 (bset_lt _ n)), jj_cal, v96]
theorem op_dips : Op1 Iv f_X5_dips f_X6_dips := by
  intro a w hI
  obtain ⟨n, hn, hT, hS, hP, hG, hN, hX, hE⟩ := id hI
  obtain ⟨t0, t1, -⟩ := id hT
  obtain ⟨kn, nx, pk, px, p2, p9, p1, pold⟩ := id hP
  obtain ⟨⟨s0, s1, sA, sB⟩, m, h, i0, im, i1, ih, iA⟩ := id hS
  rcases one_cases a hn with ⟨d, hd, rfl⟩ | hx
  · by_cases hup : w.1 15 d = 0
    · obtain ⟨w1, c0, hC⟩ := rem_c hn hS p1 px p2 pk
      obtain ⟨c1, c2, -⟩ := id hC
      obtain ⟨w2, hw2⟩ : ∃ x, x = wset (wrow w1 17 (dpL d (w1.1 17))) 15 d (-9) := ⟨_, rfl⟩
      have hdp : f_X4_dip 14 (nI d) w1 = some ((), w2) := by rw [hw2]; exact dip_eq (show d < 6 by omega) w1
      have x17 : w1.1 17 = w.1 17 := c2 17 (by omega) (by omega)
      have x15 : w1.1 15 = w.1 15 := c2 15 (by omega) (by omega)
      have d2 : ∀ a, a < 14 ∨ 18 < a → w2.1 a = w1.1 a := fun a ha => by rw [hw2, (wset_off _ 15 d _ a (by omega)).1]; exact wrow_off (by omega)
      have e92 : w2.1 92 = w.1 92 := by rw [d2 92 (by omega), c2 92 (by omega) (by omega)]
      have e96 : w2.1 96 = w.1 96 := by rw [d2 96 (by omega), c2 96 (by omega) (by omega)]
      have e4 : w2.1 4 0 = nI n := by rw [d2 4 (by omega), c2 4 (by omega) (by omega)]; exact t1
      obtain ⟨w3, m0, hM⟩ := remM (w := w2) (kn := kn) (by rw [e92]; exact p9) pk
      obtain ⟨m1, m2, m3, -⟩ := id hM
      have y96 : w3.1 96 = w.1 96 := by rw [m2 96 (by decide) (by decide), e96]
      obtain ⟨v, v0, v1⟩ := dips_end (w := w3) (n := n) (d := d) (by rw [m3 0 (by decide), e92]; exact t0) hn hd
      have vo : ∀ a, a ≠ 96 → a ≠ 103 → v.1 a = w3.1 a := fun a ha hb => by rw [v1, wrow_off hb, wrow_off ha]
      have v96 : v.1 96 = dpM n d (w.1 96) := by rw [v1, wrow_off (by decide), wrow_row, y96]
      have vS : ∀ a, 14 ≤ a → a ≤ 18 → v.1 a = w2.1 a := fun a h1 h2 => by rw [vo a (by omega) (by omega), m2 a (by omega) (by omega)]
      have z15 : ∀ j, w2.1 15 j = if j = d then -9 else w.1 15 j := fun j => by rw [hw2, wset_v, wrow_off (show 15 ≠ 17 by decide), x15]; simp only [true_and]
      have z17 : w2.1 17 = dpL d (w.1 17) := by rw [hw2, (wset_off _ 15 d _ 17 (by decide)).1, wrow_row, x17]
      have zo : ∀ a, 14 ≤ a → a ≤ 18 → a ≠ 15 → a ≠ 17 → w2.1 a = w.1 a := fun a h1 h2 h3 h4 => by rw [hw2, (wset_off _ 15 d _ a h3).1, wrow_off h4, c2 a (by omega) (by omega)]
      have vm : ∀ j, j < 14 ∨ 20 ≤ j → j ≠ 2 + d → v.1 96 j = w.1 96 j := fun j h1 h2 => by
        rw [v96]
        unfold dpM
        rw [if_neg h2, if_neg (by omega), if_neg (by omega)]
      have vd : v.1 96 (2 + d) = -9 := by rw [v96]; exact if_pos rfl
      have vl : ∀ e, e < n → v.1 96 (14 + e) = if e = d then nI (2 ^ d) else w.1 96 (14 + e) &&& (nI (2 ^ d) ^^^ -1) := fun e he => by
        rw [v96]
        unfold dpM
        rw [if_neg (by omega)]
        by_cases ed : e = d
        · rw [if_pos (by omega), if_pos ed]
        · rw [if_neg (by omega), if_pos (by omega), if_neg ed, Nat.add_sub_cancel_left]
      have hSv : SRel n v 14 (v.1 96) := by
        refine ⟨?_, ?_, fun e he => ⟨?_, ?_, ?_, ?_⟩, fun e h1 h2 => ⟨?_, ?_⟩⟩
        · rw [vS 14 (by omega) (by omega), zo 14 (by omega) (by omega) (by omega) (by omega), vm 0 (by omega) (by omega)]; exact s0
        · rw [vS 14 (by omega) (by omega), zo 14 (by omega) (by omega) (by omega) (by omega), vm 1 (by omega) (by omega)]; exact s1
        · rw [vS 15 (by omega) (by omega), z15]
          by_cases ed : e = d
          · rw [if_pos ed, ed, vd]
          · rw [if_neg ed, vm (2 + e) (by omega) (by omega)]; exact (sA e he).1
        · rw [vS 16 (by omega) (by omega), zo 16 (by omega) (by omega) (by omega) (by omega), vm (8 + e) (by omega) (by omega)]; exact (sA e he).2.1
        · rw [vS 17 (by omega) (by omega), z17, vl e he]
          unfold dpL
          rw [if_pos (show e < 6 by omega), (sA e he).2.2.1]
        · rw [vS 18 (by omega) (by omega), zo 18 (by omega) (by omega) (by omega) (by omega), vm (20 + e) (by omega) (by omega)]; exact (sA e he).2.2.2
        · rw [vS 15 (by omega) (by omega), z15, if_neg (by omega)]; exact (sB e h1 h2).1
        · rw [vS 18 (by omega) (by omega), zo 18 (by omega) (by omega) (by omega) (by omega)]; exact (sB e h1 h2).2
      have hRv : RInv n 99 (v.1 96) := by
        refine ⟨m, h, ?_, im, ?_, ih, fun e he => ⟨?_, ?_, ?_, ?_⟩⟩
        · rw [vm 0 (by omega) (by omega)]; exact i0
        · rw [vm 1 (by omega) (by omega)]; exact i1
        · by_cases ed : e = d
          · rw [ed]; exact Or.inl vd
          · rw [vm (2 + e) (by omega) (by omega)]; exact (iA e he).1
        · rw [vm (8 + e) (by omega) (by omega)]; exact (iA e he).2.1
        · rw [vl e he]
          split
          · exact ⟨2 ^ d, Nat.pow_lt_pow_right (by decide) hd, rfl⟩
          · obtain ⟨s, hs, hs2⟩ := (iA e he).2.2.1
            have hd64 : 2 ^ d < 64 := lt64 hn (Nat.pow_lt_pow_right (by decide) hd)
            rw [hs2, jj_andnot (lt64 hn hs) hd64]
            exact ⟨s &&& (63 ^^^ 2 ^ d), Nat.lt_of_le_of_lt Nat.and_le_left hs, rfl⟩
        · rw [vm (20 + e) (by omega) (by omega)]; exact (iA e he).2.2.2
      have hdr : bset (fun e => decide (w2.1 15 e = -9)) n = bset (fun e => decide (v.1 96 (2 + e) = -9)) n := bset_ext fun e => by
        by_cases l : e < n
        · have := (hSv.2.2.1 e l).1
          rw [vS 15 (by omega) (by omega)] at this
          rw [this]
        · simp [l]
      refine ⟨nI (popc (bset (fun e => decide (v.1 96 (2 + e) = -9)) n)), w2, v, ?_, ?_, ?_⟩
      · rw [f_X5_dips, f_X5_dips_b0, isTold_yes t1 hn hd, jj_cal, if_neg jj_ne10, jj_grd (jj_i6 (show d < 6 by omega)), jj_tn (show d < 2 ^ 31 by omega), wget_def, if_pos hup, c0, jj_cal, hdp, jj_cal, dryOnes_eq e4 hn (fun e h1 h2 => by rw [z15, if_neg (by omega)]; exact (sB e h1 h2).1), jj_cal, bc_eq (lt64 hn (bset_lt _ n)), jj_cal, hdr]
      · rw [f_X6_dips, f_X6_dips_b0, isOne_yes (w := w2) (by rw [e92]; exact t0) hn hd, jj_cal, if_neg jj_ne10, jj_2, jj_grd (jj_i26 (show 2 + d < 26 by omega)), jj_tn (show 2 + d < 2 ^ 31 by omega), wget_def, if_pos (show w2.1 96 (2 + d) = 0 by rw [e96, ← (sA d hd).1]; exact hup), m0, jj_cal, jj_bnd, v0]
      · exact Iv_did hn hT hS pk px pold hG hN hX hE hC (by rw [hw2]; rfl) d2 hM (by rw [v1]; rfl) vo hSv hRv
    · refine ⟨-2, w, w, ?_, ?_, hI⟩
      · rw [f_X5_dips, f_X5_dips_b0, isTold_yes t1 hn hd, jj_cal, if_neg jj_ne10, jj_grd (jj_i6 (show d < 6 by omega)), jj_tn (show d < 2 ^ 31 by omega), wget_def, if_neg hup]
      · rw [f_X6_dips, f_X6_dips_b0, isOne_yes t0 hn hd, jj_cal, if_neg jj_ne10, jj_2, jj_grd (jj_i26 (show 2 + d < 26 by omega)), jj_tn (show 2 + d < 2 ^ 31 by omega), wget_def, if_neg (show ¬ w.1 96 (2 + d) = 0 by rw [← (sA d hd).1]; exact hup)]
  · refine ⟨-1, w, w, ?_, ?_, hI⟩
    · rw [f_X5_dips, f_X5_dips_b0, isTold_no t1 hn hx, jj_cal, if_pos rfl]
    · rw [f_X6_dips, f_X6_dips_b0, isOne_no t0 hn hx, jj_cal, if_pos rfl]
