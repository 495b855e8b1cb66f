/-! PURE: an item that tells a dumpling -/
def xD (j : Nat) (w : Wd) : Int32 := (4 : Int32) * (wget w 92 23) + nI j
def stK (lo hi : Nat) (X : Wd → Int32) (K : Wd → Option (Unit × Wd)) (w : Wd) : Option (Unit × Wd) := cal (f_X6_takesNumber (nI lo) (nI hi) w) (fun r w1 => grd (inb (X w) 24) (bnd (wset w1 102 ((X w).toNatClampNeg) r) K))
def rDE (w : Wd) : Option (Unit × Wd) := bnd (wset w 92 23 ((wget w 92 23) + (1 : Int32))) (fun w_25 => some ((), w_25))
def rD3 : Wd → Option (Unit × Wd) := stK 0 9 (xD 3) rDE
def rD2 : Wd → Option (Unit × Wd) := stK 0 3 (xD 2) rD3
def rD1 : Wd → Option (Unit × Wd) := stK 1 9 (xD 1) rD2
def rD0 : Wd → Option (Unit × Wd) := stK 0 40 (fun w => (4 : Int32) * (wget w 92 23)) rD1
theorem body_d (w : Wd) : f_X6_readBody 100 w = rD0 w := by
  rw [f_X6_readBody, f_X6_readBody_b0, if_pos (show (100 : Int32) = 100 from rfl)]
  rfl
theorem xD_eq {n : Nat} (j : Nat) (w : Wd) (h : w.1 92 23 = nI n) : xD j w = nI (4 * n + j) := by
  unfold xD
  rw [wget_def, h, show (4 : Int32) * nI n = nI (4 * n) from nI_mul 4 n, nI_add]
def BadK (K : Wd → Option (Unit × Wd)) (n : Nat) : Prop := ∀ v : Wd, v.1 92 21 = 1 → v.1 92 23 = nI n → ∃ v', K v = some ((), v') ∧ frM v v' ∧ v'.1 92 21 = 1 ∧ v'.1 92 18 = v.1 92 18
theorem badE (n : Nat) : BadK rDE n := by
  intro v h1 h2
  refine ⟨wset v 92 23 (nI (n + 1)), ?_, frM_wset v _ (by omega), by rw [wset_v, if_neg (by omega), h1], by rw [wset_v, if_neg (by omega)]⟩
  unfold rDE
  rw [wget_def, h2, nI_1, jj_bnd]
theorem badS {n lo hi j : Nat} {X : Wd → Int32} {K : Wd → Option (Unit × Wd)} (hn : n < 6) (hj : j < 4) (hX : ∀ w : Wd, w.1 92 23 = nI n → X w = nI (4 * n + j)) (hK : BadK K n) : BadK (stK lo hi X K) n := by
  intro v h1 h2
  obtain ⟨v', a, b, c, d⟩ := hK (wset v 102 (4 * n + j) 0) (by rw [wset_v, if_neg (by omega), h1]) (by rw [wset_v, if_neg (by omega), h2])
  refine ⟨v', ?_, (frM_wset v _ (by omega)).tr b, c, by rw [d, wset_v, if_neg (by omega)]⟩
  unfold stK
  rw [takes_bad _ _ h1, jj_cal, hX v h2, jj_grd (jj_inb (show 4 * n + j < 24 by omega) (by decide)), jj_bnd, jj_tn (show 4 * n + j < 2 ^ 31 by omega), a]
/-- the numbers that both have so far -/
def Col (n j : Nat) (u v : Wd) : Prop := ∀ i, i < j → ∃ a, lob i ≤ a ∧ a ≤ hib i ∧ u.1 3 i = nI a ∧ v.1 102 (4 * n + i) = nI a
theorem Col_S {n j m : Nat} {u v u' v' : Wd} (h : Col n j u v) (h1 : lob j ≤ m) (h2 : m ≤ hib j) (hu : ∀ i, i ≠ j → u'.1 3 i = u.1 3 i) (hu2 : u'.1 3 j = nI m) (hv : ∀ i, i ≠ 4 * n + j → v'.1 102 i = v.1 102 i) (hv2 : v'.1 102 (4 * n + j) = nI m) : Col n (j + 1) u' v' := by
  intro i hi
  by_cases q : i = j
  · subst q
    exact ⟨m, h1, h2, hu2, hv2⟩
  · obtain ⟨a, a1, a2, a3, a4⟩ := h i (by omega)
    exact ⟨a, a1, a2, (hu i q).trans a3, (hv _ (by omega)).trans a4⟩
theorem lob_le (i : Nat) : lob i ≤ 40 := by
  unfold lob
  split <;> omega
theorem hib_le (i : Nat) : hib i ≤ 40 := by
  unfold hib
  repeat (first | omega | split)
theorem d_step {tn n j f lo hi : Nat} {L : Nat → Nat} {X : Wd → Int32} {K : Wd → Option (Unit × Wd)} (hn : n < 6) (hj : j < 3) (hlo : lo = lob j) (hhi : hi = hib j) (hX : ∀ w : Wd, w.1 92 23 = nI n → X w = nI (4 * n + j)) (hB : BadK K n)
    (next : ∀ u v p s t m, Tk tn L u v p s t m → Tl n u v → Col n (j + 1) u v → v.1 92 21 = 0 → Res tn L u v p (ckC f 100 4 (nI (j + 1)) u) (cal (K v) (fun _ w => finM w)))
    {p s t m q : Nat} {u v : Wd} (hT : Tk tn L u v p s t m) (hl : Tl n u v) (hc : Col n j u v) (h21 : v.1 92 21 = 0) (hq : t = 1 → q ≤ p) :
    Res tn L u v q (ckC (f + 1) 100 4 (nI j) u) (cal (stK lo hi X K v) (fun _ w => finM w)) := by
  subst hlo
  subst hhi
  obtain ⟨h1, h2, h3, h4, h5, h6, h7, h8, h9, h10, h11, h12, h13⟩ := id hT
  have h23 : v.1 92 23 = nI n := hl.2.2.1
  have h24 : inb (nI (4 * n + j)) 24 = true := jj_inb (by omega) (by decide)
  have h25 : (nI (4 * n + j)).toNatClampNeg = 4 * n + j := jj_tn (by omega)
  unfold stK
  rcases num2 (f := f + 1) (mn := 4) hT (i := j) (by omega) (lo_d (by omega)) (hi_d (by omega)) (lob_le j) (hib_le j) h21 with ⟨a, b⟩ | ⟨e, e1, e2, a, b⟩
  · obtain ⟨v', b1, b2, b3, b4⟩ := hB (wset (wset v 92 21 1) 102 (4 * n + j) 0) (by rw [wset_v, if_neg (by omega), wset_v, if_pos ⟨rfl, rfl⟩]) (by rw [wset_v, if_neg (by omega), wset_v, if_neg (by omega), h23])
    refine Or.inl ⟨u, v', s, a, ?_, frC.rf u, ((frM_wset v _ (by omega)).tr (frM_wset _ _ (by omega))).tr b2, h4, h7, ?_, b3⟩
    · rw [b, jj_cal, hX v h23, jj_grd h24, jj_bnd, h25, b1, jj_cal, finM_bad b3]
    · rw [b4, wset_v, if_neg (by omega), wset_v, if_neg (by omega), h8]
  · obtain ⟨u2, hu2⟩ : ∃ x, x = wset u 3 j (nI m) := ⟨_, rfl⟩
    have o : ∀ a i, ¬ (a = 3 ∧ i = j) → u2.1 a i = u.1 a i := fun a i x => by rw [hu2, wset_v, if_neg x]
    rw [← hu2] at a
    obtain ⟨u', v', p', s', t', m', a1, a2, a3, a4, a5, a6, a7⟩ := adv2 (u := u2) (TxC_cong h1 (o 1 2 (by omega)) (fun j => o 2 j (by omega))) h2 h3 ((o 1 3 (by omega)).trans h5) h6
    obtain ⟨v2, hv2⟩ : ∃ x, x = wset v' 102 (4 * n + j) (nI m) := ⟨_, rfl⟩
    have ov : ∀ a i, ¬ (a = 102 ∧ i = 4 * n + j) → v2.1 a i = v'.1 a i := fun a i x => by rw [hv2, wset_v, if_neg x]
    have hR := next u' v2 p' s' t' m' (Tk_cong a5 (fun _ _ _ => rfl) (fun a i z => ov a i (by omega))) (Tl_cong hl (fun a i z => (a3.2 a i (by omega)).trans (o a i (by omega))) (fun a i z => (ov a i (by omega)).trans (a4.2 a i (by omega))))
      (Col_S hc e1 e2 (fun i hi => (a3.2 3 i (by omega)).trans (o 3 i (by omega))) (by rw [a3.2 3 j (by omega), hu2, wset_v, if_pos ⟨rfl, rfl⟩]) (fun i hi => (ov 102 i (by omega)).trans (a4.2 102 i (by omega))) (by rw [hv2, wset_v, if_pos ⟨rfl, rfl⟩]))
      (by rw [ov 92 21 (by omega), a4.2 92 21 (by omega), h21])
    rw [a, l31_num (show ¬ (4 : Int32) ≤ nI (j + 1) from nI_ge (b := 4) (by omega) (by decide)) a1, b v' a2, jj_cal, hX v h23, jj_grd h24, jj_bnd, h25, ← hv2]
    refine Res_mono hR ((hu2 ▸ frC_wset u _ (by omega) : frC u u2).tr a3.fr) (a4.fr.tr (hv2 ▸ frM_wset v' _ (by omega) : frM v' v2)) ?_ (by have := hq e; omega)
    rw [ov 92 22 (by omega), a4.2 92 22 (by omega)]
theorem tell_d {n : Nat} (hn : n < 6) (u v : Wd) (hl : Tl n u v) (hc : Col n 4 u v) : ∃ u1, f_X1_tell 9 100 u = some ((), u1) ∧ Tl (n + 1) u1 (wset v 92 23 (nI (n + 1))) ∧ frC u u1 ∧ ∀ j, j ≤ 6 → u1.1 1 j = u.1 1 j := by
  obtain ⟨h1, h2, h3, h4, h5, h6, h7⟩ := hl
  obtain ⟨x1, hx1⟩ : ∃ x, x = wset u 10 n (u.1 3 0) := ⟨_, rfl⟩
  obtain ⟨x2, hx2⟩ : ∃ x, x = wset x1 11 n (x1.1 3 1) := ⟨_, rfl⟩
  obtain ⟨x3, hx3⟩ : ∃ x, x = wset x2 12 n (x2.1 3 2) := ⟨_, rfl⟩
  obtain ⟨x4, hx4⟩ : ∃ x, x = wset x3 13 n (x3.1 3 3) := ⟨_, rfl⟩
  obtain ⟨x5, hx5⟩ : ∃ x, x = wset x4 9 0 (nI (n + 1)) := ⟨_, rfl⟩
  have o1 : ∀ a j, ¬ (a = 10 ∧ j = n) → x1.1 a j = u.1 a j := fun a j x => by rw [hx1, wset_v, if_neg x]
  have o2 : ∀ a j, ¬ (a = 11 ∧ j = n) → x2.1 a j = x1.1 a j := fun a j x => by rw [hx2, wset_v, if_neg x]
  have o3 : ∀ a j, ¬ (a = 12 ∧ j = n) → x3.1 a j = x2.1 a j := fun a j x => by rw [hx3, wset_v, if_neg x]
  have o4 : ∀ a j, ¬ (a = 13 ∧ j = n) → x4.1 a j = x3.1 a j := fun a j x => by rw [hx4, wset_v, if_neg x]
  have o5 : ∀ a j, ¬ (a = 9 ∧ j = 0) → x5.1 a j = x4.1 a j := fun a j x => by rw [hx5, wset_v, if_neg x]
  have oo : ∀ a j, (a < 9 ∨ 13 < a ∨ (a = 9 ∧ j ≠ 0) ∨ (9 < a ∧ j ≠ n)) → x5.1 a j = u.1 a j := fun a j x => by rw [o5 a j (by omega), o4 a j (by omega), o3 a j (by omega), o2 a j (by omega), o1 a j (by omega)]
  have y1 : x1.1 9 0 = nI n := (o1 9 0 (by omega)).trans h2
  have y2 : x2.1 9 0 = nI n := (o2 9 0 (by omega)).trans y1
  have y3 : x3.1 9 0 = nI n := (o3 9 0 (by omega)).trans y2
  have y4 : x4.1 9 0 = nI n := (o4 9 0 (by omega)).trans y3
  have z0 : x5.1 10 n = u.1 3 0 := by rw [o5 10 n (by omega), o4 10 n (by omega), o3 10 n (by omega), o2 10 n (by omega), hx1, wset_v, if_pos ⟨rfl, rfl⟩]
  have z1 : x5.1 11 n = u.1 3 1 := by rw [o5 11 n (by omega), o4 11 n (by omega), o3 11 n (by omega), hx2, wset_v, if_pos ⟨rfl, rfl⟩, o1 3 1 (by omega)]
  have z2 : x5.1 12 n = u.1 3 2 := by rw [o5 12 n (by omega), o4 12 n (by omega), hx3, wset_v, if_pos ⟨rfl, rfl⟩, o2 3 2 (by omega), o1 3 2 (by omega)]
  have z3 : x5.1 13 n = u.1 3 3 := by rw [o5 13 n (by omega), hx4, wset_v, if_pos ⟨rfl, rfl⟩, o3 3 3 (by omega), o2 3 3 (by omega), o1 3 3 (by omega)]
  have ov : ∀ a j, ¬ (a = 92 ∧ j = 23) → (wset v 92 23 (nI (n + 1))).1 a j = v.1 a j := fun a j x => by rw [wset_v, if_neg x]
  have g6 : inb (nI n) 6 = true := jj_i6 hn
  have gt : (nI n).toNatClampNeg = n := jj_tn (by omega)
  refine ⟨x5, ?_, ⟨by omega, by rw [hx5, wset_v, if_pos ⟨rfl, rfl⟩], by rw [wset_v, if_pos ⟨rfl, rfl⟩], ?_, ?_, ?_, fun d hd => ?_⟩, ⟨?_, fun a j p1 p2 p3 => oo a j (by omega)⟩, fun j hj => oo 1 j (by omega)⟩
  · rw [f_X1_tell, f_X1_tell_b0, if_pos (show (100 : Int32) = 100 from rfl), f_X2_addDumpling, f_X2_addDumpling_b0, wget_def u 9 0, h2, if_neg (nI_pos (by omega)), if_neg (show ¬ (6 : Int32) ≤ nI n from nI_ge (b := 6) hn (by decide)), if_pos (show (4 : Int32) ≤ 4 by decide), jj_grd g6, gt, wget_def u 3 0, jj_bnd, ← hx1, wget_def x1 9 0, y1, jj_grd g6, gt, wget_def x1 3 1, jj_bnd, ← hx2, wget_def x2 9 0, y2, jj_grd g6, gt, wget_def x2 3 2, jj_bnd, ← hx3, wget_def x3 9 0, y3, jj_grd g6, gt, wget_def x3 3 3, jj_bnd, ← hx4, wget_def x4 9 0, y4, nI_1, jj_bnd, ← hx5, jj_cal]
  · rw [oo 1 7 (by omega), ov 92 25 (by omega), oo 9 1 (by omega)]
    exact h4
  · rw [oo 1 8 (by omega), ov 92 26 (by omega), oo 9 2 (by omega)]
    exact h5
  · rw [oo 1 9 (by omega), ov 92 27 (by omega), oo 9 3 (by omega)]
    exact h6
  · rw [ov 102 (4 * d) (by omega), ov 102 (4 * d + 1) (by omega), ov 102 (4 * d + 2) (by omega), ov 102 (4 * d + 3) (by omega)]
    by_cases q : d = n
    · subst q
      rw [z0, z1, z2, z3]
      obtain ⟨a0, -, b0, c0, d0⟩ := hc 0 (by omega)
      obtain ⟨a1, e1, b1, c1, d1⟩ := hc 1 (by omega)
      obtain ⟨a2, -, b2, c2, d2⟩ := hc 2 (by omega)
      obtain ⟨a3, -, b3, c3, d3⟩ := hc 3 (by omega)
      exact ⟨⟨a0, b0, c0, d0⟩, ⟨a1, e1, b1, c1, d1⟩, ⟨a2, b2, c2, d2⟩, a3, b3, c3, d3⟩
    · rw [oo 10 d (by omega), oo 11 d (by omega), oo 12 d (by omega), oo 13 d (by omega)]
      exact h7 d (by omega)
  · rw [hx5, wset_2, hx4, wset_2, hx3, wset_2, hx2, wset_2, hx1, wset_2]
theorem d_last {tn n f : Nat} {L : Nat → Nat} (hn : n < 6) {p s t m q : Nat} {u v : Wd} (hT : Tk tn L u v p s t m) (hl : Tl n u v) (hc : Col n 3 u v) (h21 : v.1 92 21 = 0) (hq : t = 1 → q ≤ p) :
    Res tn L u v q (ckC (f + 1) 100 4 (nI 3) u) (cal (rD3 v) (fun _ w => finM w)) := by
  obtain ⟨h1, h2, h3, h4, h5, h6, h7, h8, h9, h10, h11, h12, h13⟩ := id hT
  have h23 : v.1 92 23 = nI n := hl.2.2.1
  have h24 : inb (nI (4 * n + 3)) 24 = true := jj_inb (by omega) (by decide)
  have h25 : (nI (4 * n + 3)).toNatClampNeg = 4 * n + 3 := jj_tn (by omega)
  unfold rD3 stK
  rcases num2 (f := f + 1) (mn := 4) hT (i := 3) (by omega) (lo_d (by omega)) (hi_d (by omega)) (lob_le 3) (hib_le 3) h21 with ⟨a, b⟩ | ⟨e, e1, e2, a, b⟩
  · obtain ⟨v', b1, b2, b3, b4⟩ := badE n (wset (wset v 92 21 1) 102 (4 * n + 3) 0) (by rw [wset_v, if_neg (by omega), wset_v, if_pos ⟨rfl, rfl⟩]) (by rw [wset_v, if_neg (by omega), wset_v, if_neg (by omega), h23])
    refine Or.inl ⟨u, v', s, a, ?_, frC.rf u, ((frM_wset v _ (by omega)).tr (frM_wset _ _ (by omega))).tr b2, h4, h7, ?_, b3⟩
    · rw [show f_X6_takesNumber (nI 0) (nI 9) v = _ from b, jj_cal, xD_eq 3 v h23, jj_grd h24, jj_bnd, h25, b1, jj_cal, finM_bad b3]
    · rw [b4, wset_v, if_neg (by omega), wset_v, if_neg (by omega), h8]
  · obtain ⟨u2, hu2⟩ : ∃ x, x = wset u 3 3 (nI m) := ⟨_, rfl⟩
    have o : ∀ a i, ¬ (a = 3 ∧ i = 3) → u2.1 a i = u.1 a i := fun a i x => by rw [hu2, wset_v, if_neg x]
    rw [← hu2] at a
    obtain ⟨u', v', p', s', t', m', a1, a2, a3, a4, a5, a6, a7⟩ := adv2 (u := u2) (TxC_cong h1 (o 1 2 (by omega)) (fun j => o 2 j (by omega))) h2 h3 ((o 1 3 (by omega)).trans h5) h6
    obtain ⟨v2, hv2⟩ : ∃ x, x = wset v' 102 (4 * n + 3) (nI m) := ⟨_, rfl⟩
    have ov : ∀ a i, ¬ (a = 102 ∧ i = 4 * n + 3) → v2.1 a i = v'.1 a i := fun a i x => by rw [hv2, wset_v, if_neg x]
    have hl2 : Tl n u' v2 := Tl_cong hl (fun a i z => (a3.2 a i (by omega)).trans (o a i (by omega))) (fun a i z => (ov a i (by omega)).trans (a4.2 a i (by omega)))
    have hc2 : Col n 4 u' v2 := Col_S hc e1 e2 (fun i hi => (a3.2 3 i (by omega)).trans (o 3 i (by omega))) (by rw [a3.2 3 3 (by omega), hu2, wset_v, if_pos ⟨rfl, rfl⟩]) (fun i hi => (ov 102 i (by omega)).trans (a4.2 102 i (by omega))) (by rw [hv2, wset_v, if_pos ⟨rfl, rfl⟩])
    obtain ⟨v3, hv3⟩ : ∃ x, x = wset v2 92 23 (nI (n + 1)) := ⟨_, rfl⟩
    have ov3 : ∀ a i, ¬ (a = 92 ∧ i = 23) → v3.1 a i = v2.1 a i := fun a i x => by rw [hv3, wset_v, if_neg x]
    obtain ⟨u1, b1, b2, b3, b4⟩ := tell_d hn u' v2 hl2 hc2
    rw [← hv3] at b2
    have hR := fin_res (sg := 100) (Tk_cong a5 (fun _ _ _ => rfl) (fun a i z => (ov3 a i (by omega)).trans (ov a i (by omega))) : Tk tn L u' v3 p' s' t' m') (by rw [ov3 92 21 (by omega), ov 92 21 (by omega), a4.2 92 21 (by omega), h21]) b1 b2 b3 b4
    rw [a, l31_end (show (4 : Int32) ≤ nI (3 + 1) by decide) a1, show f_X6_takesNumber (nI 0) (nI 9) v = _ from b v' a2, jj_cal, xD_eq 3 v h23, jj_grd h24, jj_bnd, h25, ← hv2, rDE, wget_def v2 92 23, hl2.2.2.1, nI_1, jj_bnd, ← hv3, jj_cal]
    refine Res_mono hR ((hu2 ▸ frC_wset u _ (by omega) : frC u u2).tr a3.fr) ((a4.fr.tr (hv2 ▸ frM_wset v' _ (by omega) : frM v' v2)).tr (hv3 ▸ frM_wset v2 _ (by omega) : frM v2 v3)) ?_ (by have := hq e; omega)
    rw [ov3 92 22 (by omega), ov 92 22 (by omega), a4.2 92 22 (by omega)]
theorem item_d {tn n f : Nat} {L : Nat → Nat} (hn : n < 6) {p s t m q : Nat} {u v : Wd} (hT : Tk tn L u v p s t m) (hl : Tl n u v) (h21 : v.1 92 21 = 0) (hq : t = 1 → q ≤ p) :
    Res tn L u v q (ckC (f + 4) 100 4 (nI 0) u) (cal (f_X6_readBody 100 v) (fun _ w => finM w)) := by
  rw [body_d]
  have b3 : BadK rD3 n := badS hn (j := 3) (by omega) (fun w h => xD_eq 3 w h) (badE n)
  have b2 : BadK rD2 n := badS hn (j := 2) (by omega) (fun w h => xD_eq 2 w h) b3
  have b1 : BadK rD1 n := badS hn (j := 1) (by omega) (fun w h => xD_eq 1 w h) b2
  have s3 := fun u v p s t m (hT : Tk tn L u v p s t m) (hl : Tl n u v) (hc : Col n 3 u v) (h21 : v.1 92 21 = 0) => d_last (f := f) hn hT hl hc h21 (q := p) (fun _ => Nat.le_refl p)
  have s2 := fun u v p s t m (hT : Tk tn L u v p s t m) (hl : Tl n u v) (hc : Col n 2 u v) (h21 : v.1 92 21 = 0) => d_step (lo := 0) (hi := 3) hn (j := 2) (by omega) rfl rfl (fun w h => xD_eq 2 w h) b3 s3 hT hl hc h21 (q := p) (fun _ => Nat.le_refl p)
  have s1 := fun u v p s t m (hT : Tk tn L u v p s t m) (hl : Tl n u v) (hc : Col n 1 u v) (h21 : v.1 92 21 = 0) => d_step (lo := 1) (hi := 9) hn (j := 1) (by omega) rfl rfl (fun w h => xD_eq 1 w h) b2 s2 hT hl hc h21 (q := p) (fun _ => Nat.le_refl p)
  refine d_step (lo := 0) (hi := 40) hn (j := 0) (by omega) rfl rfl (fun w h => ?_) b1 s1 hT hl (fun i hi => absurd hi (Nat.not_lt_zero i)) h21 hq
  rw [wget_def, h, show (4 : Int32) * nI n = nI (4 * n) from nI_mul 4 n]
  rfl
