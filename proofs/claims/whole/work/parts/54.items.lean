/-! PURE: an item, and all of them -/
theorem ri_no {u : Wd} {x : Int32} (h5 : u.1 1 5 = x) (h : f_X1_mayBegin 9 x u = some (0, u)) : f_X1_readItem 9 u = some (0, u) := by
  rw [f_X1_readItem, f_X1_readItem_b0, jj_bnd, wget_def u 1 5, h5, h, jj_cal, if_pos (show (0 : Int32) = 0 from rfl)]
theorem ri_d {u u' : Wd} (h5 : u.1 1 5 = 100) (h : f_X1_mayBegin 9 100 u = some (1, u)) (ha : f_X1_advance u = some ((), u')) : f_X1_readItem 9 u = ckC 299 100 4 (nI 0) u' := by
  rw [f_X1_readItem, f_X1_readItem_b0, jj_bnd, wget_def u 1 5, h5, h, jj_cal, if_neg jj_ne10, if_pos (show (100 : Int32) = 100 from rfl), jj_bnd, jj_bnd]
  exact l31_num (f := 299) (i := nI 0) (by decide) ha
theorem ri_1 {u u' : Wd} {x : Int32} (h5 : u.1 1 5 = x) (hx : ¬ x = 100) (h : f_X1_mayBegin 9 x u = some (1, u)) (ha : f_X1_advance u = some ((), u')) : f_X1_readItem 9 u = ckC 299 x 1 (nI 0) u' := by
  rw [f_X1_readItem, f_X1_readItem_b0, jj_bnd, wget_def u 1 5, h5, h, jj_cal, if_neg jj_ne10, if_neg hx, jj_bnd, jj_bnd]
  exact l31_num (f := 299) (i := nI 0) (by decide) ha
theorem mb_0 {x : Int32} (h1 : ¬ x = 100) (h2 : ¬ x = 103) (h3 : ¬ x = 104) (h4 : ¬ x = 114) (u : Wd) : f_X1_mayBegin 9 x u = some (0, u) := by
  rw [f_X1_mayBegin, f_X1_mayBegin_b0, if_neg h1, if_neg h2, if_neg h3, if_neg h4]
theorem rm_no1 {v : Wd} (z : ¬ v.1 92 19 = 1) : f_X6_readItem v = some ((), wset v 92 21 1) := by
  rw [f_X6_readItem, f_X6_readItem_b0, jj_bnd, wget_def v 92 19, if_neg z, f_X6_readItem_b21, jj_bnd]
theorem rm_no2 {v : Wd} {x : Int32} (z1 : v.1 92 19 = 1) (z2 : v.1 92 20 = x) (z3 : f_X6_mayBegin x v = some (0, v)) : f_X6_readItem v = some ((), wset v 92 21 1) := by
  rw [f_X6_readItem, f_X6_readItem_b0, jj_bnd, wget_def v 92 19, if_pos z1, wget_def v 92 20, z2, z3, jj_cal, if_pos (show (0 : Int32) = 0 from rfl), f_X6_readItem_b21, jj_bnd]
theorem rm_yes {v v1 : Wd} {x : Int32} (z1 : v.1 92 19 = 1) (z2 : v.1 92 20 = x) (z3 : f_X6_mayBegin x v = some (1, v)) (hn : f_X6_next v = some ((), v1)) : f_X6_readItem v = cal (f_X6_readBody x v1) (fun _ w => finM w) := by
  rw [f_X6_readItem, f_X6_readItem_b0, jj_bnd, wget_def v 92 19, if_pos z1, wget_def v 92 20, z2, z3, jj_cal, if_neg jj_ne10, hn, jj_cal]
  rfl
theorem item2 {tn p s t m n : Nat} {L : Nat → Nat} {u v : Wd} (hT : Tk tn L u v p s t m) (hl : Tl n u v) (h21 : v.1 92 21 = 0) (ht : t ≠ 0) : Res tn L u v (p + 1) (f_X1_readItem 9 u) (f_X6_readItem v) := by
  obtain ⟨h1, h2, h3, h4, h5, h6, h7, h8, h9, h10, h11, h12, h13⟩ := id hT
  obtain ⟨k1, k2, k3, k4, k5, k6, k7⟩ := id hl
  obtain ⟨u', v', p', s', t', m', a1, a2, a3, a4, a5, a6, a7⟩ := adv2 h1 h2 h3 h5 h6
  have hl' : Tl n u' v' := Tl_cong hl (fun a j z => a3.2 a j (by omega)) (fun a j z => a4.2 a j (by omega))
  have h21' : v'.1 92 21 = 0 := (a4.2 92 21 (by omega)).trans h21
  have fin : ∀ A B, Res tn L u' v' (p + 1) A B → Res tn L u v (p + 1) A B := fun A B h => Res_mono h a3.fr a4.fr (a4.2 92 22 (by omega)) (Nat.le_refl _)
  have hq : t' = 1 → p + 1 ≤ p' := fun z => a7 (by omega)
  rcases h11 with z | z | z | z | z | z | z | z
  · exact absurd z ht
  · subst z
    exact Res_no hT (ri_no h9 (mb_0 (by decide) (by decide) (by decide) (by decide) u)) (rm_no1 (by rw [h10]; decide))
  · subst z
    exact Res_no hT (ri_no h9 (mb_0 (by decide) (by decide) (by decide) (by decide) u)) (rm_no1 (by rw [h10]; decide))
  · subst z
    have y : v.1 92 20 = 100 := h13 (by omega)
    have x : v.1 92 19 = 1 := h10
    by_cases q : n < 6
    · have c1 : f_X1_mayBegin 9 100 u = some (1, u) := by
        rw [f_X1_mayBegin, f_X1_mayBegin_b0, if_pos (show (100 : Int32) = 100 from rfl), wget_def u 9 0, k2, if_neg (show ¬ (6 : Int32) ≤ nI n from nI_ge (b := 6) q (by decide))]
      have c2 : f_X6_mayBegin 100 v = some (1, v) := by
        rw [f_X6_mayBegin, f_X6_mayBegin_b0, if_pos (show (100 : Int32) = 100 from rfl), wget_def v 92 23, k3, if_neg (show ¬ (6 : Int32) ≤ nI n from nI_ge (b := 6) q (by decide))]
      rw [ri_d h9 c1 a1, rm_yes x y c2 a2]
      exact fin _ _ (item_d (f := 295) q a5 hl' h21' hq)
    · have c1 : f_X1_mayBegin 9 100 u = some (0, u) := by
        rw [f_X1_mayBegin, f_X1_mayBegin_b0, if_pos (show (100 : Int32) = 100 from rfl), wget_def u 9 0, k2, if_pos (show (6 : Int32) ≤ nI n from nI_le (a := 6) (by omega) (by omega))]
      have c2 : f_X6_mayBegin 100 v = some (0, v) := by
        rw [f_X6_mayBegin, f_X6_mayBegin_b0, if_pos (show (100 : Int32) = 100 from rfl), wget_def v 92 23, k3, if_pos (show (6 : Int32) ≤ nI n from nI_le (a := 6) (by omega) (by omega))]
      exact Res_no hT (ri_no h9 c1) (rm_no2 x y c2)
  · subst z
    have y : v.1 92 20 = 104 := h13 (by omega)
    have x : v.1 92 19 = 1 := h10
    rcases k4 with ⟨b1, b2, -⟩ | ⟨b1, hh, b2, b3, -⟩
    · have c1 : f_X1_mayBegin 9 104 u = some (1, u) := by
        rw [f_X1_mayBegin, f_X1_mayBegin_b0, if_neg (show ¬ (104 : Int32) = 100 by decide), if_neg (show ¬ (104 : Int32) = 103 by decide), if_pos (show (104 : Int32) = 104 from rfl), wget_def u 1 7, b1, if_pos (show (0 : Int32) = 0 from rfl)]
      have c2 : f_X6_mayBegin 104 v = some (1, v) := by
        rw [f_X6_mayBegin, f_X6_mayBegin_b0, if_neg (show ¬ (104 : Int32) = 100 by decide), if_neg (show ¬ (104 : Int32) = 101 by decide), if_neg (show ¬ (104 : Int32) = 102 by decide), if_neg (show ¬ (104 : Int32) = 103 by decide), if_pos (show (104 : Int32) = 104 from rfl), wget_def v 92 25, b2, if_neg (show ¬ (0 : Int32) ≤ -1 by decide)]
      rw [ri_1 h9 (by decide) c1 a1, rm_yes x y c2 a2, body_h]
      exact fin _ _ (num_res (f := 298) a5 hl' h21' (lo_1 (by decide) (by decide)) (hi_1 (by decide) (by decide)) (by omega) (by omega) (by omega) (fun u v m a b c d => tell_h u v a c d) hq)
    · have c1 : f_X1_mayBegin 9 104 u = some (0, u) := by
        rw [f_X1_mayBegin, f_X1_mayBegin_b0, if_neg (show ¬ (104 : Int32) = 100 by decide), if_neg (show ¬ (104 : Int32) = 103 by decide), if_pos (show (104 : Int32) = 104 from rfl), wget_def u 1 7, b1, if_neg jj_ne10]
      have c2 : f_X6_mayBegin 104 v = some (0, v) := by
        rw [f_X6_mayBegin, f_X6_mayBegin_b0, if_neg (show ¬ (104 : Int32) = 100 by decide), if_neg (show ¬ (104 : Int32) = 101 by decide), if_neg (show ¬ (104 : Int32) = 102 by decide), if_neg (show ¬ (104 : Int32) = 103 by decide), if_pos (show (104 : Int32) = 104 from rfl), wget_def v 92 25, b3, if_pos (nI_pos' (by omega))]
      exact Res_no hT (ri_no h9 c1) (rm_no2 x y c2)
  · subst z
    have y : v.1 92 20 = 103 := h13 (by omega)
    have x : v.1 92 19 = 1 := h10
    rcases k5 with ⟨b1, b2, -⟩ | ⟨b1, hh, b2, b3, -⟩
    · have c1 : f_X1_mayBegin 9 103 u = some (1, u) := by
        rw [f_X1_mayBegin, f_X1_mayBegin_b0, if_neg (show ¬ (103 : Int32) = 100 by decide), if_pos (show (103 : Int32) = 103 from rfl), wget_def u 1 8, b1, if_pos (show (0 : Int32) = 0 from rfl)]
      have c2 : f_X6_mayBegin 103 v = some (1, v) := by
        rw [f_X6_mayBegin, f_X6_mayBegin_b0, if_neg (show ¬ (103 : Int32) = 100 by decide), if_neg (show ¬ (103 : Int32) = 101 by decide), if_neg (show ¬ (103 : Int32) = 102 by decide), if_pos (show (103 : Int32) = 103 from rfl), wget_def v 92 26, b2, if_neg (show ¬ (0 : Int32) ≤ -1 by decide)]
      rw [ri_1 h9 (by decide) c1 a1, rm_yes x y c2 a2, body_g]
      exact fin _ _ (num_res (f := 298) a5 hl' h21' (lo_1 (by decide) (by decide)) (hi_1 (by decide) (by decide)) (by omega) (by omega) (by omega) (fun u v m a b c d => tell_g u v a c d) hq)
    · have c1 : f_X1_mayBegin 9 103 u = some (0, u) := by
        rw [f_X1_mayBegin, f_X1_mayBegin_b0, if_neg (show ¬ (103 : Int32) = 100 by decide), if_pos (show (103 : Int32) = 103 from rfl), wget_def u 1 8, b1, if_neg jj_ne10]
      have c2 : f_X6_mayBegin 103 v = some (0, v) := by
        rw [f_X6_mayBegin, f_X6_mayBegin_b0, if_neg (show ¬ (103 : Int32) = 100 by decide), if_neg (show ¬ (103 : Int32) = 101 by decide), if_neg (show ¬ (103 : Int32) = 102 by decide), if_pos (show (103 : Int32) = 103 from rfl), wget_def v 92 26, b3, if_pos (nI_pos' (by omega))]
      exact Res_no hT (ri_no h9 c1) (rm_no2 x y c2)
  · subst z
    have y : v.1 92 20 = 114 := h13 (by omega)
    have x : v.1 92 19 = 1 := h10
    rcases k6 with ⟨b1, b2, -⟩ | ⟨b1, hh, b2, b4, b3, -⟩
    · have c1 : f_X1_mayBegin 9 114 u = some (1, u) := by
        rw [f_X1_mayBegin, f_X1_mayBegin_b0, if_neg (show ¬ (114 : Int32) = 100 by decide), if_neg (show ¬ (114 : Int32) = 103 by decide), if_neg (show ¬ (114 : Int32) = 104 by decide), if_pos (show (114 : Int32) = 114 from rfl), wget_def u 1 9, b1, if_pos (show (0 : Int32) = 0 from rfl)]
      have c2 : f_X6_mayBegin 114 v = some (1, v) := by
        rw [f_X6_mayBegin, f_X6_mayBegin_b0, if_neg (show ¬ (114 : Int32) = 100 by decide), if_neg (show ¬ (114 : Int32) = 101 by decide), if_neg (show ¬ (114 : Int32) = 102 by decide), if_neg (show ¬ (114 : Int32) = 103 by decide), if_neg (show ¬ (114 : Int32) = 104 by decide), wget_def v 92 27, b2, if_neg (show ¬ (0 : Int32) ≤ -1 by decide)]
      rw [ri_1 h9 (by decide) c1 a1, rm_yes x y c2 a2, body_r]
      exact fin _ _ (num_res (f := 298) a5 hl' h21' lo_r hi_r (by omega) (by omega) (by omega) (fun u v m a b c d => tell_r u v a b c d) hq)
    · have c1 : f_X1_mayBegin 9 114 u = some (0, u) := by
        rw [f_X1_mayBegin, f_X1_mayBegin_b0, if_neg (show ¬ (114 : Int32) = 100 by decide), if_neg (show ¬ (114 : Int32) = 103 by decide), if_neg (show ¬ (114 : Int32) = 104 by decide), if_pos (show (114 : Int32) = 114 from rfl), wget_def u 1 9, b1, if_neg jj_ne10]
      have c2 : f_X6_mayBegin 114 v = some (0, v) := by
        rw [f_X6_mayBegin, f_X6_mayBegin_b0, if_neg (show ¬ (114 : Int32) = 100 by decide), if_neg (show ¬ (114 : Int32) = 101 by decide), if_neg (show ¬ (114 : Int32) = 102 by decide), if_neg (show ¬ (114 : Int32) = 103 by decide), if_neg (show ¬ (114 : Int32) = 104 by decide), wget_def v 92 27, b3, if_pos (nI_pos' (by omega))]
      exact Res_no hT (ri_no h9 c1) (rm_no2 x y c2)
  · subst z
    exact Res_no hT (ri_no h9 (mb_0 (by decide) (by decide) (by decide) (by decide) u)) (rm_no1 (by rw [h10]; decide))
theorem mT0 {t : Nat} (h : t ≠ 0) : ¬ mT t = 0 := by
  unfold mT
  rw [if_neg h]
  repeat (first | omega | split)
/-- how the reading ends -/
def Rd (tn : Nat) (u v : Wd) (A B : Option (Int32 × Wd)) : Prop := ∃ u' v', frC u u' ∧ frM v v' ∧ ((∃ s', s' ≤ tn ∧ A = some ((-10 : Int32) - nI s', u') ∧ B = some ((-10 : Int32) - nI s', v')) ∨
  ∃ j n', j ≤ 121 ∧ A = some (nI j, u') ∧ B = f_X6_pot_b70 v' ∧ v'.1 92 21 = 0 ∧ v'.1 92 22 = nI j ∧ Tl n' u' v')
theorem Rd_mono {tn : Nat} {u v u0 v0 : Wd} {A B : Option (Int32 × Wd)} (h : Rd tn u v A B) (hu : frC u0 u) (hv : frM v0 v) : Rd tn u0 v0 A B := by
  obtain ⟨u', v', a, b, c⟩ := h
  exact ⟨u', v', hu.tr a, hv.tr b, c⟩
theorem items2 {tn : Nat} {L : Nat → Nat} : ∀ (k i fc fm p s t m n : Nat) (u v : Wd), i + k = 121 → k < fc → k + 1 < fm → Tk tn L u v p s t m → Tl n u v → v.1 92 21 = 0 → v.1 92 22 = nI i → i ≤ p → (t ≠ 0 → i < p) → Rd tn u v (f_X1_readInto_l32 9 fc (nI i) (nI i) u) (f_X6_pot_l39 fm v)
  | 0, i, fc, fm, p, s, t, m, n, u, v, hi, _, _, hT, _, _, _, hp, _ => by
    have := hT.2.2.1
    have := hT.1.1
    omega
  | k + 1, i, fc, fm, p, s, t, m, n, u, v, hi, hfc, hfm, hT, hl, h21, h22, hp, hp2 => by
    obtain ⟨fc, rfl⟩ : ∃ x, fc = x + 1 := ⟨fc - 1, by omega⟩
    obtain ⟨fm, rfl⟩ : ∃ x, fm = x + 1 + 1 := ⟨fm - 2, by omega⟩
    obtain ⟨h1, h2, h3, h4, h5, h6, h7, h8, h9, h10, h11, h12, h13⟩ := id hT
    have htn := h1.1
    by_cases ht : t = 0
    · refine ⟨u, v, frC.rf u, frM.rf v, Or.inr ⟨i, n, by omega, ?_, ?_, h21, h22, hl⟩⟩
      · rw [f_X1_readInto_l32, f_X1_readInto_h32, f_X1_readInto_b74]
        by_cases z : (120 : Int32) ≤ nI i
        · rw [if_pos z]
        · rw [if_neg z, wget_def u 1 5, h9, if_pos (show nI t = 0 by rw [ht]; rfl)]
      · rw [f_X6_pot_l39, f_X6_pot_h39, wget_def v 92 19, h10, if_pos (show nI (mT t) = 0 by rw [ht]; rfl)]
    · have hti : t < 2 ^ 31 := by
        rcases h11 with z | z | z | z <;> omega
      have hip := hp2 ht
      have n1 : ¬ (120 : Int32) ≤ nI i := nI_ge (b := 120) (by omega) (by decide)
      have n2 : ¬ nI t = 0 := fun z => ht ((nI_eq (b := 0) hti (by decide)).mp z)
      have n3 : ¬ nI (mT t) = 0 := fun z => mT0 ht ((nI_eq (b := 0) (by have := mT_le t; omega) (by decide)).mp z)
      rw [f_X1_readInto_l32, f_X1_readInto_h32, if_neg n1, wget_def u 1 5, h9, if_neg n2, f_X6_pot_l39, f_X6_pot_h39, wget_def v 92 19, h10, if_neg n3, wget_def v 92 21, h21, if_pos (show (0 : Int32) = 0 from rfl)]
      rcases item2 hT hl h21 ht with ⟨u', v', s', a1, a2, a3, a4, a5, a6, a7, a8⟩ | ⟨u1, u', v', p', s', t', m', n', a1, a2, a3, a4, a5, a6, a7, a8, a9, a10, a11⟩
      · obtain ⟨v2, hv2⟩ : ∃ x, x = wset v' 92 22 (v'.1 92 22 + 1) := ⟨_, rfl⟩
        have q1 : v2.1 92 21 = 1 := by rw [hv2, wset_v, if_neg (by omega), a8]
        have q8 : v2.1 92 18 = nI s' := by rw [hv2, wset_v, if_neg (by omega), a7]
        refine ⟨u', v2, a3, a4.tr (hv2 ▸ frM_wset v' _ (by omega) : frM v' v2), Or.inl ⟨s', a5, ?_, ?_⟩⟩
        · rw [a1, jj_cal, if_pos (show (0 : Int32) = 0 from rfl), wget_def u' 1 4, a6]
        · rw [a2, jj_cal, jj_bnd, wget_def v' 92 22, ← hv2, f_X6_pot_l39, f_X6_pot_h39, f_X6_pot_b70, wget_def v2 92 21, q1, if_neg jj_ne10, if_neg jj_ne10, wget_def v2 92 18, q8]
          split <;> rfl
      · obtain ⟨v2, hv2⟩ : ∃ x, x = wset v' 92 22 (nI (i + 1)) := ⟨_, rfl⟩
        have ov : ∀ a j, ¬ (a = 92 ∧ j = 22) → v2.1 a j = v'.1 a j := fun a j x => by rw [hv2, wset_v, if_neg x]
        rw [a1, jj_cal, if_neg jj_ne10, jj_bnd, a2, jj_cal, jj_bnd, nI_1, a3, jj_cal, jj_bnd, wget_def v' 92 22, a9, h22, nI_1, ← hv2]
        refine Rd_mono (items2 k (i + 1) fc (fm + 1) p' s' t' m' n' u' v2 (by omega) (by omega) (by omega) (Tk_cong a6 (fun _ _ _ => rfl) (fun a j z => ov a j (by omega))) (Tl_cong a7 (fun _ _ _ => rfl) (fun a j z => ov a j (by omega))) ((ov 92 21 (by omega)).trans a8) (by rw [hv2, wset_v, if_pos ⟨rfl, rfl⟩]) (by omega) (fun z => by have := a11 z; omega)) a4 (a5.tr (hv2 ▸ frM_wset v' _ (by omega) : frM v' v2))
theorem read2 {tn : Nat} {L : Nat → Nat} {u v : Wd} (hu : TxC tn L u) (hv : TxM tn L v) : Rd tn u v (f_X1_readInto 9 u) (f_X6_pot v) := by
  obtain ⟨u0, hu0⟩ : ∃ x, x = wset (wset (wset (wset (wset (wset (wset (wset u 9 0 0) 9 1 3) 9 2 1) 9 3 20) 1 7 0) 1 8 0) 1 9 0) 1 3 0 := ⟨_, rfl⟩
  obtain ⟨v0, hv0⟩ : ∃ x, x = wset (wset (wset (wset (wset (wset (wset v 92 17 0) 92 21 0) 92 22 0) 92 23 0) 92 25 (-1)) 92 26 (-1)) 92 27 (-1) := ⟨_, rfl⟩
  have fu : frC u u0 := by
    rw [hu0]
    exact (((((((frC_wset u _ (by omega)).tr (frC_wset _ _ (by omega))).tr (frC_wset _ _ (by omega))).tr (frC_wset _ _ (by omega))).tr (frC_wset _ _ (by omega))).tr (frC_wset _ _ (by omega))).tr (frC_wset _ _ (by omega))).tr (frC_wset _ _ (by omega))
  have fv : frM v v0 := by
    rw [hv0]
    exact ((((((frM_wset v _ (by omega)).tr (frM_wset _ _ (by omega))).tr (frM_wset _ _ (by omega))).tr (frM_wset _ _ (by omega))).tr (frM_wset _ _ (by omega))).tr (frM_wset _ _ (by omega))).tr (frM_wset _ _ (by omega))
  have hl0 : Tl 0 u0 v0 := by
    rw [hu0, hv0]
    exact ⟨by omega, rfl, rfl, Or.inl ⟨rfl, rfl, rfl⟩, Or.inl ⟨rfl, rfl, rfl⟩, Or.inl ⟨rfl, rfl, rfl⟩, fun d hd => absurd hd (Nat.not_lt_zero d)⟩
  have p1 : u0.1 1 3 = nI 0 := by rw [hu0]; rfl
  have p2 : v0.1 92 17 = nI 0 := by rw [hv0]; rfl
  have p3 : v0.1 92 21 = 0 := by rw [hv0]; rfl
  have p4 : v0.1 92 22 = nI 0 := by rw [hv0]; rfl
  obtain ⟨u', v', p', s', t', m', a1, a2, a3, a4, a5, a6, a7⟩ := adv2 (tn := tn) (L := L) (u := u0) (v := v0) (p := 0) (TxC_cong hu (fu.2 1 2 (by omega) (by omega) (by omega)) (fun j => fu.2 2 j (by omega) (by omega) (by omega))) (TxM_cong hv (fv.2 92 16 (by omega) (by omega)) (fun j => fv.2 101 j (by omega) (by omega))) (by omega) p1 p2
  have e1 : f_X1_readInto 9 u = f_X1_readInto_l32 9 300 (nI 0) (nI 0) u' := by
    rw [f_X1_readInto, f_X1_readInto_b0, f_X2_setAsAtFirst, f_X2_setAsAtFirst_b0, jj_bnd, jj_bnd, jj_bnd, jj_bnd, jj_cal, jj_bnd, jj_bnd, jj_bnd, jj_bnd, ← hu0, jj_bnd, a1, jj_cal, jj_bnd, show (0 : Int32) = nI 0 from rfl]
  have e2 : f_X6_pot v = f_X6_pot_l39 300 v' := by
    rw [f_X6_pot, f_X6_pot_b0, jj_bnd, jj_bnd, jj_bnd, jj_bnd, jj_bnd, jj_bnd, jj_bnd, ← hv0, a2, jj_cal]
  rw [e1, e2]
  exact Rd_mono (items2 121 0 300 300 p' s' t' m' 0 u' v' (by omega) (by omega) (by omega) a5 (Tl_cong hl0 (fun a j z => a3.2 a j (by omega)) (fun a j z => a4.2 a j (by omega))) ((a4.2 92 21 (by omega)).trans p3) ((a4.2 92 22 (by omega)).trans p4) a6 a7) (fu.tr a3.fr) (fv.tr a4.fr)
