/-! PURE: keep, back, dumpling, sees, rate -/
theorem le1_cases {x : Int32} (h1 : ¬ x < 0) (h2 : x ≤ 1) : ∃ i, i < 2 ∧ x = nI i := by
  obtain ⟨i, hi, rfl⟩ := nI_of h1
  have : i ≤ 1 := (nI_leI hi (by decide)).mp h2
  exact ⟨i, by omega, rfl⟩
theorem le1 {x : Int32} (h : x ≤ 1) : ¬ (1 : Int32) < x := by
  rw [Int32.le_iff_toInt_le] at h
  rw [Int32.lt_iff_toInt_lt]
  omega
theorem nle1 {x : Int32} (h : ¬ x ≤ 1) : (1 : Int32) < x := by
  rw [Int32.le_iff_toInt_le] at h
  rw [Int32.lt_iff_toInt_lt]
  omega
theorem imageOf_eq {i : Nat} (hi : i < 2) (w : Wd) : f_X5_imageOf (nI i) w = some (76 + 5 * i, w) ∧ kindOf (76 + 5 * i) = 4 := by
  rcases (show i = 0 ∨ i = 1 by omega) with rfl | rfl
  · exact ⟨rfl, by decide⟩
  · exact ⟨rfl, by decide⟩
theorem op_keep : Op1 Iv f_X5_keep f_X6_keep := by
  intro a w hI
  obtain ⟨n, hn, hT, hS, hP, hG, hN, hX, hE⟩ := id hI
  obtain ⟨s0, -⟩ := id hS.1
  obtain ⟨b, hb, hb2, hb3⟩ := id hG
  by_cases g1 : a < 0
  · refine ⟨-1, w, w, ?_, ?_, hI⟩
    · rw [f_X5_keep, f_X5_keep_b0, if_pos g1]
    · rw [f_X6_keep, f_X6_keep_b0, in_eq, if_neg (fun q => q.1 g1), jj_cal, if_pos rfl]
  · by_cases g2 : a ≤ 1
    · obtain ⟨i, hi, rfl⟩ := le1_cases g1 g2
      obtain ⟨im1, im2⟩ := imageOf_eq hi w
      obtain ⟨w1, c0, c1, c2, c3⟩ := copy4 (76 + 5 * i) 14 (by omega) w
      obtain ⟨w2, hw2⟩ : ∃ x, x = wset w1 0 8 (nI (b ||| 2 ^ i)) := ⟨_, rfl⟩
      have x0 : w1.1 0 = w.1 0 := c2 0 (by omega)
      have fo : ∀ a, a ≠ 0 → w2.1 a = w1.1 a := fun a ha => by rw [hw2]; exact (wset_off w1 0 8 _ a ha).1
      obtain ⟨w3, hw3⟩ : ∃ x, x = wrow w2 98 (fun j => if 26 * i ≤ j ∧ j < 26 * i + 26 then w2.1 96 (0 + (j - 26 * i)) else w2.1 98 j) := ⟨_, rfl⟩
      have hcp : f_X6_copy 98 96 (nI (26 * i)) 0 w2 = some ((), w3) := by
        rw [hw3]
        exact copy26 (k0 := 98) (k2 := 96) (a := 26 * i) (c := 0) (by decide) (show 26 * i + 26 ≤ 52 by omega) (by decide) (by decide) (by decide) w2
      obtain ⟨v, hv⟩ : ∃ x, x = wset w3 99 i 1 := ⟨_, rfl⟩
      have e96 : w2.1 96 = w.1 96 := by rw [fo 96 (by decide), c2 96 (by omega)]
      have e98 : w2.1 98 = w.1 98 := by rw [fo 98 (by decide), c2 98 (by omega)]
      have vo : ∀ a, a ≠ 98 → a ≠ 99 → v.1 a = w2.1 a := fun a ha hb => by rw [hv, (wset_off w3 99 i 1 a hb).1, hw3]; exact wrow_off ha
      have g : ∀ a, a ≠ 98 → a ≠ 99 → a ≠ 0 → (a < 76 + 5 * i ∨ 76 + 5 * i + 4 < a) → v.1 a = w.1 a := fun a h1 h2 h3 h4 => by rw [vo a h1 h2, fo a h3, c2 a h4]
      have v98 : ∀ j, v.1 98 j = if 26 * i ≤ j ∧ j < 26 * i + 26 then w.1 96 (j - 26 * i) else w.1 98 j := fun j => by
        rw [hv, (wset_off w3 99 i 1 98 (by decide)).1, hw3, wrow_row, e96, e98, Nat.zero_add]
      have v99 : ∀ j, v.1 99 j = if j = i then 1 else w.1 99 j := fun j => by
        rw [hv, wset_v, hw3, wrow_off (by decide), fo 99 (by decide), c2 99 (by omega)]
        simp only [true_and]
      have l1 : nI b ||| ((1 : Int32) <<< (nI i &&& 31)) = nI (b ||| 2 ^ i) := by rw [jj_shl (show i < 7 by omega), jj_or]
      have l2 : b ||| 2 ^ i < 4 := Nat.or_lt_two_pow (n := 2) hb (Nat.pow_lt_pow_right (by decide) hi)
      refine ⟨w.1 96 0, w2, v, ?_, ?_, n, hn, IvT_cong hT (fun j hj => by rw [g 92 (by omega) (by omega) (by omega) (by omega)]) (fun a ha => g a (by omega) (by omega) (by omega) (by omega)),
        IvS_cong hS (fun a h1 h2 => g a (by omega) (by omega) (by omega) (by omega)) (g 96 (by omega) (by omega) (by omega) (by omega)),
        IvP_cong hP (by rw [g 24 (by omega) (by omega) (by omega) (by omega)]) (by rw [g 24 (by omega) (by omega) (by omega) (by omega)]) (by rw [g 92 (by omega) (by omega) (by omega) (by omega)]) (fun a h1 h2 => g a (by omega) (by omega) (by omega) (by omega)) (g 97 (by omega) (by omega) (by omega) (by omega)),
        ⟨b ||| 2 ^ i, l2, ?_, fun i2 hi2 => ?_⟩,
        IvN_cong hN (by rw [g 86 (by omega) (by omega) (by omega) (by omega)]) (by rw [g 92 (by omega) (by omega) (by omega) (by omega)]) (fun a ha => g a (by omega) (by omega) (by omega) (by omega)),
        IvX_cong hX (by rw [g 1 (by omega) (by omega) (by omega) (by omega)]) (by rw [g 92 (by omega) (by omega) (by omega) (by omega)]) (g 2 (by omega) (by omega) (by omega) (by omega)) (g 101 (by omega) (by omega) (by omega) (by omega)),
        IvE_cong hE (by rw [hv, wset_2, hw3, wrow_2, hw2, wset_2, c1]) (by rw [g 90 (by omega) (by omega) (by omega) (by omega)])⟩
      · rw [f_X5_keep, f_X5_keep_b0, if_neg g1, if_pos g2, im1, jj_cal, jj_grd (by rw [im2]; rfl), c0, jj_cal, jj_bnd, wget_def w1, x0, hb2, l1, ← hw2, wget_def, fo 14 (by decide), c2 14 (by omega), s0]
      · rw [f_X6_keep, f_X6_keep_b0, in_eq, if_pos ⟨g1, le1 g2⟩, jj_cal, if_neg jj_ne10, lit26, hcp, jj_cal, jj_grd (jj_inb hi (by decide)), jj_bnd, jj_tn (show i < 2 ^ 31 by omega), ← hv, wget_def, g 96 (by omega) (by omega) (by omega) (by omega)]
      · rw [vo 0 (by decide) (by decide), hw2, wset_v, if_pos ⟨rfl, rfl⟩]
      · rw [v99]
        obtain ⟨y1, y2⟩ := hb3 i2 hi2
        rw [Nat.testBit_or, Nat.testBit_two_pow]
        by_cases q : i2 = i
        · subst q
          have e : ∀ j, j < 26 → w.1 96 j = v.1 98 (26 * i2 + j) := fun j hj => by rw [v98, if_pos (by omega), Nat.add_sub_cancel_left]
          refine ⟨by simp, fun _ => ⟨SRel_row hn (SRel_cong (c3 n _ hn hS.1) (fun a h1 h2 => ?_)) e, RInv_row hn hS.2 e⟩⟩
          rw [vo a (by omega) (by omega), fo a (by omega)]
        · have q2 : ¬ i = i2 := fun z => q z.symm
          simp only [q, q2, if_false, decide_false, Bool.or_false]
          refine ⟨y1, fun z => ?_⟩
          obtain ⟨z1, z2⟩ := y2 z
          have e : ∀ j, j < 26 → w.1 98 (26 * i2 + j) = v.1 98 (26 * i2 + j) := fun j hj => by rw [v98, if_neg (by omega)]
          exact ⟨SRel_row hn (SRel_cong z1 (fun a h1 h2 => g a (by omega) (by omega) (by omega) (by omega))) e, RInv_row hn z2 e⟩
    · refine ⟨-1, w, w, ?_, ?_, hI⟩
      · rw [f_X5_keep, f_X5_keep_b0, if_neg g1, if_neg g2]
      · rw [f_X6_keep, f_X6_keep_b0, in_eq, if_neg (fun q => q.2 (nle1 g2)), jj_cal, if_pos rfl]
theorem op_back : Op1 Iv f_X5_back f_X6_back := by
  intro a w hI
  obtain ⟨n, hn, hT, hS, hP, hG, hN, hX, hE⟩ := id hI
  obtain ⟨kn, nx, pk, px, p2, p9, p1, pold⟩ := id hP
  obtain ⟨b, hb, hb2, hb3⟩ := id hG
  by_cases g1 : a < 0
  · refine ⟨-1, w, w, ?_, ?_, hI⟩
    · rw [f_X5_back, f_X5_back_b0, if_pos g1]
    · rw [f_X6_back, f_X6_back_b0, in_eq, if_neg (fun q => q.1 g1), jj_cal, if_pos rfl]
  · by_cases g2 : a ≤ 1
    · obtain ⟨i, hi, rfl⟩ := le1_cases g1 g2
      obtain ⟨y1, y2⟩ := hb3 i hi
      have hbit := jj_bit0 (s := b) (i := i) (by omega) (by omega)
      cases hbi : b.testBit i with
      | false =>
        refine ⟨-2, w, w, ?_, ?_, hI⟩
        · rw [f_X5_back, f_X5_back_b0, if_neg g1, if_pos g2, wget_def, hb2, if_pos (hbit.mpr hbi)]
        · rw [f_X6_back, f_X6_back_b0, in_eq, if_pos ⟨g1, le1 g2⟩, jj_cal, if_neg jj_ne10, jj_grd (jj_inb hi (by decide)), jj_tn (show i < 2 ^ 31 by omega), wget_def, y1, hbi, if_pos (by decide)]
      | true =>
        obtain ⟨im1, im2⟩ := imageOf_eq hi w
        obtain ⟨z1, z2⟩ := y2 hbi
        obtain ⟨w1, c0, c1, c2, c3⟩ := copy4 14 (76 + 5 * i) (by omega) w
        obtain ⟨w2, hw2⟩ : ∃ x, x = wset w1 24 2 0 := ⟨_, rfl⟩
        have fo : ∀ a, a ≠ 24 → w2.1 a = w1.1 a := fun a ha => by rw [hw2]; exact (wset_off w1 24 2 _ a ha).1
        obtain ⟨w3, hw3⟩ : ∃ x, x = wrow w2 96 (fun j => if 0 ≤ j ∧ j < 0 + 26 then w2.1 98 (26 * i + (j - 0)) else w2.1 96 j) := ⟨_, rfl⟩
        have hcp : f_X6_copy 96 98 0 (nI (26 * i)) w2 = some ((), w3) := by
          rw [hw3]
          exact copy26 (k0 := 96) (k2 := 98) (a := 0) (c := 26 * i) (by decide) (by decide) (show 26 * i + 26 ≤ 52 by omega) (by decide) (by decide) w2
        obtain ⟨v, hv⟩ : ∃ x, x = wset w3 92 9 0 := ⟨_, rfl⟩
        have e98 : w2.1 98 = w.1 98 := by rw [fo 98 (by decide), c2 98 (by omega)]
        have e99 : w2.1 99 = w.1 99 := by rw [fo 99 (by decide), c2 99 (by omega)]
        have vo : ∀ a, a ≠ 96 → a ≠ 92 → v.1 a = w2.1 a := fun a ha hb => by rw [hv, (wset_off w3 92 9 0 a hb).1, hw3]; exact wrow_off ha
        have g : ∀ a, a ≠ 96 → a ≠ 92 → a ≠ 24 → (a < 14 ∨ 18 < a) → v.1 a = w.1 a := fun a h1 h2 h3 h4 => by rw [vo a h1 h2, fo a h3, c2 a (by omega)]
        have g92 : ∀ j, j ≠ 9 → v.1 92 j = w.1 92 j := fun j hj => by rw [hv, wset_v, if_neg (by omega), hw3, wrow_off (by decide), fo 92 (by decide), c2 92 (by omega)]
        have v96 : ∀ j, j < 26 → w.1 98 (26 * i + j) = v.1 96 j := fun j hj => by
          rw [hv, (wset_off w3 92 9 0 96 (by decide)).1, hw3, wrow_row, if_pos (by omega), e98, Nat.sub_zero]
        have hS2 := SRel_row hn (SRel_cong (c3 n _ hn z1) (v := v) (fun a h1 h2 => by rw [vo a (by omega) (by omega), fo a (by omega)])) v96
        have x14 : w2.1 14 0 = v.1 96 0 := by rw [← hS2.1, vo 14 (by decide) (by decide)]
        refine ⟨v.1 96 0, w2, v, ?_, ?_, n, hn, IvT_cong hT (fun j hj => g92 j (by omega)) (fun a ha => g a (by omega) (by omega) (by omega) (by omega)), ⟨hS2, RInv_row hn z2 v96⟩, ⟨0, nx, by omega, px, ?_, ?_, ?_, fun j hj => absurd hj (Nat.not_lt_zero j)⟩,
          IvG_cong hG (by rw [g 0 (by omega) (by omega) (by omega) (by omega)]) (fun a h1 h2 => g a (by omega) (by omega) (by omega) (by omega)) (g 98 (by omega) (by omega) (by omega) (by omega)) (g 99 (by omega) (by omega) (by omega) (by omega)),
          IvN_cong hN (by rw [g 86 (by omega) (by omega) (by omega) (by omega)]) (g92 12 (by omega)) (fun a ha => g a (by omega) (by omega) (by omega) (by omega)),
          IvX_cong hX (by rw [g 1 (by omega) (by omega) (by omega) (by omega)]) (g92 16 (by omega)) (g 2 (by omega) (by omega) (by omega) (by omega)) (g 101 (by omega) (by omega) (by omega) (by omega)),
          IvE_cong hE (by rw [hv, wset_2, hw3, wrow_2, hw2, wset_2, c1]) (by rw [g 90 (by omega) (by omega) (by omega) (by omega)])⟩
        · rw [f_X5_back, f_X5_back_b0, if_neg g1, if_pos g2, wget_def, hb2, if_neg (fun q => by rw [hbit.mp q] at hbi; cases hbi), im1, jj_cal, jj_grd (by rw [im2]; rfl), c0, jj_cal, jj_bnd, ← hw2, wget_def, x14]
        · rw [f_X6_back, f_X6_back_b0, in_eq, if_pos ⟨g1, le1 g2⟩, jj_cal, if_neg jj_ne10, jj_grd (jj_inb hi (by decide)), jj_tn (show i < 2 ^ 31 by omega), wget_def, e99, y1, hbi, if_neg (by decide), lit26, hcp, jj_cal, jj_bnd, ← hv, wget_def]
        · rw [vo 24 (by decide) (by decide), hw2, wset_v, if_pos ⟨rfl, rfl⟩]; rfl
        · rw [hv, wset_v, if_pos ⟨rfl, rfl⟩]; rfl
        · rw [vo 24 (by decide) (by decide), hw2, wset_v, if_neg (by omega), c2 24 (by omega)]; exact p1
    · refine ⟨-1, w, w, ?_, ?_, hI⟩
      · rw [f_X5_back, f_X5_back_b0, if_neg g1, if_neg g2]
      · rw [f_X6_back, f_X6_back_b0, in_eq, if_neg (fun q => q.2 (nle1 g2)), jj_cal, if_pos rfl]
theorem op_dumpling : Op2 Iv f_X5_dumpling f_X6_dumpling := by
  intro a x w hI
  obtain ⟨n, hn, hT, hS, hP, hG, hN, hX, hE⟩ := id hI
  obtain ⟨t0, t1, -, -, -, -, -, -, tA⟩ := id hT
  obtain ⟨⟨s0, s1, sA, sB⟩, hR⟩ := id hS
  rcases one_cases a hn with ⟨d, hd, rfl⟩ | hx
  · obtain ⟨u1, u2, u3, -⟩ := tA d hd
    obtain ⟨u4, u5, u6, u7⟩ := sA d hd
    have u4' : w.1 15 d = w.1 96 (2 + d) := u4
    have u5' : w.1 16 d = w.1 96 (8 + d) := u5
    have u6' : w.1 17 d = w.1 96 (14 + d) := u6
    have u7' : w.1 18 d = w.1 96 (20 + d) := u7
    have hc : f_X5_dumpling (nI d) x w = f_X6_dumpling (nI d) x w := by
      rw [f_X5_dumpling, f_X5_dumpling_b0, isTold_yes t1 hn hd, jj_cal, if_neg jj_ne10, f_X6_dumpling, f_X6_dumpling_b0, isOne_yes t0 hn hd, jj_cal, if_neg jj_ne10]
      simp only [jj_2, jj_8, jj_14, jj_20, jj_grd (jj_i6 (show d < 6 by omega)), jj_grd (jj_i26 (show 2 + d < 26 by omega)), jj_grd (jj_i26 (show 8 + d < 26 by omega)), jj_grd (jj_i26 (show 14 + d < 26 by omega)), jj_grd (jj_i26 (show 20 + d < 26 by omega)), jj_tn (show d < 2 ^ 31 by omega), jj_tn (show 2 + d < 2 ^ 31 by omega), jj_tn (show 8 + d < 2 ^ 31 by omega), jj_tn (show 14 + d < 2 ^ 31 by omega), jj_tn (show 20 + d < 2 ^ 31 by omega), wget_def, u1, u2, u3, u4', u5', u6', u7']
    have hr : ∃ r, f_X5_dumpling (nI d) x w = some (r, w) := by
      rw [f_X5_dumpling, f_X5_dumpling_b0, isTold_yes t1 hn hd, jj_cal, if_neg jj_ne10]
      simp only [jj_grd (jj_i6 (show d < 6 by omega))]
      repeat' split
      all_goals exact ⟨_, rfl⟩
    obtain ⟨r, hr⟩ := hr
    exact ⟨r, w, w, hr, hc ▸ hr, hI⟩
  · refine ⟨-1, w, w, ?_, ?_, hI⟩
    · rw [f_X5_dumpling, f_X5_dumpling_b0, isTold_no t1 hn hx, jj_cal, if_pos rfl]
    · rw [f_X6_dumpling, f_X6_dumpling_b0, isOne_no t0 hn hx, jj_cal, if_pos rfl]
theorem jj_lt_nle {x y : Int32} (h : x < y) : ¬ y ≤ x := by
  rw [Int32.lt_iff_toInt_lt] at h
  rw [Int32.le_iff_toInt_le]
  omega
theorem jj_nle_lt {x y : Int32} (h : ¬ y ≤ x) : x < y := by
  rw [Int32.le_iff_toInt_le] at h
  rw [Int32.lt_iff_toInt_lt]
  omega
theorem jj_le_nlt {x y : Int32} (h : y ≤ x) : ¬ x < y := by
  rw [Int32.le_iff_toInt_le] at h
  rw [Int32.lt_iff_toInt_lt]
  omega
theorem jj_nlt_le {x y : Int32} (h : ¬ x < y) : y ≤ x := by
  rw [Int32.lt_iff_toInt_lt] at h
  rw [Int32.le_iff_toInt_le]
  omega
theorem lit3n (k : Nat) : (3 : Int32) * nI k = nI (3 * k) := (Int32.ofNat_mul 3 k).symm
theorem nI_2 (a : Nat) : nI a + 2 = nI (a + 2) := nI_add a 2
theorem add3_eq {w : Wd} {sn : Nat} (h : w.1 86 3 = nI sn) (hs : sn < 6) (x y z : Int32) : f_X3_add x y z w = some (1, wset (wset (wset (wset w 87 sn x) 88 sn y) 89 sn z) 86 3 (nI (sn + 1))) := by
  have h1 : (wset w 87 sn x).1 86 3 = nI sn := by rw [(wset_off _ 87 _ _ 86 (by decide)).1, h]
  have h2 : (wset (wset w 87 sn x) 88 sn y).1 86 3 = nI sn := by rw [(wset_off _ 88 _ _ 86 (by decide)).1, h1]
  have h3 : (wset (wset (wset w 87 sn x) 88 sn y) 89 sn z).1 86 3 = nI sn := by rw [(wset_off _ 89 _ _ 86 (by decide)).1, h2]
  rw [f_X3_add, f_X3_add_b0, wget_def, h, if_neg (nI_pos (show sn < 2 ^ 31 by omega)), if_pos (show nI sn < 6 from nI_lt (b := 6) hs (by decide)), jj_grd (jj_i6 hs), jj_bnd, jj_tn (show sn < 2 ^ 31 by omega), wget_def, h1, jj_grd (jj_i6 hs), jj_bnd, jj_tn (show sn < 2 ^ 31 by omega), wget_def, h2, jj_grd (jj_i6 hs), jj_bnd, jj_tn (show sn < 2 ^ 31 by omega), jj_bnd, wget_def, h3, nI_1]
theorem op_sees : Op3 Iv f_X5_sees f_X6_sees := by
  intro a x y w hI
  obtain ⟨n, hn, hT, hS, hP, hG, hN, hX, hE⟩ := id hI
  obtain ⟨t0, t1, -⟩ := id hT
  obtain ⟨sn, hs, n1, n2, n3⟩ := id hN
  rcases one_cases a hn with ⟨d, hd, rfl⟩ | hx
  · by_cases g1 : x < 1
    · refine ⟨-1, w, w, ?_, ?_, hI⟩
      · rw [f_X5_sees, f_X5_sees_b0, isTold_yes t1 hn hd, jj_cal, if_neg jj_ne10, if_pos g1]
      · rw [f_X6_sees, f_X6_sees_b0, isOne_yes t0 hn hd, jj_cal, if_neg jj_ne10, in_eq, if_neg (fun q => q.1 g1), jj_cal, if_pos rfl]
    · by_cases g2 : 20 < x
      · refine ⟨-1, w, w, ?_, ?_, hI⟩
        · rw [f_X5_sees, f_X5_sees_b0, isTold_yes t1 hn hd, jj_cal, if_neg jj_ne10, if_neg g1, if_pos g2]
        · rw [f_X6_sees, f_X6_sees_b0, isOne_yes t0 hn hd, jj_cal, if_neg jj_ne10, in_eq, if_neg (fun q => q.2 g2), jj_cal, if_pos rfl]
      · by_cases g3 : y < 0
        · refine ⟨-1, w, w, ?_, ?_, hI⟩
          · rw [f_X5_sees, f_X5_sees_b0, isTold_yes t1 hn hd, jj_cal, if_neg jj_ne10, if_neg g1, if_neg g2, if_pos g3]
          · rw [f_X6_sees, f_X6_sees_b0, isOne_yes t0 hn hd, jj_cal, if_neg jj_ne10, in_eq, if_pos ⟨g1, g2⟩, jj_cal, if_neg jj_ne10, in_eq, if_neg (fun q => q.1 g3), jj_cal, if_pos rfl]
        · by_cases g4 : y ≤ 10
          · by_cases g5 : sn = 6
            · subst g5
              refine ⟨-3, w, w, ?_, ?_, hI⟩
              · rw [f_X5_sees, f_X5_sees_b0, isTold_yes t1 hn hd, jj_cal, if_neg jj_ne10, if_neg g1, if_neg g2, if_neg g3, if_pos g4, f_X3_add, f_X3_add_b0, wget_def, n1, if_neg (show ¬ nI 6 < 0 by decide), if_neg (show ¬ nI 6 < 6 by decide), jj_cal, if_pos rfl]
              · rw [f_X6_sees, f_X6_sees_b0, isOne_yes t0 hn hd, jj_cal, if_neg jj_ne10, in_eq, if_pos ⟨g1, g2⟩, jj_cal, if_neg jj_ne10, in_eq, if_pos ⟨g3, jj_le_nlt g4⟩, jj_cal, if_neg jj_ne10, wget_def, n2, if_pos (show nI 6 = 6 from rfl)]
            · obtain ⟨w1, hw1⟩ : ∃ z, z = wset (wset (wset (wset w 87 sn (nI d)) 88 sn x) 89 sn y) 86 3 (nI (sn + 1)) := ⟨_, rfl⟩
              have hadd := add3_eq n1 (show sn < 6 by omega) (nI d) x y
              rw [← hw1] at hadd
              have z3 : w1.1 86 3 = nI (sn + 1) := by rw [hw1, wset_v, if_pos ⟨rfl, rfl⟩]
              have wo : ∀ a, a ≠ 86 → a ≠ 87 → a ≠ 88 → a ≠ 89 → w1.1 a = w.1 a := fun a h1 h2 h3 h4 => by
                rw [hw1, (wset_off _ 86 _ _ a h1).1, (wset_off _ 89 _ _ a h4).1, (wset_off _ 88 _ _ a h3).1, (wset_off _ 87 _ _ a h2).1]
              have e92 : w1.1 92 = w.1 92 := wo 92 (by decide) (by decide) (by decide) (by decide)
              obtain ⟨w2, hw2⟩ : ∃ z, z = wset w1 100 (3 * sn) (nI d) := ⟨_, rfl⟩
              obtain ⟨w3, hw3⟩ : ∃ z, z = wset w2 100 (3 * sn + 1) x := ⟨_, rfl⟩
              obtain ⟨w4, hw4⟩ : ∃ z, z = wset w3 100 (3 * sn + 2) y := ⟨_, rfl⟩
              obtain ⟨v, hv⟩ : ∃ z, z = wset w4 92 12 (nI (sn + 1)) := ⟨_, rfl⟩
              have k1 : w1.1 92 12 = nI sn := by rw [e92]; exact n2
              have k2 : w2.1 92 12 = nI sn := by rw [hw2, (wset_off _ 100 _ _ 92 (by decide)).1, k1]
              have k3 : w3.1 92 12 = nI sn := by rw [hw3, (wset_off _ 100 _ _ 92 (by decide)).1, k2]
              have k4 : w4.1 92 12 = nI sn := by rw [hw4, (wset_off _ 100 _ _ 92 (by decide)).1, k3]
              have k5 : v.1 92 12 = nI (sn + 1) := by rw [hv, wset_v, if_pos ⟨rfl, rfl⟩]
              have vo : ∀ a, a ≠ 92 → a ≠ 100 → v.1 a = w1.1 a := fun a h1 h2 => by
                rw [hv, (wset_off _ 92 _ _ a h1).1, hw4, (wset_off _ 100 _ _ a h2).1, hw3, (wset_off _ 100 _ _ a h2).1, hw2, (wset_off _ 100 _ _ a h2).1]
              have g : ∀ a, a ≠ 92 → a ≠ 100 → (a < 86 ∨ 89 < a) → v.1 a = w.1 a := fun a h1 h2 h3 => by rw [vo a h1 h2, wo a (by omega) (by omega) (by omega) (by omega)]
              have g92 : ∀ j, j ≠ 12 → v.1 92 j = w.1 92 j := fun j hj => by
                rw [hv, wset_v, if_neg (by omega), hw4, (wset_off _ 100 _ _ 92 (by decide)).1, hw3, (wset_off _ 100 _ _ 92 (by decide)).1, hw2, (wset_off _ 100 _ _ 92 (by decide)).1, e92]
              have v100 : ∀ j, v.1 100 j = if j = 3 * sn + 2 then y else if j = 3 * sn + 1 then x else if j = 3 * sn then nI d else w.1 100 j := fun j => by
                rw [hv, (wset_off _ 92 _ _ 100 (by decide)).1, hw4, wset_v, hw3, wset_v, hw2, wset_v, wo 100 (by decide) (by decide) (by decide) (by decide)]
                simp only [true_and]
              have v87 : ∀ j, v.1 87 j = if j = sn then nI d else w.1 87 j := fun j => by
                rw [vo 87 (by decide) (by decide), hw1, (wset_off _ 86 _ _ 87 (by decide)).1, (wset_off _ 89 _ _ 87 (by decide)).1, (wset_off _ 88 _ _ 87 (by decide)).1, wset_v]
                simp only [true_and]
              have v88 : ∀ j, v.1 88 j = if j = sn then x else w.1 88 j := fun j => by
                rw [vo 88 (by decide) (by decide), hw1, (wset_off _ 86 _ _ 88 (by decide)).1, (wset_off _ 89 _ _ 88 (by decide)).1, wset_v, (wset_off _ 87 _ _ 88 (by decide)).1]
                simp only [true_and]
              have v89 : ∀ j, v.1 89 j = if j = sn then y else w.1 89 j := fun j => by
                rw [vo 89 (by decide) (by decide), hw1, (wset_off _ 86 _ _ 89 (by decide)).1, wset_v, (wset_off _ 88 _ _ 89 (by decide)).1, (wset_off _ 87 _ _ 89 (by decide)).1]
                simp only [true_and]
              have hxx : ∃ m, m ≤ 20 ∧ x = nI m := by
                have hx0 : ¬ x < 0 := fun q => g1 (by
                  rw [Int32.lt_iff_toInt_lt] at q ⊢
                  have a0 : (0 : Int32).toInt = 0 := by decide
                  have a1 : (1 : Int32).toInt = 1 := by decide
                  omega)
                obtain ⟨m, hm, rfl⟩ := nI_of hx0
                exact ⟨m, (nI_leI hm (by decide)).mp (show nI m ≤ nI 20 from jj_nlt_le g2), rfl⟩
              refine ⟨nI (sn + 1), w1, v, ?_, ?_, n, hn, IvT_cong hT (fun j hj => g92 j (by omega)) (fun a ha => g a (by omega) (by omega) (by omega)),
                IvS_cong hS (fun a h1 h2 => g a (by omega) (by omega) (by omega)) (g 96 (by omega) (by omega) (by omega)),
                IvP_cong hP (by rw [g 24 (by omega) (by omega) (by omega)]) (by rw [g 24 (by omega) (by omega) (by omega)]) (g92 9 (by omega)) (fun a h1 h2 => g a (by omega) (by omega) (by omega)) (g 97 (by omega) (by omega) (by omega)),
                IvG_cong hG (by rw [g 0 (by omega) (by omega) (by omega)]) (fun a h1 h2 => g a (by omega) (by omega) (by omega)) (g 98 (by omega) (by omega) (by omega)) (g 99 (by omega) (by omega) (by omega)),
                ⟨sn + 1, by omega, ?_, k5, fun j hj => ?_⟩,
                IvX_cong hX (by rw [g 1 (by omega) (by omega) (by omega)]) (g92 16 (by omega)) (g 2 (by omega) (by omega) (by omega)) (g 101 (by omega) (by omega) (by omega)),
                IvE_cong hE (by rw [hv, wset_2, hw4, wset_2, hw3, wset_2, hw2, wset_2, hw1, wset_2, wset_2, wset_2, wset_2]) (by rw [g 90 (by omega) (by omega) (by omega)])⟩
              · rw [f_X5_sees, f_X5_sees_b0, isTold_yes t1 hn hd, jj_cal, if_neg jj_ne10, if_neg g1, if_neg g2, if_neg g3, if_pos g4, hadd, jj_cal, if_neg jj_ne10, wget_def, z3]
              · rw [f_X6_sees, f_X6_sees_b0, isOne_yes (w := w1) (by rw [e92]; exact t0) hn hd, jj_cal, if_neg jj_ne10, in_eq, if_pos ⟨g1, g2⟩, jj_cal, if_neg jj_ne10, in_eq, if_pos ⟨g3, jj_le_nlt g4⟩, jj_cal, if_neg jj_ne10, wget_def, k1, if_neg (show ¬ nI sn = 6 from fun q => g5 ((nI_eq (a := sn) (b := 6) (by omega) (by decide)).mp q)), lit3n, jj_grd (jj_inb (show 3 * sn < 18 by omega) (by decide)), jj_bnd, jj_tn (show 3 * sn < 2 ^ 31 by omega), ← hw2, wget_def, k2, lit3n, nI_1, jj_grd (jj_inb (show 3 * sn + 1 < 18 by omega) (by decide)), jj_bnd, jj_tn (show 3 * sn + 1 < 2 ^ 31 by omega), ← hw3, wget_def, k3, lit3n, nI_2, jj_grd (jj_inb (show 3 * sn + 2 < 18 by omega) (by decide)), jj_bnd, jj_tn (show 3 * sn + 2 < 2 ^ 31 by omega), ← hw4, jj_bnd, wget_def w4, k4, nI_1, ← hv, wget_def, k5]
              · rw [vo 86 (by decide) (by decide)]; exact z3
              · rw [v87, v88, v89, v100, v100, v100]
                by_cases q : j = sn
                · obtain ⟨mm, hm1, hm2⟩ := hxx
                  subst q
                  rw [if_pos rfl, if_pos rfl, if_pos rfl, if_neg (by omega), if_neg (by omega), if_pos rfl, if_neg (by omega), if_pos rfl, if_pos rfl]
                  exact ⟨rfl, rfl, rfl, mm, hm1, hm2⟩
                · rw [if_neg q, if_neg q, if_neg q, if_neg (by omega), if_neg (by omega), if_neg (by omega), if_neg (by omega), if_neg (by omega), if_neg (by omega), if_neg (by omega), if_neg (by omega), if_neg (by omega)]
                  exact n3 j (by omega)
          · refine ⟨-1, w, w, ?_, ?_, hI⟩
            · rw [f_X5_sees, f_X5_sees_b0, isTold_yes t1 hn hd, jj_cal, if_neg jj_ne10, if_neg g1, if_neg g2, if_neg g3, if_neg g4]
            · rw [f_X6_sees, f_X6_sees_b0, isOne_yes t0 hn hd, jj_cal, if_neg jj_ne10, in_eq, if_pos ⟨g1, g2⟩, jj_cal, if_neg jj_ne10, in_eq, if_neg (fun q => q.2 (jj_nle_lt g4)), jj_cal, if_pos rfl]
  · refine ⟨-1, w, w, ?_, ?_, hI⟩
    · rw [f_X5_sees, f_X5_sees_b0, isTold_no t1 hn hx, jj_cal, if_pos rfl]
    · rw [f_X6_sees, f_X6_sees_b0, isOne_no t0 hn hx, jj_cal, if_pos rfl]
/-! rate: what the methods of the class add up to -/
theorem lset_lset (w : Wd) (k : Nat) (a b : Int64) : lset (lset w k a) k b = lset w k b := by
  refine Prod.ext rfl ?_
  funext i
  show (if i = k then b else if i = k then a else w.2 i) = if i = k then b else w.2 i
  split <;> rfl
theorem lget_lset (w : Wd) (k : Nat) (a : Int64) : lget (lset w k a) k = a := if_pos rfl
theorem lset_1 (w : Wd) (k : Nat) (a : Int64) : (lset w k a).1 = w.1 := rfl
theorem lgl (w : Wd) (k : Nat) (a b : Int64) : lset (lset w k a) k (lget (lset w k a) k + b) = lset w k (a + b) := by rw [lget_lset, lset_lset]
theorem dough_eq {d : Nat} (hd : d < 6) (w : Wd) : f_X5_dough (nI d) w = some (w.1 16 d, lset w 0 (lget w 0 + 1)) := by
  rw [f_X5_dough, f_X5_dough_b0, jj_bnd, jj_grd (jj_i6 hd), jj_tn (show d < 2 ^ 31 by omega)]
  rfl
theorem suet_eq {d : Nat} (hd : d < 6) (w : Wd) : f_X5_suet (nI d) w = some (w.1 16 d + w.1 5 d, lset w 0 (lget w 0 + 10 + 1)) := by
  rw [f_X5_suet, f_X5_suet_b0, jj_bnd, dough_eq hd, jj_cal, jj_grd (jj_i6 hd), jj_tn (show d < 2 ^ 31 by omega), lgl]
  rfl
theorem parsley_eq {d s : Nat} (hd : d < 6) {w : Wd} (hs : s < 64) (h : w.1 17 d = nI s) : f_X5_parsley (nI d) w = some (w.1 16 d - nI (popc s), lset w 0 (lget w 0 + 100 + 1)) := by
  rw [f_X5_parsley, f_X5_parsley_b0, jj_bnd, dough_eq hd, jj_cal, jj_grd (jj_i6 hd), jj_tn (show d < 2 ^ 31 by omega), lgl, wget_def, show (lset w 0 (lget w 0 + 100 + 1)).1 17 d = nI s from h, bc_eq hs, jj_cal]
  rfl
theorem leader_eq {d : Nat} (hd : d < 6) (w : Wd) : f_X5_leader (nI d) w = some (2 * (w.1 16 d + w.1 5 d), lset w 0 (lget w 0 + 1000 + 10 + 1)) := by
  rw [f_X5_leader, f_X5_leader_b0, jj_bnd, suet_eq hd, jj_cal, lget_lset, lset_lset]
  rfl
theorem carrot_eq {d s : Nat} (hd : d < 6) {w : Wd} (hs : s < 64) (h : w.1 17 d = nI s) : f_X5_carrot (nI d) w = some (w.1 16 d - nI (popc s) + nI d, lset w 0 (lget w 0 + 10000 + 100 + 1)) := by
  rw [f_X5_carrot, f_X5_carrot_b0, jj_bnd, parsley_eq hd hs (w := lset w 0 (lget w 0 + 10000)) h, jj_cal, lget_lset, lset_lset]
  rfl
theorem bay_eq {d : Nat} (hd : d < 6) (w : Wd) : f_X5_bay (nI d) w = some (w.1 16 d + w.1 14 1, lset w 0 (lget w 0 + 100000 + 1)) := by
  rw [f_X5_bay, f_X5_bay_b0, jj_bnd, dough_eq hd, jj_cal, lgl]
  rfl
theorem Iv_l {n : Nat} {w : Wd} (hn : n ≤ 6) (hT : IvT n w) (hS : IvS n w) (hP : IvP n w) (hG : IvG n w) (hN : IvN w) (hX : IvX w) (hE : IvE w) (a b : Int64) (h : a = b) : Iv (lset (lset w 0 a) 92 b) :=
  ⟨n, hn, IvT_cong hT (fun _ _ => rfl) (fun _ _ => rfl), IvS_cong hS (fun _ _ _ => rfl) rfl, IvP_cong hP rfl rfl rfl (fun _ _ _ => rfl) rfl, IvG_cong hG rfl (fun _ _ _ => rfl) rfl rfl, IvN_cong hN rfl rfl (fun _ _ => rfl), IvX_cong hX rfl rfl rfl rfl, ⟨h, hE.2⟩⟩
theorem rate_no {n : Nat} {x y : Int32} {w : Wd} (hn : n ≤ 6) (t0 : w.1 92 0 = nI n) (h : (x < 0 ∨ 5 < x) ∨ (y < 0 ∨ nI n ≤ y)) : f_X6_rate x y w = some (-1000000, w) := by
  rw [f_X6_rate, f_X6_rate_b0, in_eq]
  by_cases g : ¬ x < 0 ∧ ¬ 5 < x
  · rw [if_pos g, jj_cal, if_neg jj_ne10, isOne_no t0 hn (by
      rcases h with (q | q) | q
      · exact absurd q g.1
      · exact absurd q g.2
      · exact q), jj_cal, if_pos rfl, f_X6_rate_b17]
  · rw [if_neg g, jj_cal, if_pos rfl, f_X6_rate_b17]
theorem op_rate : Op2 Iv f_X5_rate f_X6_rate := by
  intro x a w hI
  obtain ⟨n, hn, hT, hS, hP, hG, hN, hX, hE⟩ := id hI
  obtain ⟨t0, t1, -, -, -, -, -, -, tA⟩ := id hT
  obtain ⟨⟨s0, s1, sA, sB⟩, m, h, i0, im, i1, ih, iA⟩ := id hS
  rcases one_cases a hn with ⟨d, hd, rfl⟩ | hx
  · obtain ⟨s, hs, hs2⟩ := (iA d hd).2.2.1
    have hs6 := lt64 hn hs
    have h17 : w.1 17 d = nI s := by rw [← hs2]; exact (sA d hd).2.2.1
    have h16 : w.1 16 d = w.1 96 (8 + d) := (sA d hd).2.1
    have h5 : w.1 5 d = w.1 93 d := (tA d hd).1
    have hd6 : d < 6 := by omega
    have mid : ∀ k : Nat, k ≤ 5 → x = nI k → ∀ w1 : Wd, w1.1 = w.1 → f_X6_rate x (nI d) w1 = if x = 1 then (some (w.1 96 (8 + d) + w.1 93 d, lset w1 92 (lget w1 92 + 11))) else if x = 2 then (some (w.1 96 (8 + d) - nI (popc s), lset w1 92 (lget w1 92 + 101))) else if x = 3 then (some (2 * (w.1 96 (8 + d) + w.1 93 d), lset w1 92 (lget w1 92 + 1011))) else if x = 4 then (some (w.1 96 (8 + d) - nI (popc s) + nI d, lset w1 92 (lget w1 92 + 10101))) else if x = 5 then (some (w.1 96 (8 + d) + w.1 96 1, lset w1 92 (lget w1 92 + 100001))) else (some (w.1 96 (8 + d), lset w1 92 (lget w1 92 + 1))) := by
      intro k hk hxk w1 hw1
      have g : ¬ x < 0 ∧ ¬ 5 < x := by
        rw [hxk]
        exact ⟨nI_pos (by omega), jj_le_nlt ((nI_leI (a := k) (b := 5) (by omega) (by decide)).mpr hk)⟩
      rw [f_X6_rate, f_X6_rate_b0, in_eq, if_pos g, jj_cal, if_neg jj_ne10, isOne_yes (w := w1) (by rw [hw1]; exact t0) hn hd, jj_cal, if_neg jj_ne10, jj_8, jj_14, jj_grd (jj_i26 (show 8 + d < 26 by omega)), jj_bnd, jj_grd (jj_i6 hd6), jj_bnd, jj_grd (jj_i26 (show 14 + d < 26 by omega)), jj_tn (show 8 + d < 2 ^ 31 by omega), jj_tn (show 14 + d < 2 ^ 31 by omega), jj_tn (show d < 2 ^ 31 by omega), wget_def, wget_def, wget_def, hw1, hs2, bits_eq hs6, jj_cal, jj_bnd]
      simp only [jj_bnd, wget_def, lset_1, hw1]
    have main : ∀ (k : Nat) (c : Int64) (r : Int32) (w1 : Wd), k ≤ 5 → x = nI k → f_X5_rate x (nI d) w = some (r, lset w 0 c) → (∀ w1 : Wd, w1.1 = w.1 → ∃ e, f_X6_rate x (nI d) w1 = some (r, lset w1 92 (lget w1 92 + e)) ∧ lget w 0 + e = c) → ∃ r w1 w2, f_X5_rate x (nI d) w = some (r, w1) ∧ f_X6_rate x (nI d) w1 = some (r, w2) ∧ Iv w2 := by
      intro k c r _ hk hxk h1 h2
      obtain ⟨e, h3, h4⟩ := h2 (lset w 0 c) rfl
      refine ⟨r, lset w 0 c, _, h1, h3, Iv_l hn hT hS hP hG hN hX hE _ _ ?_⟩
      show c = w.2 92 + e
      rw [← hE.1, ← h4]
      rfl
    have fst : f_X5_rate x (nI d) w = (if x = 0 then (cal (f_X5_dough (nI d) w) (fun r_6 w_5 => some (r_6, w_5))) else if x = 1 then (cal (f_X5_suet (nI d) w) (fun r_10 w_9 => some (r_10, w_9))) else if x = 2 then (cal (f_X5_parsley (nI d) w) (fun r_14 w_13 => some (r_14, w_13))) else if x = 3 then (cal (f_X5_leader (nI d) w) (fun r_18 w_17 => some (r_18, w_17))) else if x = 4 then (cal (f_X5_carrot (nI d) w) (fun r_22 w_21 => some (r_22, w_21))) else if x = 5 then (cal (f_X5_bay (nI d) w) (fun r_26 w_25 => some (r_26, w_25))) else (some ((-1000000 : Int32), w))) := by
      rw [f_X5_rate, f_X5_rate_b0, isTold_yes t1 hn hd, jj_cal, if_neg jj_ne10]
    by_cases x0 : x = 0
    · refine main 0 (lget w 0 + 1) (w.1 96 (8 + d)) w (by omega) x0 ?_ (fun w1 hw1 => ⟨1, ?_, rfl⟩)
      · rw [fst, if_pos x0, dough_eq hd6, jj_cal, h16]
      · rw [mid 0 (by omega) x0 w1 hw1, x0]; rfl
    by_cases x1 : x = 1
    · refine main 1 (lget w 0 + 10 + 1) (w.1 96 (8 + d) + w.1 93 d) w (by omega) x1 ?_ (fun w1 hw1 => ⟨11, ?_, by rw [Int64.add_assoc]; rfl⟩)
      · rw [fst, if_neg x0, if_pos x1, suet_eq hd6, jj_cal, h16, h5]
      · rw [mid 1 (by omega) x1 w1 hw1, if_pos x1]
    by_cases x2 : x = 2
    · refine main 2 (lget w 0 + 100 + 1) (w.1 96 (8 + d) - nI (popc s)) w (by omega) x2 ?_ (fun w1 hw1 => ⟨101, ?_, by rw [Int64.add_assoc]; rfl⟩)
      · rw [fst, if_neg x0, if_neg x1, if_pos x2, parsley_eq hd6 hs6 h17, jj_cal, h16]
      · rw [mid 2 (by omega) x2 w1 hw1, if_neg x1, if_pos x2]
    by_cases x3 : x = 3
    · refine main 3 (lget w 0 + 1000 + 10 + 1) (2 * (w.1 96 (8 + d) + w.1 93 d)) w (by omega) x3 ?_ (fun w1 hw1 => ⟨1011, ?_, by rw [Int64.add_assoc, Int64.add_assoc]; rfl⟩)
      · rw [fst, if_neg x0, if_neg x1, if_neg x2, if_pos x3, leader_eq hd6, jj_cal, h16, h5]
      · rw [mid 3 (by omega) x3 w1 hw1, if_neg x1, if_neg x2, if_pos x3]
    by_cases x4 : x = 4
    · refine main 4 (lget w 0 + 10000 + 100 + 1) (w.1 96 (8 + d) - nI (popc s) + nI d) w (by omega) x4 ?_ (fun w1 hw1 => ⟨10101, ?_, by rw [Int64.add_assoc, Int64.add_assoc]; rfl⟩)
      · rw [fst, if_neg x0, if_neg x1, if_neg x2, if_neg x3, if_pos x4, carrot_eq hd6 hs6 h17, jj_cal, h16]
      · rw [mid 4 (by omega) x4 w1 hw1, if_neg x1, if_neg x2, if_neg x3, if_pos x4]
    by_cases x5 : x = 5
    · refine main 5 (lget w 0 + 100000 + 1) (w.1 96 (8 + d) + w.1 96 1) w (by omega) x5 ?_ (fun w1 hw1 => ⟨100001, ?_, by rw [Int64.add_assoc]; rfl⟩)
      · rw [fst, if_neg x0, if_neg x1, if_neg x2, if_neg x3, if_neg x4, if_pos x5, bay_eq hd6, jj_cal, h16, s1]
      · rw [mid 5 (by omega) x5 w1 hw1, if_neg x1, if_neg x2, if_neg x3, if_neg x4, if_pos x5]
    refine ⟨-1000000, w, w, ?_, rate_no hn t0 (Or.inl ?_), hI⟩
    · rw [fst, if_neg x0, if_neg x1, if_neg x2, if_neg x3, if_neg x4, if_neg x5]
    · by_cases q1 : x < 0
      · exact Or.inl q1
      · refine Or.inr (Classical.byContradiction fun q2 => ?_)
        obtain ⟨k, hk, rfl⟩ := nI_of q1
        have hk5 : k ≤ 5 := (nI_leI (a := k) (b := 5) hk (by decide)).mp (jj_nlt_le q2)
        rcases (show k = 0 ∨ k = 1 ∨ k = 2 ∨ k = 3 ∨ k = 4 ∨ k = 5 by omega) with rfl | rfl | rfl | rfl | rfl | rfl
        · exact x0 rfl
        · exact x1 rfl
        · exact x2 rfl
        · exact x3 rfl
        · exact x4 rfl
        · exact x5 rfl
  · refine ⟨-1000000, w, w, ?_, rate_no hn t0 (Or.inr hx), hI⟩
    rw [f_X5_rate, f_X5_rate_b0, isTold_no t1 hn hx, jj_cal, if_pos rfl]
