/-! PURE: the text tells all anew -/
theorem copy49 (u : Wd) : ∃ w', f_X2_copy 4 9 u = some ((), w') ∧ w'.2 = u.2 ∧ (∀ a j, a < 4 ∨ 8 < a → w'.1 a j = u.1 a j) ∧ (∀ j, j ≤ 3 → w'.1 4 j = u.1 9 j) ∧ ∀ d, d < 6 → w'.1 5 d = u.1 10 d ∧ w'.1 6 d = u.1 11 d ∧ w'.1 7 d = u.1 12 d ∧ w'.1 8 d = u.1 13 d := by
  obtain ⟨x1, hx1⟩ : ∃ x, x = wset u 4 0 (u.1 9 0) := ⟨_, rfl⟩
  obtain ⟨x2, hx2⟩ : ∃ x, x = wset x1 4 1 (x1.1 9 1) := ⟨_, rfl⟩
  obtain ⟨x3, hx3⟩ : ∃ x, x = wset x2 4 2 (x2.1 9 2) := ⟨_, rfl⟩
  obtain ⟨x4, hx4⟩ : ∃ x, x = wset x3 4 3 (x3.1 9 3) := ⟨_, rfl⟩
  obtain ⟨x5, hx5⟩ : ∃ x, x = wcpy x4 (9 + 1) (4 + 1) 6 := ⟨_, rfl⟩
  obtain ⟨x6, hx6⟩ : ∃ x, x = wcpy x5 (9 + 2) (4 + 2) 6 := ⟨_, rfl⟩
  obtain ⟨x7, hx7⟩ : ∃ x, x = wcpy x6 (9 + 3) (4 + 3) 6 := ⟨_, rfl⟩
  obtain ⟨x8, hx8⟩ : ∃ x, x = wcpy x7 (9 + 4) (4 + 4) 6 := ⟨_, rfl⟩
  have v1 : ∀ b i, x1.1 b i = if b = 4 ∧ i = 0 then u.1 9 0 else u.1 b i := fun b i => by rw [hx1]; rfl
  have v2 : ∀ b i, x2.1 b i = if b = 4 ∧ i = 1 then x1.1 9 1 else x1.1 b i := fun b i => by rw [hx2]; rfl
  have v3 : ∀ b i, x3.1 b i = if b = 4 ∧ i = 2 then x2.1 9 2 else x2.1 b i := fun b i => by rw [hx3]; rfl
  have v4 : ∀ b i, x4.1 b i = if b = 4 ∧ i = 3 then x3.1 9 3 else x3.1 b i := fun b i => by rw [hx4]; rfl
  have v5 : ∀ b i, x5.1 b i = if b = 5 ∧ i < 6 then x4.1 10 i else x4.1 b i := fun b i => by rw [hx5]; rfl
  have v6 : ∀ b i, x6.1 b i = if b = 6 ∧ i < 6 then x5.1 11 i else x5.1 b i := fun b i => by rw [hx6]; rfl
  have v7 : ∀ b i, x7.1 b i = if b = 7 ∧ i < 6 then x6.1 12 i else x6.1 b i := fun b i => by rw [hx7]; rfl
  have v8 : ∀ b i, x8.1 b i = if b = 8 ∧ i < 6 then x7.1 13 i else x7.1 b i := fun b i => by rw [hx8]; rfl
  have o1 : ∀ b i, b ≠ 4 → x1.1 b i = u.1 b i := fun b i h => by rw [v1, if_neg (by omega)]
  have o2 : ∀ b i, b ≠ 4 → x2.1 b i = u.1 b i := fun b i h => by rw [v2, if_neg (by omega), o1 b i h]
  have o3 : ∀ b i, b ≠ 4 → x3.1 b i = u.1 b i := fun b i h => by rw [v3, if_neg (by omega), o2 b i h]
  have o4 : ∀ b i, b ≠ 4 → x4.1 b i = u.1 b i := fun b i h => by rw [v4, if_neg (by omega), o3 b i h]
  have o5 : ∀ b i, b ≠ 5 → x5.1 b i = x4.1 b i := fun b i h => by rw [v5, if_neg (by omega)]
  have o6 : ∀ b i, b ≠ 6 → x6.1 b i = x5.1 b i := fun b i h => by rw [v6, if_neg (by omega)]
  have o7 : ∀ b i, b ≠ 7 → x7.1 b i = x6.1 b i := fun b i h => by rw [v7, if_neg (by omega)]
  have o8 : ∀ b i, b ≠ 8 → x8.1 b i = x7.1 b i := fun b i h => by rw [v8, if_neg (by omega)]
  have d4 : ∀ i, x8.1 4 i = x4.1 4 i := fun i => by rw [o8 4 i (by omega), o7 4 i (by omega), o6 4 i (by omega), o5 4 i (by omega)]
  refine ⟨x8, ?_, ?_, fun a j h => ?_, fun j hj => ?_, fun d hd => ⟨?_, ?_, ?_, ?_⟩⟩
  · rw [f_X2_copy, f_X2_copy_b0, jj_bnd, wget_def u 9 0, ← hx1, jj_bnd, wget_def x1 9 1, ← hx2, jj_bnd, wget_def x2 9 2, ← hx3, jj_bnd, wget_def x3 9 3, ← hx4, jj_bnd, ← hx5, jj_bnd, ← hx6, jj_bnd, ← hx7, jj_bnd, ← hx8]
  · rw [hx8, hx7, hx6, hx5, hx4, hx3, hx2, hx1]; rfl
  · rw [o8 a j (by omega), o7 a j (by omega), o6 a j (by omega), o5 a j (by omega), o4 a j (by omega)]
  · rw [d4]
    have h4 : j = 0 ∨ j = 1 ∨ j = 2 ∨ j = 3 := by omega
    rcases h4 with rfl | rfl | rfl | rfl
    · rw [v4, if_neg (by omega), v3, if_neg (by omega), v2, if_neg (by omega), v1, if_pos ⟨rfl, rfl⟩]
    · rw [v4, if_neg (by omega), v3, if_neg (by omega), v2, if_pos ⟨rfl, rfl⟩, o1 9 1 (by omega)]
    · rw [v4, if_neg (by omega), v3, if_pos ⟨rfl, rfl⟩, o2 9 2 (by omega)]
    · rw [v4, if_pos ⟨rfl, rfl⟩, o3 9 3 (by omega)]
  · rw [o8 5 d (by omega), o7 5 d (by omega), o6 5 d (by omega), v5, if_pos ⟨rfl, hd⟩, o4 10 d (by omega)]
  · rw [o8 6 d (by omega), o7 6 d (by omega), v6, if_pos ⟨rfl, hd⟩, o5 11 d (by omega), o4 11 d (by omega)]
  · rw [o8 7 d (by omega), v7, if_pos ⟨rfl, hd⟩, o6 12 d (by omega), o5 12 d (by omega), o4 12 d (by omega)]
  · rw [v8, if_pos ⟨rfl, hd⟩, o7 13 d (by omega), o6 13 d (by omega), o5 13 d (by omega), o4 13 d (by omega)]
theorem pot_c {w u' : Wd} {j : Nat} (h : f_X1_readInto 9 w = some (nI j, u')) (hj : j ≤ 121) : ∃ w1, f_X5_pot w = some (nI j, w1) ∧ w1.2 = u'.2 ∧
    (∀ a i, (a < 4 ∨ (8 < a ∧ a < 14) ∨ 18 < a) → ¬ (a = 1 ∧ i = 2) → ¬ (a = 24 ∧ i = 2) → ¬ (a = 0 ∧ i = 8) → ¬ (a = 86 ∧ i = 3) → w1.1 a i = u'.1 a i) ∧ (∀ i, i ≤ 3 → w1.1 4 i = u'.1 9 i) ∧ (∀ d, d < 6 → w1.1 5 d = u'.1 10 d ∧ w1.1 7 d = u'.1 12 d ∧ w1.1 8 d = u'.1 13 d) ∧
    w1.1 14 0 = 0 ∧ w1.1 14 1 = u'.1 9 1 ∧ (∀ d, d < 6 → w1.1 15 d = -9 ∧ w1.1 16 d = u'.1 11 d ∧ w1.1 17 d = nI (2 ^ d) ∧ w1.1 18 d = -9) ∧ w1.1 1 2 = 0 ∧ w1.1 24 2 = 0 ∧ w1.1 0 8 = 0 ∧ w1.1 86 3 = 0 := by
  obtain ⟨c, c1, c2, c3, c4, c5⟩ := copy49 u'
  obtain ⟨b, b1, b2, b3, b4, b5, b6⟩ := begin_eq c
  obtain ⟨x, hx⟩ : ∃ x, x = wset (wset (wset (wset b 1 2 0) 24 2 0) 0 8 0) 86 3 0 := ⟨_, rfl⟩
  have e : ∀ a i, x.1 a i = if a = 86 ∧ i = 3 then 0 else if a = 0 ∧ i = 8 then 0 else if a = 24 ∧ i = 2 then 0 else if a = 1 ∧ i = 2 then 0 else b.1 a i := fun a i => by rw [hx]; rfl
  have en : ∀ a i, ¬ (a = 1 ∧ i = 2) → ¬ (a = 24 ∧ i = 2) → ¬ (a = 0 ∧ i = 8) → ¬ (a = 86 ∧ i = 3) → x.1 a i = b.1 a i := fun a i h1 h2 h3 h4 => by rw [e, if_neg h4, if_neg h3, if_neg h2, if_neg h1]
  have bo : ∀ a i, a < 14 ∨ 18 < a → b.1 a i = c.1 a i := fun a i h => congrFun (b3 a h) i
  refine ⟨x, ?_, ?_, fun a i h1 h2 h3 h4 h5 => ?_, fun i hi => ?_, fun d hd => ?_, ?_, ?_, fun d hd => ?_, ?_, ?_, ?_, ?_⟩
  · rw [f_X5_pot, f_X5_pot_b0, h, jj_cal, jj_bnd, if_pos (nI_pos' (by omega)), c1, jj_cal, b1, jj_cal, jj_bnd, jj_bnd, jj_bnd, jj_bnd, ← hx]
  · rw [hx, wset_2, wset_2, wset_2, wset_2, b2, c2]
  · rw [en a i h2 h3 h4 h5, bo a i (by omega), c3 a i (by omega)]
  · rw [en 4 i (by omega) (by omega) (by omega) (by omega), bo 4 i (by omega), c4 i hi]
  · obtain ⟨q1, q2, q3, q4⟩ := c5 d hd
    rw [en 5 d (by omega) (by omega) (by omega) (by omega), bo 5 d (by omega), en 7 d (by omega) (by omega) (by omega) (by omega), bo 7 d (by omega), en 8 d (by omega) (by omega) (by omega) (by omega), bo 8 d (by omega)]
    exact ⟨q1, q3, q4⟩
  · rw [en 14 0 (by omega) (by omega) (by omega) (by omega), b4]
  · rw [en 14 1 (by omega) (by omega) (by omega) (by omega), b5, c4 1 (by omega)]
  · obtain ⟨q1, q2, q3, q4⟩ := b6 d hd
    rw [en 15 d (by omega) (by omega) (by omega) (by omega), en 16 d (by omega) (by omega) (by omega) (by omega), en 17 d (by omega) (by omega) (by omega) (by omega), en 18 d (by omega) (by omega) (by omega) (by omega)]
    exact ⟨q1, q2.trans (c5 d hd).2.1, q3, q4⟩
  · rw [e, if_neg (by omega), if_neg (by omega), if_neg (by omega), if_pos ⟨rfl, rfl⟩]
  · rw [e, if_neg (by omega), if_neg (by omega), if_pos ⟨rfl, rfl⟩]
  · rw [e, if_neg (by omega), if_pos ⟨rfl, rfl⟩]
  · rw [e, if_pos ⟨rfl, rfl⟩]
theorem neg10_all : ∀ s, s < 121 → ¬ (0 : Int32) ≤ (-10 : Int32) - nI s := by decide +kernel
/-- what was said, or what holds at first -/
theorem said {f x y k : Int32} {lo hi : Nat} (hhi : hi < 2 ^ 31) (hk : ∃ a, lo ≤ a ∧ a ≤ hi ∧ k = nI a) (h : (f = 0 ∧ x = -1 ∧ y = k) ∨ (f = 1 ∧ ∃ a, lo ≤ a ∧ a ≤ hi ∧ x = nI a ∧ y = nI a)) : (0 ≤ x ∧ y = x ∨ ¬ 0 ≤ x ∧ y = k) ∧ ∃ a, lo ≤ a ∧ a ≤ hi ∧ y = nI a := by
  rcases h with ⟨-, rfl, rfl⟩ | ⟨-, a, a1, a2, rfl, rfl⟩
  · exact ⟨Or.inr ⟨by decide, rfl⟩, hk⟩
  · exact ⟨Or.inl ⟨nI_pos' (by omega), rfl⟩, a, a1, a2, rfl⟩
theorem op_pot : Op0 Iv f_X5_pot f_X6_pot := by
  intro w hI
  obtain ⟨n0, hn0, hT, hS, hP, hG, hN, hX, hE⟩ := id hI
  obtain ⟨tn, ht, x1, x2, x3⟩ := hX
  obtain ⟨L, hL⟩ : ∃ L : Nat → Nat, L = fun j => (w.1 101 j).toNatClampNeg := ⟨_, rfl⟩
  have hLj : ∀ j, j < tn → w.1 101 j = nI (L j) ∧ L j ≤ 255 := fun j hj => by
    obtain ⟨-, c, c1, c2⟩ := x3 j hj
    have e : L j = c := by
      rw [hL]
      show (w.1 101 j).toNatClampNeg = c
      rw [c2, jj_tn (by omega)]
    rw [e]
    exact ⟨c2, c1⟩
  have hC : TxC tn L w := ⟨ht, x1, fun j hj => ⟨(x3 j hj).1.trans (hLj j hj).1, (hLj j hj).2⟩⟩
  have hM : TxM tn L w := ⟨ht, x2, hLj⟩
  have key : ∀ v, TxM tn L v → Rd tn w v (f_X1_readInto 9 w) (f_X6_pot v) := fun v hv => read2 hC hv
  obtain ⟨u', v0, fu, -, h⟩ := key w hM
  rcases h with ⟨s', hs', a1, -⟩ | ⟨j, n, hj, a1, -, -, -, -⟩
  · have hneg := neg10_all s' (by omega)
    have hpot : f_X5_pot w = some ((-10 : Int32) - nI s', u') := by rw [f_X5_pot, f_X5_pot_b0, a1, jj_cal, jj_bnd, if_neg hneg]
    obtain ⟨u2, v2, fu2, fv2, h2⟩ := key u' (TxM_cong hM (fu.2 92 16 (by omega) (by omega) (by omega)) (fun j => fu.2 101 j (by omega) (by omega) (by omega)))
    have fo : ∀ a j, ¬ (a = 92 ∧ 17 ≤ j ∧ j ≤ 27) → a ≠ 102 → ¬ (a = 1 ∧ 3 ≤ j ∧ j ≤ 9) → a ≠ 3 → ¬ (9 ≤ a ∧ a ≤ 13) → v2.1 a j = w.1 a j := fun a j z1 z2 z3 z4 z5 => (fv2.2 a j z1 z2).trans (fu.2 a j z3 z4 z5)
    rcases h2 with ⟨s2, hs2, b1, b2⟩ | ⟨j, n', hj, b1, -⟩
    · obtain ⟨e1, -⟩ := rt (a1.symm.trans b1)
      refine ⟨(-10 : Int32) - nI s', u', v2, hpot, by rw [b2, e1], Iv_same ⟨fv2.1.trans fu.1, fun a ha => funext fun j => fo a j (by omega) (by omega) (by omega) (by omega) (by omega), fo 1 2 (by omega) (by omega) (by omega) (by omega) (by omega), fun j hj => fo 92 j (by omega) (by omega) (by omega) (by omega) (by omega), fo 90 0 (by omega) (by omega) (by omega) (by omega) (by omega)⟩ hI⟩
    · obtain ⟨e1, -⟩ := rt (a1.symm.trans b1)
      exact absurd (e1 ▸ nI_pos' (by omega)) hneg
  · obtain ⟨w1, p1, p2, p3, p4, p5, p6, p7, p8, p9, p10, p11, p12⟩ := pot_c a1 hj
    obtain ⟨u2, v2, fu2, fv2, h2⟩ := key w1 (TxM_cong hM ((p3 92 16 (by omega) (by omega) (by omega) (by omega) (by omega)).trans (fu.2 92 16 (by omega) (by omega) (by omega))) (fun j => (p3 101 j (by omega) (by omega) (by omega) (by omega) (by omega)).trans (fu.2 101 j (by omega) (by omega) (by omega))))
    rcases h2 with ⟨s2, hs2, b1, b2⟩ | ⟨j2, n2, hj2, b1, b2, b3, b4, b5⟩
    · obtain ⟨e1, -⟩ := rt (a1.symm.trans b1)
      exact absurd (e1 ▸ nI_pos' (by omega) : (0 : Int32) ≤ (-10 : Int32) - nI s2) (neg10_all s2 (by omega))
    · obtain ⟨e1, e2⟩ := rt (a1.symm.trans b1)
      subst e2
      obtain ⟨t1, t2, t3, t4, t5, t6, t7⟩ := b5
      obtain ⟨g1, hh, -, hh2, hh3⟩ := said (lo := 0) (hi := 9) (k := 3) (by decide) ⟨3, by omega, by omega, rfl⟩ (t4.imp id (fun ⟨q, a, q1, q2, q3⟩ => ⟨q, a, Nat.zero_le a, q1, q2, q3⟩))
      obtain ⟨g2, gg, -, gg2, gg3⟩ := said (lo := 0) (hi := 9) (k := 1) (by decide) ⟨1, by omega, by omega, rfl⟩ (t5.imp id (fun ⟨q, a, q1, q2, q3⟩ => ⟨q, a, Nat.zero_le a, q1, q2, q3⟩))
      obtain ⟨g3, rr, rr1, rr2, rr3⟩ := said (lo := 9) (hi := 40) (k := 20) (by decide) ⟨20, by omega, by omega, rfl⟩ t6
      have sb := settles_b g1 g2 g3
      obtain ⟨y, hy⟩ : ∃ y, y = stW v2 (u2.1 9 1) (u2.1 9 2) (u2.1 9 3) := ⟨_, rfl⟩
      have y0 : y.1 92 0 = v2.1 92 23 := by rw [hy]; rfl
      have y4 : y.1 92 4 = u2.1 9 1 := by rw [hy]; rfl
      have y5 : y.1 92 5 = u2.1 9 2 := by rw [hy]; rfl
      have y6 : y.1 92 6 = u2.1 9 3 := by rw [hy]; rfl
      have y60 : y.1 96 0 = 0 := by rw [hy]; rfl
      have y61 : y.1 96 1 = u2.1 9 1 := by rw [hy]; rfl
      have yo : ∀ a j, ¬ (a = 92 ∧ (j = 0 ∨ j = 4 ∨ j = 5 ∨ j = 6)) → ¬ (a = 96 ∧ j < 2) → y.1 a j = v2.1 a j := fun a j z1 z2 => by
        rw [hy, stW, wset_v, if_neg (by omega), wset_v, if_neg (by omega), wset_v, if_neg (by omega), wset_v, if_neg (by omega), wset_v, if_neg (by omega), wset_v, if_neg (by omega)]
      have y2 : y.2 = v2.2 := by rw [hy]; rfl
      rw [← hy] at sb
      obtain ⟨v3, s1, s2, s3, s4, s5, s6, s7, s8, s9, s10, s11⟩ := sett_l 6 0 300 y rfl (by decide)
      have lo : ∀ a j, a < 92 → v3.1 a j = w1.1 a j := fun a j z => by rw [s3 a j (by omega) (by omega) (by omega), yo a j (by omega) (by omega), fv2.2 a j (by omega) (by omega)]
      have lw : ∀ a j, (a = 24 ∧ j = 1) ∨ a = 90 → v3.1 a j = w.1 a j := fun a j z => by rw [lo a j (by omega), p3 a j (by omega) (by omega) (by omega) (by omega) (by omega), fu.2 a j (by omega) (by omega) (by omega)]
      have z2 : v3.2 = w.2 := by rw [s2, y2, fv2.1, p2, fu.1]
      have r0 : v3.1 92 0 = nI n2 := by rw [s3 92 0 (by omega) (by omega) (by omega), y0, t3]
      have r4 : v3.1 92 4 = u2.1 9 1 := by rw [s3 92 4 (by omega) (by omega) (by omega), y4]
      have r5 : v3.1 92 5 = u2.1 9 2 := by rw [s3 92 5 (by omega) (by omega) (by omega), y5]
      have r6 : v3.1 92 6 = u2.1 9 3 := by rw [s3 92 6 (by omega) (by omega) (by omega), y6]
      have r60 : v3.1 96 0 = 0 := by rw [s5 0 (by omega), y60]
      have r61 : v3.1 96 1 = u2.1 9 1 := by rw [s5 1 (by omega), y61]
      obtain ⟨kn, nx, -, q2, -, -, q5, -⟩ := hP
      refine ⟨nI j, w1, v3, p1, ?_, n2, t1, ⟨r0, ?_, ?_, ?_, ?_, ⟨hh, hh2, r4.trans hh3⟩, ⟨gg, gg2, r5.trans gg3⟩, ⟨rr, rr1, rr2, r6.trans rr3⟩, fun d hd => ?_⟩, ⟨⟨?_, ?_, fun d hd => ?_, fun d _ hd => ?_⟩, 0, hh, r60, by omega, r61.trans hh3, hh2, fun d hd => ?_⟩,
        ⟨0, nx, by omega, q2, ?_, s7, (lw 24 1 (by omega)).trans q5, fun j hj => absurd hj (Nat.not_lt_zero j)⟩, ⟨0, by omega, ?_, fun i hi => ⟨?_, fun q => ?_⟩⟩, ⟨0, by omega, ?_, s8, fun j hj => absurd hj (Nat.not_lt_zero j)⟩, ⟨0, by omega, ?_, s9, fun j hj => absurd hj (Nat.not_lt_zero j)⟩, ?_, ?_⟩
      · rw [b2, f_X6_pot_b70, wget_def v2 92 21, b3, if_pos (show (0 : Int32) = 0 from rfl), sb, s1, jj_cal, wget_def v3 92 22, s3 92 22 (by omega) (by omega) (by omega), yo 92 22 (by omega) (by omega), b4, e1]
      · rw [lo 4 0 (by omega), p4 0 (by omega), t2]
      · rw [lo 4 1 (by omega), p4 1 (by omega), r4]
      · rw [lo 4 2 (by omega), p4 2 (by omega), r5]
      · rw [lo 4 3 (by omega), p4 3 (by omega), r6]
      · obtain ⟨⟨a, a1, a2, a3⟩, -, ⟨c, c1, c2, c3⟩, ⟨k, k1, k2, k3⟩⟩ := t7 d hd
        obtain ⟨m1, m2, m3, -⟩ := s6 d (by omega) (by omega)
        obtain ⟨l1, l2, l3⟩ := p5 d (by omega)
        rw [lo 5 d (by omega), lo 7 d (by omega), lo 8 d (by omega), l1, l2, l3, m1, m2, m3, yo 102 (4 * d) (by omega) (by omega), yo 102 (4 * d + 2) (by omega) (by omega), yo 102 (4 * d + 3) (by omega) (by omega), a2, a3, c2, c3, k2, k3]
        exact ⟨rfl, rfl, rfl, ⟨a, a1, rfl⟩, ⟨c, c1, rfl⟩, k, k1, rfl⟩
      · rw [lo 14 0 (by omega), p6, r60]
      · rw [lo 14 1 (by omega), p7, r61]
      · obtain ⟨-, ⟨a, a0, a1, a2, a3⟩, -⟩ := t7 d hd
        obtain ⟨-, -, -, m4, m5, m6, m7⟩ := s6 d (by omega) (by omega)
        obtain ⟨l1, l2, l3, l4⟩ := p8 d (by omega)
        rw [m4, m5, m6, m7, yo 102 (4 * d + 1) (by omega) (by omega), a3]
        exact ⟨(lo 15 d (by omega)).trans l1, ((lo 16 d (by omega)).trans l2).trans a2, (lo 17 d (by omega)).trans l3, (lo 18 d (by omega)).trans l4⟩
      · obtain ⟨l1, l2, l3, l4⟩ := p8 d hd
        exact ⟨(lo 15 d (by omega)).trans l1, (lo 18 d (by omega)).trans l4⟩
      · obtain ⟨-, ⟨a, a0, a1, a2, a3⟩, -⟩ := t7 d hd
        obtain ⟨-, -, -, m4, m5, m6, m7⟩ := s6 d (by omega) (by omega)
        rw [m4, m5, m6, m7, yo 102 (4 * d + 1) (by omega) (by omega), a3]
        exact ⟨Or.inl rfl, ⟨a, a0, by omega, rfl⟩, ⟨2 ^ d, Nat.pow_lt_pow_right (by omega) hd, rfl⟩, Or.inl rfl⟩
      · rw [lo 24 2 (by omega), p10]; rfl
      · rw [lo 0 8 (by omega), p11]; rfl
      · rw [Nat.zero_testBit]
        have hi2 : i = 0 ∨ i = 1 := by omega
        rcases hi2 with rfl | rfl
        · exact s10
        · exact s11
      · rw [Nat.zero_testBit] at q; cases q
      · rw [lo 86 3 (by omega), p12]; rfl
      · rw [lo 1 2 (by omega), p9]; rfl
      · rw [z2]; exact hE.1
      · rw [lw 90 0 (by omega)]; exact hE.2
