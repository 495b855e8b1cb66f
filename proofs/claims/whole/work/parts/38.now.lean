/-! PURE: now -/
theorem sum_one {n e : Nat} (hn : n ≤ 6) (he : e < n) (g : Nat → Int32) : sumI g (nI (2 ^ e)) n = g e := by
  have h64 : 2 ^ e < 64 := lt64 hn (Nat.pow_lt_pow_right (by decide) he)
  have h := itr_inv (s := fun d acc => if (nI (2 ^ e) >>> (nI d &&& 31)) &&& 1 = 0 then acc else acc + g d) (P := fun i acc => acc = if e < i then g e else 0) n 0 0 (by simp) (fun j b _ hj hb => by
    have hbit := jj_bit0 (s := 2 ^ e) (i := j) h64 (by omega)
    rw [Nat.testBit_two_pow] at hbit
    by_cases z : e = j
    · subst z
      rw [if_neg (fun q => by have := hbit.mp q; simp at this), hb, if_neg (by omega), if_pos (by omega), Int32.zero_add]
    · rw [if_pos (hbit.mpr (by simp [z])), hb]
      by_cases l : e < j
      · rw [if_pos l, if_pos (by omega)]
      · rw [if_neg l, if_neg (by omega)])
  rw [Nat.zero_add, if_pos he] at h
  exact h
theorem sum_ge {n e s : Nat} (hn : n ≤ 6) (he : e < n) (hs : s < 2 ^ n) (hb : s.testBit e = true) {g : Nat → Int32} {k : Nat → Nat} (hg : ∀ d, d < n → k d ≤ 30 ∧ g d = nI (k d)) : ∃ A, sumI g (nI s) n = nI A ∧ A ≤ 180 ∧ k e ≤ A := by
  have hs64 := lt64 hn hs
  have h := itr_inv (s := fun d acc => if (nI s >>> (nI d &&& 31)) &&& 1 = 0 then acc else acc + g d) (P := fun i acc => ∃ A, acc = nI A ∧ A ≤ 30 * i ∧ (e < i → k e ≤ A)) n 0 0 ⟨0, rfl, by omega, fun q => by omega⟩ (fun j b _ hj hP => by
    obtain ⟨A, a1, a2, a3⟩ := hP
    have hbit := jj_bit0 (s := s) (i := j) hs64 (by omega)
    obtain ⟨g1, g2⟩ := hg j (by omega)
    by_cases z : (nI s >>> (nI j &&& 31)) &&& 1 = 0
    · rw [if_pos z]
      refine ⟨A, a1, by omega, fun q => ?_⟩
      by_cases w : e = j
      · subst w; rw [hbit.mp z] at hb; cases hb
      · exact a3 (by omega)
    · rw [if_neg z, a1, g2, nI_add]
      refine ⟨A + k j, rfl, by omega, fun q => ?_⟩
      by_cases w : e = j
      · subst w; omega
      · have := a3 (by omega); omega)
  obtain ⟨A, a1, a2, a3⟩ := h
  exact ⟨A, a1, by omega, a3 (by omega)⟩
theorem pots_op {n : Nat} {w : Wd} (hn : n ≤ 6) (hT : IvT n w) (hS : IvS n w) (hE : IvE w) : ∃ a w1, f_X5_fewestPots w = some (a, w1) ∧ (∃ r, w1 = wrow w 90 r ∧ r 0 = 0) ∧ ∀ u : Wd, u.1 92 = w.1 92 → u.1 96 = w.1 96 → ∃ r', f_X6_pots u = some (a, wrow u 104 r') := by
  obtain ⟨t0, t1, -, -, t4, -, -, ⟨rm, -, rm2, rm3⟩, tA⟩ := id hT
  obtain ⟨⟨s0, s1, sA, sB⟩, m, h, i0, im, i1, ih, iA⟩ := id hS
  have hp64 : 2 ^ n ≤ 64 := (Nat.pow_le_pow_right (by decide) hn : 2 ^ n ≤ 2 ^ 6)
  have hp1 : 1 ≤ 2 ^ n := Nat.one_le_two_pow
  obtain ⟨fit, hfd⟩ : ∃ fit : Nat → Bool, fit = fun s => !decide (w.1 92 6 < sumI (fun d => w.1 96 (8 + d)) (nI s) n) := ⟨_, rfl⟩
  have hfm : ∀ s, s < 2 ^ n → (w.1 92 6 < sumI (fun d => w.1 96 (8 + d)) (nI s) n ↔ fit s = false) := fun s _ => by
    rw [hfd]
    by_cases q : w.1 92 6 < sumI (fun d => w.1 96 (8 + d)) (nI s) n <;> simp [q]
  have hfc : ∀ s, s < 2 ^ n → (w.1 4 3 < sumI (w.1 16) (nI s) 6 ↔ fit s = false) := fun s hs => by
    rw [t4, sum_same hn hs (g := fun d => w.1 96 (8 + d)) (fun d hd => (sA d hd).2.1)]
    exact hfm s hs
  have hone : ∀ e, e < n → (fit (2 ^ e) = true ↔ w.1 16 e ≤ w.1 4 3) := fun e he => by
    have h1 : sumI (fun d => w.1 96 (8 + d)) (nI (2 ^ e)) n = w.1 16 e := (sum_one hn he _).trans (sA e he).2.1.symm
    have h2 := hfm (2 ^ e) (Nat.pow_lt_pow_right (by decide) he)
    rw [h1, ← t4] at h2
    constructor
    · intro q
      exact jj_nlt_le (fun z => by rw [h2.mp z] at q; cases q)
    · intro q
      cases hf : fit (2 ^ e) with
      | true => rfl
      | false => exact absurd (h2.mpr hf) (jj_le_nlt q)
  have hall := all_eq t1 hn
  have hsub1 : ((1 : Int32) <<< (nI n &&& 31)) - (1 : Int32) = nI (2 ^ n - 1) := by
    rw [jj_shl (show n < 7 by omega)]
    exact nI_sub (b := 1) hp1
  have mstart : ∀ u : Wd, u.1 92 = w.1 92 → f_X6_pots u = f_X6_pots_l18 300 (nI (2 ^ n - 1)) (nI 1) (wrow u 104 (upd (u.1 104) 0 0)) := fun u hu => by
    rw [f_X6_pots, f_X6_pots_b0, jj_bnd, jj_bnd, jj_bnd, wget_def, hu, t0, hsub1, wset_row2]
    rfl
  rcases single_c hn (w := w) 6 0 300 rfl (by decide) with ⟨c1, c2⟩ | ⟨c1, e, e1, e2⟩
  · have h1 : ∀ e, e < n → fit (2 ^ e) = true := fun e he => (hone e he).mpr (c2 e (by omega) he)
    obtain ⟨r', d1, d2⟩ := pots_c (w := w) (fit := fit) hn hfc h1 hE.2 (2 ^ n - 1) 1 300 (w.1 90) 0 (by omega) (by omega) (by omega) rfl (fun j hj => by
      obtain rfl : j = 0 := by omega
      exact hE.2) hE.2
    rw [wrow_self] at d1
    refine ⟨nI (TC fit (2 ^ n - 1)), wrow w 90 r', ?_, ⟨r', rfl, d2⟩, fun u hu hu2 => ?_⟩
    · rw [f_X5_fewestPots, f_X5_fewestPots_b0, hall, jj_cal, jj_bnd, jj_bnd]
      exact c1.trans d1
    · obtain ⟨r2, t, g1, g2, g3⟩ := pots_m (u := u) (fit := fit) hn (by rw [hu]; exact t0) (by rw [hu, hu2]; exact hfm) (fun j t => t = TC fit j) (fun x T v hx1 hx hT hv hm => by
        have hT2 : ∀ j, j < x → T j = TC fit j := fun j hj => (hT j hj).2
        have := (min_same hn hx1 hx h1 (fun j hj => by rw [hT2 j hj]; exact TC_le hn h1 j (by omega)) hm).1
        rw [this, cv_cong fit hT2]
        obtain ⟨y, rfl⟩ : ∃ y, x = y + 1 := ⟨x - 1, by omega⟩
        exact (TC_s fit y).symm) (2 ^ n - 1) 1 300 (upd (u.1 104) 0 0) (by omega) (by omega) (by omega) ⟨fun _ => 0, fun j hj => by
        obtain rfl : j = 0 := by omega
        exact ⟨rfl, Nat.zero_le 99, rfl⟩⟩
      refine ⟨r2, ?_⟩
      rw [mstart u hu, g1, if_neg, g3]
      have := TC_le hn h1 (2 ^ n - 1) (by omega)
      have := popc_le (2 ^ n - 1) (by omega)
      omega
  · have hbad : ∀ f, f < 2 ^ n → f.testBit e = true → fit f = false := fun f hf hb => by
      obtain ⟨k, hk⟩ : ∃ k : Nat → Nat, ∀ d, d < n → k d ≤ 30 ∧ w.1 96 (8 + d) = nI (k d) := by
        have key : ∀ d, ∃ q, d < n → q ≤ 30 ∧ w.1 96 (8 + d) = nI q := fun d => by
          by_cases l : d < n
          · obtain ⟨-, ⟨q, q1, q2, q3⟩, -⟩ := iA d l
            exact ⟨q, fun _ => ⟨q2, q3⟩⟩
          · exact ⟨0, fun z => absurd z l⟩
        exact ⟨fun d => Classical.choose (key d), fun d hd => Classical.choose_spec (key d) hd⟩
      obtain ⟨A, a1, a2, a3⟩ := sum_ge (g := fun d => w.1 96 (8 + d)) hn e1 hf hb hk
      refine (hfm f hf).mp ?_
      rw [a1, rm3]
      have hlt : w.1 4 3 < w.1 16 e := jj_nle_lt e2
      rw [t4, rm3, (sA e e1).2.1, (hk e e1).2] at hlt
      have := (nI_ltI (a := rm) (b := k e) (by omega) (by have := (hk e e1).1; omega)).mp hlt
      exact nI_lt (by omega) (by omega)
    refine ⟨-9, w, ?_, ⟨w.1 90, (wrow_self w 90).symm, hE.2⟩, fun u hu hu2 => ?_⟩
    · rw [f_X5_fewestPots, f_X5_fewestPots_b0, hall, jj_cal, jj_bnd, jj_bnd]
      exact c1
    · obtain ⟨r2, t, g1, g2, g3⟩ := pots_m (u := u) (fit := fit) hn (by rw [hu]; exact t0) (by rw [hu, hu2]; exact hfm) (fun j t => j.testBit e = true → t = 99) (fun x T v hx1 hx hT hv hm hb => by
        rcases hm.2.2 with q | ⟨f, f1, f2⟩
        · exact q
        · obtain ⟨f3, f4, f5, f6⟩ := f1
          rcases Bool.eq_false_or_eq_true (f.testBit e) with z | z
          · rw [hbad f (by omega) z] at f6; cases f6
          · have hs := ((sub_facts x (by omega) f (by omega)).2 f5).1
            have hxb : (x - f).testBit e = true := by
              rw [← hs, Nat.testBit_and, Nat.testBit_xor, hb, z, show (63 : Nat) = 2 ^ 6 - 1 from rfl, Nat.testBit_two_pow_sub_one]
              simp
              omega
            have := (hT (x - f) (by omega)).2 hxb
            omega) (2 ^ n - 1) 1 300 (upd (u.1 104) 0 0) (by omega) (by omega) (by omega) ⟨fun _ => 0, fun j hj => by
        obtain rfl : j = 0 := by omega
        exact ⟨rfl, Nat.zero_le 99, fun q => by rw [Nat.zero_testBit] at q; cases q⟩⟩
      refine ⟨r2, ?_⟩
      rw [mstart u hu, g1, if_pos (g3 (by rw [Nat.testBit_two_pow_sub_one]; simp [e1]))]
theorem risenMany_eq {n : Nat} {u : Wd} (hn : n ≤ 6) (h0 : u.1 92 0 = nI n) : f_X6_risenMany u = some (nI (cnt (fun e => !decide (u.1 96 (20 + e) = -9)) n), u) := by
  rw [f_X6_risenMany, f_X6_risenMany_b0, jj_bnd, jj_bnd]
  exact jj_loopc (F := fun f x a => f_X6_risenMany_l4 f a x u) (N := n) (fun i => nI (cnt (fun e => !decide (u.1 96 (20 + e) = -9)) i)) (by
    intro f i hi
    show f_X6_risenMany_l4 (f + 1) (nI _) (nI i) u = f_X6_risenMany_l4 f (nI _) (nI (i + 1)) u
    rw [f_X6_risenMany_l4, f_X6_risenMany_h4, wget_def, h0, if_neg (nI_ge hi (by omega)), jj_20, jj_grd (jj_i26 (show 20 + i < 26 by omega)), jj_tn (show 20 + i < 2 ^ 31 by omega), wget_def, cnt]
    by_cases q : u.1 96 (20 + i) = -9
    · rw [if_pos q, jj_bnd, jj_bnd, nI_1, Int32.add_zero, if_neg (by simp [q])]; rfl
    · rw [if_neg q, jj_bnd, jj_bnd, nI_1, nI_1, if_pos (by simp [q])]) (by
    intro f
    show f_X6_risenMany_l4 (f + 1) _ (nI n) u = _
    rw [f_X6_risenMany_l4, f_X6_risenMany_h4, wget_def, h0, if_pos (nI_le (Nat.le_refl n) (by omega))]) n 0 300 (by omega) (by omega)
theorem cnt_more {p : Nat → Bool} {n : Nat} : ∀ k, (∀ j, n ≤ j → j < n + k → p j = false) → cnt p (n + k) = cnt p n
  | 0, _ => rfl
  | k + 1, h => by
    rw [show n + (k + 1) = (n + k) + 1 by omega, cnt, cnt_more k (fun j h1 h2 => h j h1 (by omega)), if_neg (by rw [h (n + k) (by omega) (by omega)]; decide)]; rfl
theorem op_now : Op1 Iv f_X5_now f_X6_now := by
  intro x w hI
  obtain ⟨n, hn, hT, hS, hP, hG, hN, hX, hE⟩ := id hI
  obtain ⟨t0, t1, -⟩ := id hT
  obtain ⟨⟨s0, s1, sA, sB⟩, hR⟩ := id hS
  obtain ⟨kn, nx, pk, px, p2, p9, p1, pold⟩ := id hP
  have hIs : ∀ v, Same w v → ∀ r, Iv (wrow v 103 r) := fun v hv r => Iv_same (same_row v 103 r (by omega)) (Iv_same hv hI)
  have e92 : (wrow w 103 (r0 w)).1 92 = w.1 92 := wrow_off (by decide)
  have e96 : (wrow w 103 (r0 w)).1 96 = w.1 96 := wrow_off (by decide)
  by_cases x0 : x = 0
  · subst x0
    refine ⟨w.1 96 0, w, wrow w 103 (r0 w), ?_, ?_, hIs w (Same.rf w) _⟩
    · rw [f_X5_now, f_X5_now_b0, if_pos rfl, wget_def, s0]
    · rw [f_X6_now, f_X6_now_b0, asItIs_0, jj_cal, if_pos rfl, jj_grd (by decide), wget_def, e96]
      rfl
  by_cases x1 : x = 1
  · subst x1
    refine ⟨w.1 96 1, w, wrow w 103 (r0 w), ?_, ?_, hIs w (Same.rf w) _⟩
    · rw [f_X5_now, f_X5_now_b0, if_neg x0, if_pos rfl, wget_def, s1]
    · rw [f_X6_now, f_X6_now_b0, asItIs_0, jj_cal, if_neg x0, if_pos rfl, jj_grd (by decide), wget_def, e96]
      rfl
  by_cases x2 : x = 2
  · subst x2
    have hd : bset (fun d => decide (w.1 15 d = -9)) n = bset (fun d => decide ((wrow w 103 (r0 w)).1 103 (2 + d) = -9)) n := bset_ext fun e => by
      by_cases l : e < n
      · rw [wrow_row, show w.1 15 e = w.1 96 (2 + e) from (sA e l).1]
        unfold r0
        rw [if_pos (by omega)]
      · simp [l]
    refine ⟨nI (bset (fun d => decide (w.1 15 d = -9)) n), w, wrow w 103 (r0 w), ?_, ?_, hIs w (Same.rf w) _⟩
    · rw [f_X5_now, f_X5_now_b0, if_neg x0, if_neg x1, if_pos rfl, dryOnes_eq t1 hn (fun e h1 h2 => (sB e h1 h2).1), jj_cal]
    · rw [f_X6_now, f_X6_now_b0, asItIs_0, jj_cal, if_neg x0, if_neg x1, if_pos rfl, atDepth_eq (by rw [e92]; exact t0) hn, jj_cal, hd]
  by_cases x3 : x = 3
  · subst x3
    have hd : bset (fun d => decide (w.1 15 d = 0)) 6 = bset (fun d => decide ((wrow w 103 (r0 w)).1 103 (2 + d) = 0)) n := bset6 hn (fun e l => by
      rw [wrow_row, show w.1 15 e = w.1 96 (2 + e) from (sA e l).1]
      unfold r0
      rw [if_pos (by omega)]) (fun e h1 h2 => by
      show decide (w.1 15 e = 0) = false
      rw [show w.1 15 e = -9 from (sB e h1 h2).1]; rfl)
    refine ⟨nI (bset (fun d => decide (w.1 15 d = 0)) 6), w, wrow w 103 (r0 w), ?_, ?_, hIs w (Same.rf w) _⟩
    · rw [f_X5_now, f_X5_now_b0, if_neg x0, if_neg x1, if_neg x2, if_pos rfl, upOnes_eq, jj_cal]
    · rw [f_X6_now, f_X6_now_b0, asItIs_0, jj_cal, if_neg x0, if_neg x1, if_neg x2, if_pos rfl, atDepth_eq (by rw [e92]; exact t0) hn, jj_cal]
      show some (nI (bset (fun d => decide ((wrow w 103 (r0 w)).1 103 (2 + d) = 0)) n), _) = some (nI (bset (fun d => decide (w.1 15 d = 0)) 6), _)
      rw [hd]
  by_cases x4 : x = 4
  · subst x4
    have hb6 : bset (fun d => !decide (w.1 18 d = -9)) 6 < 64 := bset_lt _ 6
    have hc : popc (bset (fun d => !decide (w.1 18 d = -9)) 6) = cnt (fun e => !decide ((wrow w 103 (r0 w)).1 96 (20 + e) = -9)) n := by
      rw [← cb_all 6 (by decide) _ hb6 hb6]
      obtain ⟨k, hk⟩ : ∃ k, 6 = n + k := ⟨6 - n, by omega⟩
      have e6 : cnt (fun e => (bset (fun d => !decide (w.1 18 d = -9)) 6).testBit e) 6 = cnt (fun e => !decide (w.1 18 e = -9)) 6 := cnt_cong 6 (fun j hj => by rw [bset_bit]; simp [hj])
      rw [e6, hk, cnt_more k (fun j h1 h2 => by rw [(sB j h1 (by omega)).2]; rfl)]
      exact cnt_cong n (fun j hj => by rw [e96, show w.1 18 j = w.1 96 (20 + j) from (sA j hj).2.2.2])
    refine ⟨nI (popc (bset (fun d => !decide (w.1 18 d = -9)) 6)), w, wrow w 103 (r0 w), ?_, ?_, hIs w (Same.rf w) _⟩
    · rw [f_X5_now, f_X5_now_b0, if_neg x0, if_neg x1, if_neg x2, if_neg x3, if_pos rfl, risenOnes_eq, jj_cal, bc_eq hb6, jj_cal]
    · rw [f_X6_now, f_X6_now_b0, asItIs_0, jj_cal, if_neg x0, if_neg x1, if_neg x2, if_neg x3, if_pos rfl, risenMany_eq hn (by rw [e92]; exact t0), jj_cal]
      show some (nI _, _) = some (nI (popc (bset (fun d => !decide (w.1 18 d = -9)) 6)), _)
      rw [hc]
  by_cases x5 : x = 5
  · subst x5
    obtain ⟨a, w1, c0, ⟨r, hr, hr0⟩, hm⟩ := pots_op hn hT hS hE
    have hsame : Same w w1 := ⟨by rw [hr]; rfl, fun b hb => by rw [hr]; exact wrow_off (by omega), by rw [hr, wrow_off (by decide)], fun j _ => by rw [hr, wrow_off (by decide)], by rw [hr, wrow_row, hr0, hE.2]⟩
    obtain ⟨r', m0⟩ := hm (wrow w1 103 (r0 w1)) (by rw [wrow_off (by decide), hr, wrow_off (by decide)]) (by rw [wrow_off (by decide), hr, wrow_off (by decide)])
    refine ⟨a, w1, wrow (wrow w1 103 (r0 w1)) 104 r', ?_, ?_, Iv_same (same_row _ 104 r' (by omega)) (hIs w1 hsame _)⟩
    · rw [f_X5_now, f_X5_now_b0, if_neg x0, if_neg x1, if_neg x2, if_neg x3, if_neg x4, if_pos rfl, c0, jj_cal]
    · rw [f_X6_now, f_X6_now_b0, asItIs_0, jj_cal, if_neg x0, if_neg x1, if_neg x2, if_neg x3, if_neg x4, if_pos rfl, m0, jj_cal]
  by_cases x6 : x = 6
  · subst x6
    refine ⟨nI kn, w, wrow w 103 (r0 w), ?_, ?_, hIs w (Same.rf w) _⟩
    · rw [f_X5_now, f_X5_now_b0, if_neg x0, if_neg x1, if_neg x2, if_neg x3, if_neg x4, if_neg x5, if_pos rfl, wget_def, p2]
    · rw [f_X6_now, f_X6_now_b0, asItIs_0, jj_cal, if_neg x0, if_neg x1, if_neg x2, if_neg x3, if_neg x4, if_neg x5, if_pos rfl, wget_def, e92, p9]
  refine ⟨-1, w, wrow w 103 (r0 w), ?_, ?_, hIs w (Same.rf w) _⟩
  · rw [f_X5_now, f_X5_now_b0, if_neg x0, if_neg x1, if_neg x2, if_neg x3, if_neg x4, if_neg x5, if_neg x6]
  · rw [f_X6_now, f_X6_now_b0, asItIs_0, jj_cal, if_neg x0, if_neg x1, if_neg x2, if_neg x3, if_neg x4, if_neg x5, if_neg x6]
