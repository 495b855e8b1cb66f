/-! PURE: foretold minutes: deep, when, warm -/
theorem jj_loopE {α β : Type} {F : Nat → Int32 → α → Wd → Option (β × Wd)} {s : Nat → α → α} {ex : α → β} {N : Nat} (Q : Wd → Prop) (P : Nat → α → Prop)
    (hb : ∀ f i a w, i < N → P i a → Q w → ∃ w', F (f + 1) (nI i) a w = F f (nI (i + 1)) (s i a) w' ∧ Q w' ∧ P (i + 1) (s i a))
    (he : ∀ f a w, P N a → Q w → ∃ w', F (f + 1) (nI N) a w = some (ex a, w') ∧ Q w') :
    ∀ (n i : Nat) (a : α) (f : Nat) (w : Wd), i + n = N → n < f → P i a → Q w → ∃ w', F f (nI i) a w = some (ex (itr s i n a), w') ∧ Q w'
  | 0, i, a, f, w, hi, hf, hP, hQ => by
    obtain ⟨f, rfl⟩ : ∃ k, f = k + 1 := ⟨f - 1, by omega⟩
    obtain rfl : i = N := by omega
    exact he f a w hP hQ
  | n + 1, i, a, f, w, hi, hf, hP, hQ => by
    obtain ⟨f, rfl⟩ : ∃ k, f = k + 1 := ⟨f - 1, by omega⟩
    obtain ⟨w1, h1, h2, h3⟩ := hb f i a w (by omega) hP hQ
    rw [h1, itr]
    exact jj_loopE Q P hb he n (i + 1) (s i a) f w1 (by omega) (by omega) h3 h2
theorem minM_26 {n : Nat} (hn : n ≤ 6) (gl : Int32) (wt sw r : Nat → Int32) {j : Nat} (hj : 26 ≤ j) : minM n gl wt sw r j = r j := by
  unfold minM mRs
  rw [if_neg (by omega)]
  have h1 : mSt n gl (mFl n wt (mSw n sw (upd r 0 (r 0 + 1)))) j = mFl n wt (mSw n sw (upd r 0 (r 0 + 1))) j := by
    refine itr_inv (P := fun _ (q : Nat → Int32) => q j = mFl n wt (mSw n sw (upd r 0 (r 0 + 1))) j) n 0 _ rfl (fun d q _ _ hq => ?_)
    refine itr_inv (P := fun _ (q : Nat → Int32) => q j = mFl n wt (mSw n sw (upd r 0 (r 0 + 1))) j) (n - (d + 1)) (d + 1) _ hq (fun e q2 _ _ hq2 => ?_)
    unfold mSt1
    split
    · rw [mLay_o hn (by omega)]; exact hq2
    · exact hq2
  rw [h1, mFl_o hn (by omega), mSw_o hn (by omega), jj_upd, if_neg (by omega)]
def r0 (w : Wd) : Nat → Int32 := fun j => if j < 26 then w.1 96 j else w.1 103 j
noncomputable def mnW (n : Nat) (w : Wd) (r : Nat → Int32) : Nat → Int32 := minM n (w.1 92 5) (w.1 93) (w.1 94) r
def CF (w v : Wd) : Prop := v.2 = w.2 ∧ ∀ a, a < 19 ∨ 23 < a → v.1 a = w.1 a
theorem CF.rf (w : Wd) : CF w w := ⟨rfl, fun _ _ => rfl⟩
theorem CF.same {w v : Wd} (h : CF w v) : Same w v := ⟨h.1, fun a ha => h.2 a (by omega), by rw [h.2 1 (by omega)], fun j _ => by rw [h.2 92 (by omega)], by rw [h.2 90 (by omega)]⟩
theorem CF_r0 {w v : Wd} (h : CF w v) : r0 v = r0 w := by unfold r0; rw [h.2 96 (by omega), h.2 103 (by omega)]
theorem CF_mn {n : Nat} {w v : Wd} (h : CF w v) : mnW n v = mnW n w := by funext r; unfold mnW; rw [h.2 92 (by omega), h.2 93 (by omega), h.2 94 (by omega)]
def T26 (u : Wd) (r : Nat → Int32) : Prop := ∀ j, 26 ≤ j → r j = u.1 103 j
theorem T26_r0 (u : Wd) : T26 u (r0 u) := fun j hj => if_neg (by omega)
theorem T26_mn {n : Nat} {u : Wd} {r : Nat → Int32} (hn : n ≤ 6) (h : T26 u r) : T26 u (mnW n u r) := fun j hj => by
  unfold mnW
  rw [minM_26 hn _ _ _ _ hj]
  exact h j hj
theorem T26_upd {u : Wd} {r : Nat → Int32} (h : T26 u r) {j : Nat} (hj : j < 26) (v : Int32) : T26 u (upd r j v) := fun i hi => by
  rw [jj_upd, if_neg (by omega)]
  exact h i hi
theorem asItIs_w {u : Wd} {r : Nat → Int32} (h : T26 u r) : f_X6_asItIs (wrow u 103 r) = some ((), wrow u 103 (r0 u)) := by
  have hc := copy26 (k0 := 103) (k2 := 96) (a := 0) (c := 0) (by decide) (by decide) (by decide) (by decide) (by decide) (wrow u 103 r)
  have e0 : (0 : Int32) = nI 0 := rfl
  rw [f_X6_asItIs, f_X6_asItIs_b0, e0, hc, jj_cal, wrow_wrow, wrow_row, wrow_off (by decide)]
  congr 3
  funext j
  unfold r0
  by_cases hj : j < 26
  · rw [if_pos (by omega), if_pos hj, Nat.zero_add, Nat.sub_zero]
  · rw [if_neg (by omega), if_neg hj]
    exact h j (by omega)
theorem asItIs_0 (u : Wd) : f_X6_asItIs u = some ((), wrow u 103 (r0 u)) := by
  have h := asItIs_w (u := u) (r := u.1 103) (fun _ _ => rfl)
  rw [wrow_self] at h
  exact h
theorem goes_w {u : Wd} {n : Nat} (hn : u.1 92 0 = nI n) (hn6 : n ≤ 6) (r : Nat → Int32) : f_X6_goesBy (wrow u 103 r) = some ((), wrow u 103 (mnW n u r)) := by
  have h := goesBy_eq (w := wrow u 103 r) (n := n) (by rw [wrow_off (by decide)]; exact hn) hn6
  rw [wrow_wrow, wrow_row, wrow_off (w := u) (r := r) (show 92 ≠ 103 by decide), wrow_off (w := u) (r := r) (show 93 ≠ 103 by decide), wrow_off (w := u) (r := r) (show 94 ≠ 103 by decide)] at h
  exact h
/-- a foretold minute of the class -/
theorem pass_19 {n M : Nat} {w v : Wd} {r : Nat → Int32} (hn : n ≤ 6) (hT : IvT n w) (hc : CF w v) (hS : SRel n v 19 r) (hI : RInv n M r) : ∃ v', f_X4_passMinute 19 4 v = some ((), v') ∧ CF w v' ∧ SRel n v' 19 (mnW n w r) ∧ RInv n (M + 1) (mnW n w r) := by
  obtain ⟨v', h1, h2, h3, h4, h5⟩ := pass_14 (w1 := v) (k := 19) hn (Or.inr rfl) hT (fun a ha => hc.2 a (by omega)) hS hI
  exact ⟨v', h1, ⟨h2.trans hc.1, fun a ha => (h3 a (by omega)).trans (hc.2 a (by omega))⟩, h4, h5⟩
theorem later_c {n : Nat} {w v : Wd} (hn : n ≤ 6) (hS : IvS n w) (hc : CF w v) : ∃ v', f_X4_copy 19 14 v = some ((), v') ∧ CF w v' ∧ SRel n v' 19 (r0 w) := by
  obtain ⟨v', h1, h2, h3, h4⟩ := copy4 19 14 (by omega) v
  have e : ∀ j, j < 26 → w.1 96 j = r0 w j := fun j hj => (if_pos hj).symm
  exact ⟨v', h1, ⟨h2.trans hc.1, fun a ha => (h3 a (by omega)).trans (hc.2 a ha)⟩, SRel_row hn (h4 n _ hn (SRel_cong hS.1 (fun a h1 h2 => hc.2 a (by omega)))) e⟩
theorem RInv_r0 {n : Nat} {w : Wd} (hn : n ≤ 6) (hS : IvS n w) : RInv n 99 (r0 w) := RInv_row hn hS.2 (fun j hj => (if_pos hj).symm)
noncomputable def mit (n : Nat) (w : Wd) (k : Nat) (r : Nat → Int32) : Nat → Int32 := itr (fun _ r => mnW n w r) 0 k r
theorem mit_s (n : Nat) (w : Wd) : ∀ (k i : Nat) (r : Nat → Int32), itr (fun _ r => mnW n w r) i k r = itr (fun _ r => mnW n w r) 0 k r
  | 0, _, _ => rfl
  | k + 1, i, r => by rw [itr, itr, mit_s n w k (i + 1), mit_s n w k (0 + 1)]
theorem mit_1 (n : Nat) (w : Wd) (k : Nat) (r : Nat → Int32) : mit n w (k + 1) r = mit n w k (mnW n w r) := by unfold mit; rw [itr, mit_s]
theorem deep_c {n d T : Nat} {w : Wd} (hn : n ≤ 6) (hd : d < n) (hT : IvT n w) (hT2 : T < 2 ^ 31) : ∀ (k t f M : Nat) (v : Wd) (r : Nat → Int32), t + k = T → k < f → CF w v → SRel n v 19 r → RInv n M r → ∃ v', f_X5_deep_l33 f (nI d) (nI T) (nI t) v = some (mit n w k r (2 + d), v') ∧ CF w v'
  | 0, t, f, M, v, r, ht, hf, hc, hS, hI => by
    obtain ⟨f, rfl⟩ : ∃ k, f = k + 1 := ⟨f - 1, by omega⟩
    obtain rfl : t = T := by omega
    refine ⟨v, ?_, hc⟩
    rw [f_X5_deep_l33, f_X5_deep_h33, if_pos (nI_le (Nat.le_refl t) hT2), jj_grd (jj_i6 (show d < 6 by omega)), jj_tn (show d < 2 ^ 31 by omega), wget_def, show v.1 20 d = r (2 + d) from (hS.2.2.1 d hd).1]
    rfl
  | k + 1, t, f, M, v, r, ht, hf, hc, hS, hI => by
    obtain ⟨f, rfl⟩ : ∃ k, f = k + 1 := ⟨f - 1, by omega⟩
    obtain ⟨v1, h1, h2, h3, h4⟩ := pass_19 hn hT hc hS hI
    obtain ⟨v2, h5, h6⟩ := deep_c hn hd hT hT2 k (t + 1) f (M + 1) v1 _ (by omega) (by omega) h2 h3 h4
    refine ⟨v2, ?_, h6⟩
    rw [f_X5_deep_l33, f_X5_deep_h33, if_neg (nI_ge (show t < T by omega) hT2), h1, jj_cal, jj_bnd, nI_1, h5, mit_1]
theorem deep_m {n d T : Nat} {u : Wd} (hn : n ≤ 6) (h0 : u.1 92 0 = nI n) (hd : d < n) (hT2 : T < 2 ^ 31) : ∀ (k t f : Nat) (r : Nat → Int32), t + k = T → k < f → f_X6_deep_l26 f (nI d) (nI T) (nI t) (wrow u 103 r) = some (mit n u k r (2 + d), wrow u 103 (mit n u k r))
  | 0, t, f, r, ht, hf => by
    obtain ⟨f, rfl⟩ : ∃ k, f = k + 1 := ⟨f - 1, by omega⟩
    obtain rfl : t = T := by omega
    rw [f_X6_deep_l26, f_X6_deep_h26, if_pos (nI_le (Nat.le_refl t) hT2), jj_2, jj_grd (jj_i26 (show 2 + d < 26 by omega)), jj_tn (show 2 + d < 2 ^ 31 by omega), wget_def, wrow_row]
    rfl
  | k + 1, t, f, r, ht, hf => by
    obtain ⟨f, rfl⟩ : ∃ k, f = k + 1 := ⟨f - 1, by omega⟩
    rw [f_X6_deep_l26, f_X6_deep_h26, if_neg (nI_ge (show t < T by omega) hT2), goes_w h0 hn, jj_cal, jj_bnd, nI_1, deep_m hn h0 hd hT2 k (t + 1) f _ (by omega) (by omega), mit_1]
theorem le40 {x : Int32} (h : x ≤ 40) : ¬ (40 : Int32) < x := jj_le_nlt h
theorem op_deep : Op2 Iv f_X5_deep f_X6_deep := by
  intro a x w hI
  obtain ⟨n, hn, hT, hS, hP, hG, hN, hX, hE⟩ := id hI
  obtain ⟨t0, t1, -⟩ := id hT
  rcases one_cases a hn with ⟨d, hd, rfl⟩ | hx
  · by_cases g1 : x < 0
    · refine ⟨-1, w, w, ?_, ?_, hI⟩
      · rw [f_X5_deep, f_X5_deep_b0, isTold_yes t1 hn hd, jj_cal, if_neg jj_ne10, if_pos g1]
      · rw [f_X6_deep, f_X6_deep_b0, isOne_yes t0 hn hd, jj_cal, if_neg jj_ne10, in_eq, if_neg (fun q => q.1 g1), jj_cal, if_pos rfl]
    · by_cases g2 : x ≤ 40
      · obtain ⟨T, hT31, rfl⟩ := nI_of g1
        have hT40 : T ≤ 40 := (nI_leI (a := T) (b := 40) hT31 (by decide)).mp g2
        obtain ⟨v, c0, c1, c2⟩ := later_c hn hS (CF.rf w)
        obtain ⟨v2, d0, d1⟩ := deep_c (d := d) (T := T) hn hd hT (by omega) T 0 300 99 v _ (by omega) (by omega) c1 c2 (RInv_r0 hn hS)
        have e92 : v2.1 92 0 = nI n := by rw [d1.2 92 (by omega)]; exact t0
        have hm := deep_m (d := d) (T := T) (u := v2) hn e92 hd (by omega) T 0 300 (r0 v2) (by omega) (by omega)
        have hmit : mit n v2 = mit n w := by funext k r; unfold mit; rw [CF_mn d1]
        refine ⟨mit n w T (r0 w) (2 + d), v2, _, ?_, ?_, Iv_same (same_row v2 103 (mit n v2 T (r0 v2)) (by omega)) (Iv_same d1.same hI)⟩
        · rw [f_X5_deep, f_X5_deep_b0, isTold_yes t1 hn hd, jj_cal, if_neg jj_ne10, if_neg g1, if_pos g2, c0, jj_cal, jj_bnd]
          exact d0
        · rw [f_X6_deep, f_X6_deep_b0, isOne_yes (w := v2) e92 hn hd, jj_cal, if_neg jj_ne10, in_eq, if_pos ⟨g1, le40 g2⟩, jj_cal, if_neg jj_ne10, asItIs_0, jj_cal, jj_bnd]
          refine hm.trans ?_
          rw [hmit, CF_r0 d1]
      · refine ⟨-1, w, w, ?_, ?_, hI⟩
        · rw [f_X5_deep, f_X5_deep_b0, isTold_yes t1 hn hd, jj_cal, if_neg jj_ne10, if_neg g1, if_neg g2]
        · rw [f_X6_deep, f_X6_deep_b0, isOne_yes t0 hn hd, jj_cal, if_neg jj_ne10, in_eq, if_neg (fun q => q.2 (jj_nle_lt g2)), jj_cal, if_pos rfl]
  · refine ⟨-1, w, w, ?_, ?_, hI⟩
    · rw [f_X5_deep, f_X5_deep_b0, isTold_no t1 hn hx, jj_cal, if_pos rfl]
    · rw [f_X6_deep, f_X6_deep_b0, isOne_no t0 hn hx, jj_cal, if_pos rfl]
/-- minutes till up: k more are looked at behind this one -/
noncomputable def tilUp (n : Nat) (w : Wd) (d : Nat) : Nat → Nat → (Nat → Int32) → Int32
  | 0, t, r => if r (2 + d) = 0 then nI t else -9
  | k + 1, t, r => if r (2 + d) = 0 then nI t else tilUp n w d k (t + 1) (mnW n w r)
theorem til_c {n d T : Nat} {w : Wd} (hn : n ≤ 6) (hd : d < n) (hT : IvT n w) (hT2 : T + 1 < 2 ^ 31) : ∀ (k t f M : Nat) (v : Wd) (r : Nat → Int32), t + k = T → k + 1 < f → CF w v → SRel n v 19 r → RInv n M r → ∃ v', f_X5_minutesTillUp_l22 f (nI d) (nI T) (nI t) v = some (tilUp n w d k t r, v') ∧ CF w v'
  | 0, t, f, M, v, r, ht, hf, hc, hS, hI => by
    obtain ⟨f, rfl⟩ : ∃ k, f = k + 1 + 1 := ⟨f - 2, by omega⟩
    obtain rfl : t = T := by omega
    have e : v.1 20 d = r (2 + d) := (hS.2.2.1 d hd).1
    unfold tilUp
    by_cases hz : r (2 + d) = 0
    · refine ⟨v, ?_, hc⟩
      rw [f_X5_minutesTillUp_l22, f_X5_minutesTillUp_h22, if_neg (jj_le_nlt (nI_le (Nat.le_refl t) (by omega))), jj_grd (jj_i6 (show d < 6 by omega)), jj_tn (show d < 2 ^ 31 by omega), wget_def, e, if_pos hz, if_pos hz]
    · obtain ⟨v1, h1, h2, h3, h4⟩ := pass_19 hn hT hc hS hI
      refine ⟨v1, ?_, h2⟩
      rw [f_X5_minutesTillUp_l22, f_X5_minutesTillUp_h22, if_neg (jj_le_nlt (nI_le (Nat.le_refl t) (by omega))), jj_grd (jj_i6 (show d < 6 by omega)), jj_tn (show d < 2 ^ 31 by omega), wget_def, e, if_neg hz, if_neg hz, h1, jj_cal, jj_bnd, nI_1, f_X5_minutesTillUp_l22, f_X5_minutesTillUp_h22, if_pos (nI_lt (Nat.lt_succ_self t) hT2)]
  | k + 1, t, f, M, v, r, ht, hf, hc, hS, hI => by
    obtain ⟨f, rfl⟩ : ∃ k, f = k + 1 := ⟨f - 1, by omega⟩
    have e : v.1 20 d = r (2 + d) := (hS.2.2.1 d hd).1
    unfold tilUp
    by_cases hz : r (2 + d) = 0
    · refine ⟨v, ?_, hc⟩
      rw [f_X5_minutesTillUp_l22, f_X5_minutesTillUp_h22, if_neg (jj_le_nlt (nI_le (show t ≤ T by omega) (by omega))), jj_grd (jj_i6 (show d < 6 by omega)), jj_tn (show d < 2 ^ 31 by omega), wget_def, e, if_pos hz, if_pos hz]
    · obtain ⟨v1, h1, h2, h3, h4⟩ := pass_19 hn hT hc hS hI
      obtain ⟨v2, h5, h6⟩ := til_c hn hd hT hT2 k (t + 1) f (M + 1) v1 _ (by omega) (by omega) h2 h3 h4
      refine ⟨v2, ?_, h6⟩
      rw [f_X5_minutesTillUp_l22, f_X5_minutesTillUp_h22, if_neg (jj_le_nlt (nI_le (show t ≤ T by omega) (by omega))), jj_grd (jj_i6 (show d < 6 by omega)), jj_tn (show d < 2 ^ 31 by omega), wget_def, e, if_neg hz, if_neg hz, h1, jj_cal, jj_bnd, nI_1, h5]
theorem til_m {n d T : Nat} {u : Wd} (hn : n ≤ 6) (h0 : u.1 92 0 = nI n) (hd : d < n) (hT2 : T + 1 < 2 ^ 31) : ∀ (k t f : Nat) (r : Nat → Int32), t + k = T → k + 1 < f → T26 u r → ∃ r', f_X6_topped_l2 f (nI d) (nI T) (nI t) (wrow u 103 r) = some (tilUp n u d k t r, wrow u 103 r') ∧ T26 u r'
  | 0, t, f, r, ht, hf, h26 => by
    obtain ⟨f, rfl⟩ : ∃ k, f = k + 1 + 1 := ⟨f - 2, by omega⟩
    obtain rfl : t = T := by omega
    unfold tilUp
    by_cases hz : r (2 + d) = 0
    · refine ⟨r, ?_, h26⟩
      rw [f_X6_topped_l2, f_X6_topped_h2, if_neg (jj_le_nlt (nI_le (Nat.le_refl t) (by omega))), jj_2, jj_grd (jj_i26 (show 2 + d < 26 by omega)), jj_tn (show 2 + d < 2 ^ 31 by omega), wget_def, wrow_row, if_pos hz, if_pos hz]
    · refine ⟨_, ?_, T26_mn hn h26⟩
      rw [f_X6_topped_l2, f_X6_topped_h2, if_neg (jj_le_nlt (nI_le (Nat.le_refl t) (by omega))), jj_2, jj_grd (jj_i26 (show 2 + d < 26 by omega)), jj_tn (show 2 + d < 2 ^ 31 by omega), wget_def, wrow_row, if_neg hz, if_neg hz, goes_w h0 hn, jj_cal, jj_bnd, nI_1, f_X6_topped_l2, f_X6_topped_h2, if_pos (nI_lt (Nat.lt_succ_self t) hT2)]
  | k + 1, t, f, r, ht, hf, h26 => by
    obtain ⟨f, rfl⟩ : ∃ k, f = k + 1 := ⟨f - 1, by omega⟩
    unfold tilUp
    by_cases hz : r (2 + d) = 0
    · refine ⟨r, ?_, h26⟩
      rw [f_X6_topped_l2, f_X6_topped_h2, if_neg (jj_le_nlt (nI_le (show t ≤ T by omega) (by omega))), jj_2, jj_grd (jj_i26 (show 2 + d < 26 by omega)), jj_tn (show 2 + d < 2 ^ 31 by omega), wget_def, wrow_row, if_pos hz, if_pos hz]
    · obtain ⟨r2, h1, h2⟩ := til_m hn h0 hd hT2 k (t + 1) f _ (by omega) (by omega) (T26_mn hn h26)
      refine ⟨r2, ?_, h2⟩
      rw [f_X6_topped_l2, f_X6_topped_h2, if_neg (jj_le_nlt (nI_le (show t ≤ T by omega) (by omega))), jj_2, jj_grd (jj_i26 (show 2 + d < 26 by omega)), jj_tn (show 2 + d < 2 ^ 31 by omega), wget_def, wrow_row, if_neg hz, if_neg hz, goes_w h0 hn, jj_cal, jj_bnd, nI_1, h1]
theorem tilUp_cf {n d : Nat} {w v : Wd} (h : CF w v) : ∀ (k t : Nat) (r : Nat → Int32), tilUp n v d k t r = tilUp n w d k t r
  | 0, t, r => rfl
  | k + 1, t, r => by unfold tilUp; rw [tilUp_cf h k, CF_mn h]
theorem mtu_c {n d T q : Nat} {w v : Wd} (hn : n ≤ 6) (hd : d < n) (hT : IvT n w) (hS : IvS n w) (hT2 : T ≤ 40) (hq : q ≤ 9) (hc : CF w v) : ∃ v', f_X5_minutesTillUp (nI d) (nI T) (nI q) v = some (tilUp n w d T 0 (upd (r0 w) 1 (nI q)), v') ∧ CF w v' := by
  obtain ⟨v1, c0, c1, c2⟩ := later_c hn hS hc
  obtain ⟨v2, hv2⟩ : ∃ x, x = wset v1 19 1 (nI q) := ⟨_, rfl⟩
  have e19 : ∀ j, v2.1 19 j = if j = 1 then nI q else v1.1 19 j := fun j => by rw [hv2, wset_v]; simp only [true_and]
  have eo : ∀ a, a ≠ 19 → v2.1 a = v1.1 a := fun a ha => by rw [hv2]; exact (wset_off v1 19 1 _ a ha).1
  have hc2 : CF w v2 := ⟨by rw [hv2, wset_2]; exact c1.1, fun a ha => by rw [eo a (by omega)]; exact c1.2 a ha⟩
  obtain ⟨s0, s1, sA, sB⟩ := c2
  have hS2 : SRel n v2 19 (upd (r0 w) 1 (nI q)) := by
    refine ⟨?_, ?_, fun e he => ?_, fun e h1 h2 => ?_⟩
    · rw [e19, if_neg (by omega), jj_upd, if_neg (by omega)]; exact s0
    · rw [e19, if_pos rfl, jj_upd, if_pos rfl]
    · rw [eo _ (by omega), eo _ (by omega), eo _ (by omega), eo _ (by omega), jj_upd, jj_upd, jj_upd, jj_upd, if_neg (by omega), if_neg (by omega), if_neg (by omega), if_neg (by omega)]
      exact sA e he
    · rw [eo _ (by omega), eo _ (by omega)]; exact sB e h1 h2
  obtain ⟨m, h, i0, im, i1, ih, iA⟩ := RInv_r0 hn hS
  have hR2 : RInv n 99 (upd (r0 w) 1 (nI q)) := by
    refine ⟨m, q, ?_, im, ?_, hq, fun e he => ?_⟩
    · rw [jj_upd, if_neg (by omega)]; exact i0
    · rw [jj_upd, if_pos rfl]
    · rw [jj_upd, jj_upd, jj_upd, jj_upd, if_neg (by omega), if_neg (by omega), if_neg (by omega), if_neg (by omega)]
      exact iA e he
  obtain ⟨v3, h1, h2⟩ := til_c (d := d) (T := T) hn hd hT (by omega) T 0 300 99 v2 _ (by omega) (by omega) hc2 hS2 hR2
  refine ⟨v3, ?_, h2⟩
  rw [f_X5_minutesTillUp, f_X5_minutesTillUp_b0, c0, jj_cal, jj_bnd, ← hv2, jj_bnd]
  exact h1
theorem op_when : Op1 Iv f_X5_when f_X6_when := by
  intro a w hI
  obtain ⟨n, hn, hT, hS, hP, hG, hN, hX, hE⟩ := id hI
  obtain ⟨t0, t1, -⟩ := id hT
  obtain ⟨⟨s0, s1, sA, sB⟩, m, h, i0, im, i1, ih, iA⟩ := id hS
  rcases one_cases a hn with ⟨d, hd, rfl⟩ | hx
  · by_cases hdry : w.1 15 d = -9
    · refine ⟨-2, w, w, ?_, ?_, hI⟩
      · rw [f_X5_when, f_X5_when_b0, isTold_yes t1 hn hd, jj_cal, if_neg jj_ne10, isDry_eq (show d < 6 by omega), jj_cal, if_pos hdry, if_neg jj_ne10]
      · rw [f_X6_when, f_X6_when_b0, isOne_yes t0 hn hd, jj_cal, if_neg jj_ne10, jj_2, jj_grd (jj_i26 (show 2 + d < 26 by omega)), jj_tn (show 2 + d < 2 ^ 31 by omega), wget_def, if_pos (show w.1 96 (2 + d) = -9 by rw [← (sA d hd).1]; exact hdry)]
    · obtain ⟨v, c0, c1⟩ := mtu_c (d := d) (T := 40) (q := h) hn hd hT hS (by omega) ih (CF.rf w)
      have eu : upd (r0 w) 1 (nI h) = r0 w := by
        have e1 : nI h = r0 w 1 := by rw [← i1]; exact (if_pos (by omega)).symm
        rw [e1, jj_upd_self]
      rw [eu] at c0
      have e92 : v.1 92 0 = nI n := by rw [c1.2 92 (by omega)]; exact t0
      obtain ⟨r', m0, m1⟩ := til_m (d := d) (T := 40) (u := v) hn e92 hd (by omega) 40 0 300 (r0 v) (by omega) (by omega) (T26_r0 v)
      rw [tilUp_cf c1, CF_r0 c1] at m0
      refine ⟨tilUp n w d 40 0 (r0 w), v, wrow v 103 r', ?_, ?_, Iv_same (same_row v 103 r' (by omega)) (Iv_same c1.same hI)⟩
      · rw [f_X5_when, f_X5_when_b0, isTold_yes t1 hn hd, jj_cal, if_neg jj_ne10, isDry_eq (show d < 6 by omega), jj_cal, if_neg hdry, if_pos rfl, wget_def, s1, i1, show (40 : Int32) = nI 40 from rfl, c0, jj_cal]
      · rw [f_X6_when, f_X6_when_b0, isOne_yes (w := v) e92 hn hd, jj_cal, if_neg jj_ne10, jj_2, jj_grd (jj_i26 (show 2 + d < 26 by omega)), jj_tn (show 2 + d < 2 ^ 31 by omega), wget_def, if_neg (show ¬ v.1 96 (2 + d) = -9 by rw [c1.2 96 (by omega), ← (sA d hd).1]; exact hdry), asItIs_0, jj_cal, f_X6_topped, f_X6_topped_b0, jj_bnd, CF_r0 c1, show f_X6_topped_l2 300 (nI d) 40 0 (wrow v 103 (r0 w)) = _ from m0, jj_cal]
  · refine ⟨-1, w, w, ?_, ?_, hI⟩
    · rw [f_X5_when, f_X5_when_b0, isTold_no t1 hn hx, jj_cal, if_pos rfl]
    · rw [f_X6_when, f_X6_when_b0, isOne_no t0 hn hx, jj_cal, if_pos rfl]
noncomputable def wrm (n : Nat) (w : Wd) (d T : Nat) : Nat → Nat → Int32
  | 0, _ => -9
  | k + 1, q => if tilUp n w d T 0 (upd (r0 w) 1 (nI q)) = -9 then wrm n w d T k (q + 1) else nI q
theorem wrm_c {n d T : Nat} {w : Wd} (hn : n ≤ 6) (hd : d < n) (hT : IvT n w) (hS : IvS n w) (hT2 : T ≤ 40) : ∀ (k q f : Nat) (v : Wd), q + k = 10 → k < f → CF w v → ∃ v', f_X5_warm_l37 f (nI d) (nI T) (nI q) v = some (wrm n w d T k q, v') ∧ CF w v'
  | 0, q, f, v, hq, hf, hc => by
    obtain ⟨f, rfl⟩ : ∃ k, f = k + 1 := ⟨f - 1, by omega⟩
    obtain rfl : q = 10 := by omega
    refine ⟨v, ?_, hc⟩
    rw [f_X5_warm_l37, f_X5_warm_h37, if_pos (by decide), wrm]
  | k + 1, q, f, v, hq, hf, hc => by
    obtain ⟨f, rfl⟩ : ∃ k, f = k + 1 := ⟨f - 1, by omega⟩
    obtain ⟨v1, h1, h2⟩ := mtu_c (d := d) (T := T) (q := q) hn hd hT hS hT2 (by omega) hc
    rw [wrm]
    by_cases hz : tilUp n w d T 0 (upd (r0 w) 1 (nI q)) = -9
    · obtain ⟨v2, h3, h4⟩ := wrm_c hn hd hT hS hT2 k (q + 1) f v1 (by omega) (by omega) h2
      refine ⟨v2, ?_, h4⟩
      rw [f_X5_warm_l37, f_X5_warm_h37, if_neg (show ¬ (9 : Int32) < nI q from jj_le_nlt (nI_le (a := q) (b := 9) (by omega) (by decide))), h1, jj_cal, if_pos hz, if_pos hz, jj_bnd, nI_1, h3]
    · refine ⟨v1, ?_, h2⟩
      rw [f_X5_warm_l37, f_X5_warm_h37, if_neg (show ¬ (9 : Int32) < nI q from jj_le_nlt (nI_le (a := q) (b := 9) (by omega) (by decide))), h1, jj_cal, if_neg hz, if_neg hz]
theorem wrm_m {n d T : Nat} {u : Wd} (hn : n ≤ 6) (h0 : u.1 92 0 = nI n) (hd : d < n) (hT2 : T ≤ 40) : ∀ (k q f : Nat) (r : Nat → Int32), q + k = 10 → k < f → T26 u r → ∃ r', f_X6_warm_l38 f (nI d) (nI T) (nI q) (wrow u 103 r) = some (wrm n u d T k q, wrow u 103 r') ∧ T26 u r'
  | 0, q, f, r, hq, hf, h26 => by
    obtain ⟨f, rfl⟩ : ∃ k, f = k + 1 := ⟨f - 1, by omega⟩
    obtain rfl : q = 10 := by omega
    refine ⟨r, ?_, h26⟩
    rw [f_X6_warm_l38, f_X6_warm_h38, if_pos (by decide), wrm]
  | k + 1, q, f, r, hq, hf, h26 => by
    obtain ⟨f, rfl⟩ : ∃ k, f = k + 1 := ⟨f - 1, by omega⟩
    obtain ⟨r1, h1, h2⟩ := til_m (d := d) (T := T) (u := u) hn h0 hd (by omega) T 0 300 (upd (r0 u) 1 (nI q)) (by omega) (by omega) (T26_upd (T26_r0 u) (by omega) _)
    have h1' : f_X6_topped (nI d) (nI T) (wrow u 103 (upd (r0 u) 1 (nI q))) = some (tilUp n u d T 0 (upd (r0 u) 1 (nI q)), wrow u 103 r1) := by
      rw [f_X6_topped, f_X6_topped_b0, jj_bnd]
      exact h1
    rw [wrm]
    by_cases hz : tilUp n u d T 0 (upd (r0 u) 1 (nI q)) = -9
    · obtain ⟨r2, h3, h4⟩ := wrm_m hn h0 hd hT2 k (q + 1) f r1 (by omega) (by omega) h2
      refine ⟨r2, ?_, h4⟩
      rw [f_X6_warm_l38, f_X6_warm_h38, if_neg (show ¬ (9 : Int32) < nI q from jj_le_nlt (nI_le (a := q) (b := 9) (by omega) (by decide))), asItIs_w h26, jj_cal, jj_bnd, wset_wrow, h1', jj_cal, if_pos hz, if_pos hz, jj_bnd, nI_1, h3]
    · refine ⟨r1, ?_, h2⟩
      rw [f_X6_warm_l38, f_X6_warm_h38, if_neg (show ¬ (9 : Int32) < nI q from jj_le_nlt (nI_le (a := q) (b := 9) (by omega) (by decide))), asItIs_w h26, jj_cal, jj_bnd, wset_wrow, h1', jj_cal, if_neg hz, if_neg hz]
theorem wrm_cf {n d T : Nat} {w v : Wd} (h : CF w v) : ∀ k q, wrm n v d T k q = wrm n w d T k q
  | 0, _ => rfl
  | k + 1, q => by rw [wrm, wrm, wrm_cf h k, tilUp_cf h, CF_r0 h]
theorem op_warm : Op2 Iv f_X5_warm f_X6_warm := by
  intro a x w hI
  obtain ⟨n, hn, hT, hS, hP, hG, hN, hX, hE⟩ := id hI
  obtain ⟨t0, t1, -⟩ := id hT
  obtain ⟨⟨s0, s1, sA, sB⟩, m, h, i0, im, i1, ih, iA⟩ := id hS
  rcases one_cases a hn with ⟨d, hd, rfl⟩ | hx
  · by_cases g1 : x < 1
    · refine ⟨-1, w, w, ?_, ?_, hI⟩
      · rw [f_X5_warm, f_X5_warm_b0, isTold_yes t1 hn hd, jj_cal, if_neg jj_ne10, if_pos g1]
      · rw [f_X6_warm, f_X6_warm_b0, isOne_yes t0 hn hd, jj_cal, if_neg jj_ne10, in_eq, if_neg (fun q => q.1 g1), jj_cal, if_pos rfl]
    · by_cases g2 : x ≤ 40
      · have hx0 : ¬ x < 0 := fun q => g1 (by
          rw [Int32.lt_iff_toInt_lt] at q ⊢
          have a0 : (0 : Int32).toInt = 0 := by decide
          have a1 : (1 : Int32).toInt = 1 := by decide
          omega)
        by_cases hdry : w.1 15 d = -9
        · refine ⟨-2, w, w, ?_, ?_, hI⟩
          · rw [f_X5_warm, f_X5_warm_b0, isTold_yes t1 hn hd, jj_cal, if_neg jj_ne10, if_neg g1, if_pos g2, isDry_eq (show d < 6 by omega), jj_cal, if_pos hdry, if_neg jj_ne10]
          · rw [f_X6_warm, f_X6_warm_b0, isOne_yes t0 hn hd, jj_cal, if_neg jj_ne10, in_eq, if_pos ⟨g1, le40 g2⟩, jj_cal, if_neg jj_ne10, jj_2, jj_grd (jj_i26 (show 2 + d < 26 by omega)), jj_tn (show 2 + d < 2 ^ 31 by omega), wget_def, if_pos (show w.1 96 (2 + d) = -9 by rw [← (sA d hd).1]; exact hdry)]
        · obtain ⟨T, hT31, rfl⟩ := nI_of hx0
          have hT40 : T ≤ 40 := (nI_leI (a := T) (b := 40) hT31 (by decide)).mp g2
          obtain ⟨v, c0, c1⟩ := wrm_c (d := d) (T := T) hn hd hT hS hT40 10 0 300 w (by omega) (by omega) (CF.rf w)
          have e92 : v.1 92 0 = nI n := by rw [c1.2 92 (by omega)]; exact t0
          obtain ⟨r', m0, m1⟩ := wrm_m (d := d) (T := T) (u := v) hn e92 hd hT40 10 0 300 (v.1 103) (by omega) (by omega) (fun _ _ => rfl)
          rw [wrm_cf c1, wrow_self] at m0
          refine ⟨wrm n w d T 10 0, v, wrow v 103 r', ?_, ?_, Iv_same (same_row v 103 r' (by omega)) (Iv_same c1.same hI)⟩
          · rw [f_X5_warm, f_X5_warm_b0, isTold_yes t1 hn hd, jj_cal, if_neg jj_ne10, if_neg g1, if_pos g2, isDry_eq (show d < 6 by omega), jj_cal, if_neg hdry, if_pos rfl, jj_bnd]
            exact c0
          · rw [f_X6_warm, f_X6_warm_b0, isOne_yes (w := v) e92 hn hd, jj_cal, if_neg jj_ne10, in_eq, if_pos ⟨g1, le40 g2⟩, jj_cal, if_neg jj_ne10, jj_2, jj_grd (jj_i26 (show 2 + d < 26 by omega)), jj_tn (show 2 + d < 2 ^ 31 by omega), wget_def, if_neg (show ¬ v.1 96 (2 + d) = -9 by rw [c1.2 96 (by omega), ← (sA d hd).1]; exact hdry), jj_bnd]
            exact m0
      · refine ⟨-1, w, w, ?_, ?_, hI⟩
        · rw [f_X5_warm, f_X5_warm_b0, isTold_yes t1 hn hd, jj_cal, if_neg jj_ne10, if_neg g1, if_neg g2]
        · rw [f_X6_warm, f_X6_warm_b0, isOne_yes t0 hn hd, jj_cal, if_neg jj_ne10, in_eq, if_neg (fun q => q.2 (jj_nle_lt g2)), jj_cal, if_pos rfl]
  · refine ⟨-1, w, w, ?_, ?_, hI⟩
    · rw [f_X5_warm, f_X5_warm_b0, isTold_no t1 hn hx, jj_cal, if_pos rfl]
    · rw [f_X6_warm, f_X6_warm_b0, isOne_no t0 hn hx, jj_cal, if_pos rfl]
