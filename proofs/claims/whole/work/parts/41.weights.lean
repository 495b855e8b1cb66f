/-! PURE: weights, look -/
def Gb (w : Wd) (d sn v : Nat) : Bool := Gw w d sn (nI v)
theorem fitting_c {d sn : Nat} {w v : Wd} (hv : Agr w v) (hd : d < 6) (hs : sn ≤ 6) (n1 : w.1 86 3 = nI sn) (hm : ∀ j, j < sn → ∃ m, m ≤ 20 ∧ w.1 88 j = nI m) : f_X5_fittingWeights (nI d) v = some (lI (bset (Gb w d sn) 41), v) := by
  rw [f_X5_fittingWeights, f_X5_fittingWeights_b0, jj_bnd, jj_bnd]
  exact jj_loopc (F := fun f y a => f_X5_fittingWeights_l5 f (nI d) a y v) (N := 41) (fun i => lI (bset (Gb w d sn) i)) (by
    intro f i hi
    show f_X5_fittingWeights_l5 (f + 1) (nI d) (lI (bset (Gb w d sn) i)) (nI i) v = f_X5_fittingWeights_l5 f (nI d) (lI (bset (Gb w d sn) (i + 1))) (nI (i + 1)) v
    rw [f_X5_fittingWeights_l5, f_X5_fittingWeights_h5, if_neg (show ¬ (40 : Int32) < nI i from jj_le_nlt (nI_le (a := i) (b := 40) (by omega) (by decide))), fits_c hv hd hs n1 hm, jj_cal, bset]
    cases h : Gw w d sn (nI i) with
    | false => rw [if_neg (show ¬ false = true by decide), if_pos (show (0 : Int32) = 0 from rfl), f_X5_fittingWeights_b29, jj_bnd, nI_1, if_neg (show ¬ Gb w d sn i = true by unfold Gb; rw [h]; decide)]
    | true => rw [if_pos (show true = true from rfl), if_neg jj_ne10, jj_bnd, f_X5_fittingWeights_b29, jj_bnd, nI_1, l_shl i hi, lI_or, if_pos (show Gb w d sn i = true from h)]) (by
    intro f
    show f_X5_fittingWeights_l5 (f + 1) (nI d) (lI (bset (Gb w d sn) 41)) (nI 41) v = _
    rw [f_X5_fittingWeights_l5, f_X5_fittingWeights_h5, if_pos (by decide)]) 41 0 300 rfl (by decide)
theorem scF_succ {p : Nat → Bool} : ∀ (k i : Nat), scF p i (k + 1) = match scF p i k with
    | none => if p (i + k) = true then some (i + k) else none
    | some e => some e
  | 0, i => rfl
  | k + 1, i => by
    rw [scF, scF_succ k (i + 1), scF]
    by_cases h : p i = true
    · rw [if_pos h, if_pos h]
    · rw [if_neg h, if_neg h, show i + 1 + k = i + (k + 1) by omega]
def gst (p : Nat → Bool) : Nat → Option Nat
  | 0 => none
  | n + 1 => if p n = true then some n else gst p n
theorem cnt_scF {p : Nat → Bool} : ∀ k, (cnt p k = 0 ↔ scF p 0 k = none)
  | 0 => ⟨fun _ => rfl, fun _ => rfl⟩
  | k + 1 => by
    have ih := cnt_scF (p := p) k
    rw [scF_succ, cnt, Nat.zero_add]
    cases h : scF p 0 k with
    | none =>
      have := ih.mpr h
      by_cases q : p k = true
      · rw [if_pos q, if_pos q]; simp
      · rw [if_neg q, if_neg q]; simp [this]
    | some e =>
      have : cnt p k ≠ 0 := fun z => by rw [ih.mp z] at h; cases h
      simp
      omega
theorem least_c {N : Nat} (w : Wd) : ∀ (k i f : Nat), i + k = 41 → k < f → f_X5_least_l2 f (lI N) (nI i) w = some (encO (scF (fun j => N.testBit j) i k), w)
  | 0, i, f, hi, hf => by
    obtain ⟨f, rfl⟩ : ∃ k, f = k + 1 := ⟨f - 1, by omega⟩
    obtain rfl : i = 41 := by omega
    rw [f_X5_least_l2, f_X5_least_h2, if_pos (by decide)]
    rfl
  | k + 1, i, f, hi, hf => by
    obtain ⟨f, rfl⟩ : ∃ k, f = k + 1 := ⟨f - 1, by omega⟩
    have hb := l_bit (N := N) (show i < 41 by omega)
    rw [f_X5_least_l2, f_X5_least_h2, if_neg (show ¬ (40 : Int32) < nI i from jj_le_nlt (nI_le (a := i) (b := 40) (by omega) (by decide))), scF]
    rcases Bool.eq_false_or_eq_true (N.testBit i) with h | h
    · rw [if_neg (fun q => by rw [hb.mp q] at h; cases h), if_pos h]; rfl
    · rw [if_pos (hb.mpr h), if_neg (show ¬ N.testBit i = true by rw [h]; decide), jj_bnd, nI_1, least_c w k (i + 1) f (by omega) (by omega)]
theorem pre1 (k : Nat) (h : k + 1 < 2 ^ 31) : nI (k + 1) + -1 = nI k := by
  rw [show nI (k + 1) + -1 = nI (k + 1) - 1 from (Int32.sub_eq_add_neg (nI (k + 1)) 1).symm]
  exact nI_sub (b := 1) (by omega)
theorem greatest_c {N : Nat} (w : Wd) : ∀ (k f : Nat), k ≤ 41 → k < f → f_X5_greatest_l3 f (lI N) (nI k + -1) w = some (encO (gst (fun j => N.testBit j) k), w)
  | 0, f, hk, hf => by
    obtain ⟨f, rfl⟩ : ∃ k, f = k + 1 := ⟨f - 1, by omega⟩
    rw [f_X5_greatest_l3, f_X5_greatest_h3, if_pos (by decide)]
    rfl
  | k + 1, f, hk, hf => by
    obtain ⟨f, rfl⟩ : ∃ k, f = k + 1 := ⟨f - 1, by omega⟩
    have hb := l_bit (N := N) (show k < 41 by omega)
    rw [pre1 k (by omega), f_X5_greatest_l3, f_X5_greatest_h3, if_neg (nI_pos (show k < 2 ^ 31 by omega)), gst]
    rcases Bool.eq_false_or_eq_true (N.testBit k) with h | h
    · rw [if_neg (fun q => by rw [hb.mp q] at h; cases h), if_pos h]; rfl
    · rw [if_pos (hb.mpr h), if_neg (show ¬ N.testBit k = true by rw [h]; decide), jj_bnd, greatest_c w k f (by omega) (by omega)]
theorem gst_cong {p q : Nat → Bool} : ∀ n, (∀ j, j < n → p j = q j) → gst p n = gst q n
  | 0, _ => rfl
  | n + 1, h => by rw [gst, gst, h n (by omega), gst_cong n (fun j hj => h j (by omega))]
theorem weights_m {n d sn : Nat} {w u : Wd} (hu : Agr w u) (hn : n ≤ 6) (hd : d < n) (hT : IvT n w) (hS : IvS n w) (hs : sn ≤ 6) (n2 : w.1 92 12 = nI sn) (hm : ∀ j, j < sn → w.1 87 j = w.1 100 (3 * j) ∧ w.1 88 j = w.1 100 (3 * j + 1) ∧ w.1 89 j = w.1 100 (3 * j + 2) ∧ ∃ m, m ≤ 20 ∧ w.1 100 (3 * j + 1) = nI m) (x : Int32) : ∀ (k i f : Nat), i + k = 41 → k < f → f_X6_weights_l32 f (nI d) x (nI (cnt (Gb w d sn) i)) (encO (scF (Gb w d sn) 0 i)) (encO (gst (Gb w d sn) i)) (nI i) u = some (if x = 0 then nI (cnt (Gb w d sn) 41) else if x = 1 then encO (scF (Gb w d sn) 0 41) else encO (gst (Gb w d sn) 41), u)
  | 0, i, f, hi, hf => by
    obtain ⟨f, rfl⟩ : ∃ k, f = k + 1 := ⟨f - 1, by omega⟩
    obtain rfl : i = 41 := by omega
    rw [f_X6_weights_l32, f_X6_weights_h32, if_pos (by decide)]
    by_cases x0 : x = 0
    · rw [if_pos x0, if_pos x0]
    · by_cases x1 : x = 1
      · rw [if_neg x0, if_neg x0, if_pos x1, if_pos x1]
      · rw [if_neg x0, if_neg x0, if_neg x1, if_neg x1]
  | k + 1, i, f, hi, hf => by
    obtain ⟨f, rfl⟩ : ∃ k, f = k + 1 := ⟨f - 1, by omega⟩
    have ih := weights_m hu hn hd hT hS hs n2 hm x k (i + 1) f (by omega) (by omega)
    have hc := cnt_le (p := Gb w d sn) i
    rw [f_X6_weights_l32, f_X6_weights_h32, if_neg (show ¬ (40 : Int32) < nI i from jj_le_nlt (nI_le (a := i) (b := 40) (by omega) (by decide))), fits_m hu hn hd hT hS hs n2 hm, jj_cal, ← ih, cnt, gst, scF_succ, Nat.zero_add]
    have hnext : ∀ a b c, f_X6_weights_b69 (f_X6_weights_l32 f) (nI d) x a b c (nI i) u = f_X6_weights_l32 f (nI d) x a b c (nI (i + 1)) u := fun a b c => by rw [f_X6_weights_b69, jj_bnd, nI_1]
    cases h : Gw w d sn (nI i) with
    | false =>
      have hg : ¬ Gb w d sn i = true := by unfold Gb; rw [h]; decide
      rw [if_neg (show ¬ false = true by decide), if_pos (show (0 : Int32) = 0 from rfl), hnext, if_neg hg, if_neg hg, if_neg hg]
      cases scF (Gb w d sn) 0 i <;> rfl
    | true =>
      have hg : Gb w d sn i = true := h
      rw [if_pos (show true = true from rfl), if_neg jj_ne10, if_pos hg, if_pos hg, if_pos hg]
      cases hsc : scF (Gb w d sn) 0 i with
      | none =>
        have h0 := (cnt_scF i).mpr hsc
        rw [h0, if_pos (show nI 0 = 0 from rfl), jj_bnd, jj_bnd, jj_bnd, hnext, nI_1]
        rfl
      | some e =>
        have h0 : ¬ cnt (Gb w d sn) i = 0 := fun z => by rw [(cnt_scF i).mp z] at hsc; cases hsc
        rw [if_neg (show ¬ nI (cnt (Gb w d sn) i) = 0 from fun z => h0 ((nI_eq (b := 0) (by omega) (by decide)).mp z)), jj_bnd, jj_bnd, jj_bnd, hnext, nI_1]
        rfl
theorem bset_tb (p : Nat → Bool) {j : Nat} (hj : j < 41) : (bset p 41).testBit j = p j := by rw [bset_bit]; simp [hj]
theorem op_weights : Op2 Iv f_X5_weights f_X6_weights := by
  intro a x w hI
  obtain ⟨n, hn, hT, hS, hP, hG, hN, hX, hE⟩ := id hI
  obtain ⟨t0, t1, -⟩ := id hT
  obtain ⟨sn, hs, n1, n2, n3⟩ := id hN
  have hm1 : ∀ j, j < sn → ∃ m, m ≤ 20 ∧ w.1 88 j = nI m := fun j hj => by
    obtain ⟨-, q, -, m, m1, m2⟩ := n3 j hj
    exact ⟨m, m1, q.trans m2⟩
  rcases one_cases a hn with ⟨d, hd, rfl⟩ | hx
  · by_cases g1 : x < 0
    · refine ⟨-1, w, w, ?_, ?_, hI⟩
      · rw [f_X5_weights, f_X5_weights_b0, isTold_yes t1 hn hd, jj_cal, if_neg jj_ne10, if_pos g1]
      · rw [f_X6_weights, f_X6_weights_b0, isOne_yes t0 hn hd, jj_cal, if_neg jj_ne10, in_eq, if_neg (fun q => q.1 g1), jj_cal, if_pos rfl]
    · by_cases g2 : x ≤ 2
      · have hfit := fitting_c (Agr.rf w) (show d < 6 by omega) hs n1 hm1
        have hN41 : bset (Gb w d sn) 41 < 2 ^ 41 := bset_lt _ 41
        have ec : cnt (fun j => (bset (Gb w d sn) 41).testBit j) 41 = cnt (Gb w d sn) 41 := cnt_cong 41 (fun j hj => bset_tb _ hj)
        have es : scF (fun j => (bset (Gb w d sn) 41).testBit j) 0 41 = scF (Gb w d sn) 0 41 := scF_cong 41 0 (fun j _ hj => bset_tb _ (by omega))
        have eg : gst (fun j => (bset (Gb w d sn) 41).testBit j) 41 = gst (Gb w d sn) 41 := gst_cong 41 (fun j hj => bset_tb _ hj)
        have hmod := weights_m (Agr.rf w) hn hd hT hS hs n2 n3 x 41 0 300 rfl (by decide)
        refine ⟨if x = 0 then nI (cnt (Gb w d sn) 41) else if x = 1 then encO (scF (Gb w d sn) 0 41) else encO (gst (Gb w d sn) 41), w, w, ?_, ?_, hI⟩
        · rw [f_X5_weights, f_X5_weights_b0, isTold_yes t1 hn hd, jj_cal, if_neg jj_ne10, if_neg g1, if_pos g2, hfit, jj_cal, jj_bnd]
          by_cases x0 : x = 0
          · rw [if_pos x0, if_pos x0, lbc_eq hN41, jj_cal, ec]
          · by_cases x1 : x = 1
            · rw [if_neg x0, if_neg x0, if_pos x1, if_pos x1, f_X5_least, f_X5_least_b0, jj_bnd, show (0 : Int32) = nI 0 from rfl, least_c w 41 0 300 rfl (by decide), jj_cal, es]
            · rw [if_neg x0, if_neg x0, if_neg x1, if_neg x1, f_X5_greatest, f_X5_greatest_b0, jj_bnd, show (40 : Int32) = nI 41 + -1 by decide, greatest_c w 41 300 (Nat.le_refl _) (by decide), jj_cal, eg]
        · rw [f_X6_weights, f_X6_weights_b0, isOne_yes t0 hn hd, jj_cal, if_neg jj_ne10, in_eq, if_pos ⟨g1, jj_le_nlt g2⟩, jj_cal, if_neg jj_ne10, jj_bnd, jj_bnd, jj_bnd, jj_bnd]
          exact hmod
      · refine ⟨-1, w, w, ?_, ?_, hI⟩
        · rw [f_X5_weights, f_X5_weights_b0, isTold_yes t1 hn hd, jj_cal, if_neg jj_ne10, if_neg g1, if_neg g2]
        · rw [f_X6_weights, f_X6_weights_b0, isOne_yes t0 hn hd, jj_cal, if_neg jj_ne10, in_eq, if_neg (fun q => q.2 (jj_nle_lt g2)), jj_cal, if_pos rfl]
  · refine ⟨-1, w, w, ?_, ?_, hI⟩
    · rw [f_X5_weights, f_X5_weights_b0, isTold_no t1 hn hx, jj_cal, if_pos rfl]
    · rw [f_X6_weights, f_X6_weights_b0, isOne_no t0 hn hx, jj_cal, if_pos rfl]
