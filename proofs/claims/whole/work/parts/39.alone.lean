/-! PURE: one alone, and what was seen -/
def Agr (w v : Wd) : Prop := v.2 = w.2 ∧ ∀ a, a ≠ 91 → a ≠ 105 → v.1 a = w.1 a
theorem Agr.rf (w : Wd) : Agr w w := ⟨rfl, fun _ _ _ => rfl⟩
theorem Agr.same {w v : Wd} (h : Agr w v) : Same w v := ⟨h.1, fun a ha => h.2 a (by omega) (by omega), by rw [h.2 1 (by omega) (by omega)], fun j _ => by rw [h.2 92 (by omega) (by omega)], by rw [h.2 90 (by omega) (by omega)]⟩
theorem Agr.row {w v : Wd} (h : Agr w v) {a : Nat} (ha : a = 91 ∨ a = 105) (r : Nat → Int32) : Agr w (wrow v a r) := ⟨h.1, fun b h1 h2 => by rw [wrow_off (by omega)]; exact h.2 b h1 h2⟩
def alS (w : Wd) (d : Nat) (wt : Int32) (p : Int32 × Int32) : Int32 × Int32 := (imin 30 (p.1 + w.1 7 d), mvI p.2 ((imin 30 (p.1 + w.1 7 d) + w.1 14 1) - wt))
def al (w : Wd) (d : Nat) (wt : Int32) (t : Nat) : Int32 := (itr (fun _ p => alS w d wt p) 0 t (w.1 16 d, 10)).2
theorem al_ok (w : Wd) (d : Nat) (wt : Int32) (t : Nat) : ∃ k, k ≤ 10 ∧ al w d wt t = nI k := by
  unfold al
  exact itr_inv (s := fun _ p => alS w d wt p) (P := fun _ p => ∃ k, k ≤ 10 ∧ p.2 = nI k) t 0 (w.1 16 d, 10) ⟨10, by omega, rfl⟩ (fun j p _ _ hP => by
    obtain ⟨k, k1, k2⟩ := hP
    show ∃ k, k ≤ 10 ∧ mvI p.2 _ = nI k
    rw [k2]
    exact mv_ok k1 _)
theorem alS_mk (w : Wd) (d : Nat) (wt a b : Int32) : alS w d wt (a, b) = (imin 30 (a + w.1 7 d), mvI b ((imin 30 (a + w.1 7 d) + w.1 14 1) - wt)) := rfl
theorem alone_cl {d t : Nat} {w v : Wd} (e7 : v.1 7 = w.1 7) (e14 : v.1 14 = w.1 14) (hd : d < 6) (ht : t < 300) (wt : Int32) : ∀ (k i f : Nat) (a b : Int32), i + k = t → k < f → f_X5_depthAlone_l18 f (nI d) wt (nI t) b a (nI i) v = some ((itr (fun _ p => alS w d wt p) i k (a, b)).2, v)
  | 0, i, f, a, b, hi, hf => by
    obtain ⟨f, rfl⟩ : ∃ k, f = k + 1 := ⟨f - 1, by omega⟩
    obtain rfl : i = t := by omega
    rw [f_X5_depthAlone_l18, f_X5_depthAlone_h18, if_pos (nI_le (Nat.le_refl i) (by omega)), itr]
  | k + 1, i, f, a, b, hi, hf => by
    obtain ⟨f, rfl⟩ : ∃ k, f = k + 1 := ⟨f - 1, by omega⟩
    rw [f_X5_depthAlone_l18, f_X5_depthAlone_h18, if_neg (nI_ge (show i < t by omega) (by omega)), jj_grd (jj_i6 hd), jj_bnd, jj_tn (show d < 2 ^ 31 by omega), wget_def, wget_def, e7, e14, moved_eq, jj_cal, jj_bnd, jj_bnd, nI_1, alone_cl e7 e14 hd ht wt k (i + 1) f _ _ (by omega) (by omega), itr, alS_mk]
theorem alone_c {d t : Nat} {w v : Wd} (hv : Agr w v) (hd : d < 6) (ht : t < 300) (wt : Int32) : f_X5_depthAlone (nI d) wt (nI t) v = some (al w d wt t, v) := by
  have e16 : v.1 16 = w.1 16 := hv.2 16 (by decide) (by decide)
  have h := alone_cl (hv.2 7 (by decide) (by decide)) (hv.2 14 (by decide) (by decide)) hd ht wt t 0 300 (w.1 16 d) 10 (by omega) ht
  rw [f_X5_depthAlone, f_X5_depthAlone_b0, jj_bnd, jj_grd (jj_i6 hd), jj_bnd, jj_bnd, jj_tn (show d < 2 ^ 31 by omega), wget_def, e16, show (0 : Int32) = nI 0 from rfl, h]
  rfl
theorem mvM_if {γ : Type} (x y : Int32) (K : Int32 → γ) : (if y ≤ 0 then (if 0 ≤ y then (if 0 ≤ x - 0 then (if x - 0 ≤ 10 then K (x - 0) else K 10) else K 0) else (if 0 ≤ x - (-1) then (if x - (-1) ≤ 10 then K (x - (-1)) else K 10) else K 0)) else (if 0 ≤ x - 1 then (if x - 1 ≤ 10 then K (x - 1) else K 10) else K 0)) = K (mvM x y) := by
  unfold mvM
  by_cases h1 : y ≤ 0
  · by_cases h2 : 0 ≤ y
    · by_cases h3 : 0 ≤ x - 0
      · by_cases h4 : x - 0 ≤ 10
        · simp only [h1, h2, h3, h4, if_true]
        · simp only [h1, h2, h3, h4, if_true, if_false]
      · simp only [h1, h2, h3, if_true, if_false]
    · by_cases h3 : 0 ≤ x - (-1)
      · by_cases h4 : x - (-1) ≤ 10
        · simp only [h1, h2, h3, h4, if_true, if_false]
        · simp only [h1, h2, h3, h4, if_true, if_false]
      · simp only [h1, h2, h3, if_true, if_false]
  · by_cases h3 : 0 ≤ x - 1
    · by_cases h4 : x - 1 ≤ 10
      · simp only [h1, h3, h4, if_true, if_false]
      · simp only [h1, h3, h4, if_true, if_false]
    · simp only [h1, h3, if_true, if_false]
theorem alone_ml {d t : Nat} {w u : Wd} (e94 : u.1 94 d = w.1 7 d) (e961 : u.1 96 1 = w.1 14 1) (hd : d < 6) (ht : t < 300) (wt : Int32) : ∀ (k i f : Nat) (a : Int32) (c : Nat), i + k = t → k < f → c ≤ 10 → f_X6_deepAlone_l18 f (nI d) wt (nI t) a (nI c) (nI i) u = some ((itr (fun _ p => alS w d wt p) i k (a, nI c)).2, u)
  | 0, i, f, a, c, hi, hf, hc => by
    obtain ⟨f, rfl⟩ : ∃ k, f = k + 1 := ⟨f - 1, by omega⟩
    obtain rfl : i = t := by omega
    rw [f_X6_deepAlone_l18, f_X6_deepAlone_h18, if_pos (nI_le (Nat.le_refl i) (by omega)), itr]
  | k + 1, i, f, a, c, hi, hf, hc => by
    obtain ⟨f, rfl⟩ : ∃ k, f = k + 1 := ⟨f - 1, by omega⟩
    obtain ⟨c2, c3, c4⟩ := mv_ok hc ((imin 30 (a + w.1 7 d) + w.1 14 1) - wt)
    have ih := alone_ml e94 e961 hd ht wt k (i + 1) f (imin 30 (a + w.1 7 d)) c2 (by omega) (by omega) c3
    rw [itr, alS_mk, c4, ← ih, f_X6_deepAlone_l18, f_X6_deepAlone_h18, if_neg (nI_ge (show i < t by omega) (by omega)), jj_grd (jj_i6 hd), jj_tn (show d < 2 ^ 31 by omega), wget_def, e94]
    rw [imin30] at c4 ⊢
    by_cases h : a + w.1 7 d ≤ 30
    · rw [if_pos h, jj_grd (jj_i6 hd), jj_bnd, jj_bnd, wget_def, e961]
      rw [if_pos h] at c4 ⊢
      rw [← c4, mv_same hc]
      exact (mvM_if (nI c) ((a + w.1 7 d + w.1 14 1) - wt) (fun z => f_X6_deepAlone_l18 f (nI d) wt (nI t) (a + w.1 7 d) z (nI i + 1) u)).trans (by rw [nI_1])
    · rw [if_neg h, jj_bnd, jj_bnd, wget_def, e961]
      rw [if_neg h] at c4 ⊢
      rw [← c4, mv_same hc]
      exact (mvM_if (nI c) (((30 : Int32) + w.1 14 1) - wt) (fun z => f_X6_deepAlone_l18 f (nI d) wt (nI t) 30 z (nI i + 1) u)).trans (by rw [nI_1])
theorem alone_m {n d t : Nat} {w u : Wd} (hu : Agr w u) (hn : n ≤ 6) (hd : d < n) (hT : IvT n w) (hS : IvS n w) (ht : t < 300) (wt : Int32) : f_X6_deepAlone (nI d) wt (nI t) u = some (al w d wt t, u) := by
  obtain ⟨-, -, -, -, -, -, -, -, tA⟩ := id hT
  obtain ⟨⟨s0, s1, sA, sB⟩, -⟩ := id hS
  have e94 : u.1 94 d = w.1 7 d := by rw [hu.2 94 (by decide) (by decide)]; exact (tA d hd).2.1.symm
  have e961 : u.1 96 1 = w.1 14 1 := by rw [hu.2 96 (by decide) (by decide)]; exact s1.symm
  have e968 : u.1 96 (8 + d) = w.1 16 d := by rw [hu.2 96 (by decide) (by decide)]; exact (sA d hd).2.1.symm
  have h := alone_ml e94 e961 (show d < 6 by omega) ht wt t 0 300 (w.1 16 d) 10 (by omega) ht (by omega)
  rw [f_X6_deepAlone, f_X6_deepAlone_b0, jj_8, jj_grd (jj_i26 (show 8 + d < 26 by omega)), jj_bnd, jj_bnd, jj_bnd, jj_tn (show 8 + d < 2 ^ 31 by omega), wget_def, e968, show (0 : Int32) = nI 0 from rfl, show (10 : Int32) = nI 10 from rfl, h]
  rfl
def okW (w : Wd) (d : Nat) (wt : Int32) (j : Nat) : Bool := if w.1 87 j = nI d then decide (al w d wt (w.1 88 j).toNatClampNeg = w.1 89 j) else true
def allB (p : Nat → Bool) : Nat → Bool
  | 0 => true
  | n + 1 => allB p n && p n
theorem allB_false {p : Nat → Bool} {i : Nat} (h : p i = false) : ∀ n, i < n → allB p n = false
  | 0, q => by omega
  | n + 1, q => by
    rw [allB]
    by_cases e : i = n
    · rw [← e, h]; simp
    · rw [allB_false h n (by omega)]; rfl
def Gw (w : Wd) (d sn : Nat) (wt : Int32) : Bool := allB (okW w d wt) sn
theorem fits_c {d sn : Nat} {w v : Wd} (hv : Agr w v) (hd : d < 6) (hs : sn ≤ 6) (n1 : w.1 86 3 = nI sn) (hm : ∀ j, j < sn → ∃ m, m ≤ 20 ∧ w.1 88 j = nI m) (wt : Int32) : f_X5_fitsWhatIsSeen (nI d) wt v = some (if Gw w d sn wt = true then 1 else 0, v) := by
  have e86 : v.1 86 = w.1 86 := hv.2 86 (by decide) (by decide)
  have e87 : v.1 87 = w.1 87 := hv.2 87 (by decide) (by decide)
  have e88 : v.1 88 = w.1 88 := hv.2 88 (by decide) (by decide)
  have e89 : v.1 89 = w.1 89 := hv.2 89 (by decide) (by decide)
  have key : ∀ (k j f : Nat), j + k = sn → k < f → allB (okW w d wt) j = true → f_X5_fitsWhatIsSeen_l2 f (nI d) wt (nI j) v = some (if Gw w d sn wt = true then 1 else 0, v) := by
    intro k
    induction k with
    | zero =>
      intro j f hj hf ha
      obtain ⟨f, rfl⟩ : ∃ k, f = k + 1 := ⟨f - 1, by omega⟩
      obtain rfl : j = sn := by omega
      rw [f_X5_fitsWhatIsSeen_l2, f_X5_fitsWhatIsSeen_h2, show Gw w d j wt = true from ha, if_pos (show true = true from rfl)]
      by_cases q : (6 : Int32) ≤ nI j
      · rw [if_pos q]
      · rw [if_neg q, wget_def, e86, n1, if_pos (nI_le (Nat.le_refl j) (by omega))]
    | succ k ih =>
      intro j f hj hf ha
      obtain ⟨f, rfl⟩ : ∃ k, f = k + 1 := ⟨f - 1, by omega⟩
      have h6 : ¬ (6 : Int32) ≤ nI j := nI_ge (b := 6) (show j < 6 by omega) (by decide)
      obtain ⟨m, m1, m2⟩ := hm j (by omega)
      have hnext : f_X5_fitsWhatIsSeen_b61 (f_X5_fitsWhatIsSeen_l2 f) (nI d) wt (nI j) v = f_X5_fitsWhatIsSeen_l2 f (nI d) wt (nI (j + 1)) v := by rw [f_X5_fitsWhatIsSeen_b61, jj_bnd, nI_1]
      rw [f_X5_fitsWhatIsSeen_l2, f_X5_fitsWhatIsSeen_h2, if_neg h6, wget_def, e86, n1, if_neg (nI_ge (show j < sn by omega) (by omega)), jj_grd (jj_i6 (show j < 6 by omega)), jj_tn (show j < 2 ^ 31 by omega), wget_def, e87]
      by_cases h87 : w.1 87 j = nI d
      · rw [if_pos h87, jj_grd (jj_i6 (show j < 6 by omega)), wget_def, e88, m2, alone_c hv hd (by omega), jj_cal, jj_grd (jj_i6 (show j < 6 by omega)), wget_def, e89]
        by_cases h89 : al w d wt m = w.1 89 j
        · rw [if_pos h89, hnext]
          refine ih (j + 1) f (by omega) (by omega) ?_
          rw [allB, ha]
          simp [okW, h87, m2, jj_tn (show m < 2 ^ 31 by omega), h89]
        · have : Gw w d sn wt = false := allB_false (i := j) (by simp [okW, h87, m2, jj_tn (show m < 2 ^ 31 by omega), h89]) sn (by omega)
          rw [if_neg h89, this]
          rfl
      · rw [if_neg h87, hnext]
        refine ih (j + 1) f (by omega) (by omega) ?_
        rw [allB, ha]
        simp [okW, h87]
  rw [f_X5_fitsWhatIsSeen, f_X5_fitsWhatIsSeen_b0, jj_bnd]
  exact key sn 0 300 (by omega) (by omega) rfl
theorem nb_1 : nb 1 = true := rfl
theorem fits_m {n d sn : Nat} {w u : Wd} (hu : Agr w u) (hn : n ≤ 6) (hd : d < n) (hT : IvT n w) (hS : IvS n w) (hs : sn ≤ 6) (n2 : w.1 92 12 = nI sn) (hm : ∀ j, j < sn → w.1 87 j = w.1 100 (3 * j) ∧ w.1 88 j = w.1 100 (3 * j + 1) ∧ w.1 89 j = w.1 100 (3 * j + 2) ∧ ∃ m, m ≤ 20 ∧ w.1 100 (3 * j + 1) = nI m) (wt : Int32) : f_X6_isSo (nI d) wt u = some (if Gw w d sn wt = true then 1 else 0, u) := by
  have e92 : u.1 92 = w.1 92 := hu.2 92 (by decide) (by decide)
  have e100 : u.1 100 = w.1 100 := hu.2 100 (by decide) (by decide)
  rw [f_X6_isSo, f_X6_isSo_b0, jj_bnd, jj_bnd]
  exact jj_loopc (F := fun f y a => f_X6_isSo_l5 f (nI d) wt a y u) (N := sn) (fun i => if allB (okW w d wt) i = true then (1 : Int32) else 0) (by
    intro f i hi
    show f_X6_isSo_l5 (f + 1) (nI d) wt (if allB (okW w d wt) i = true then (1 : Int32) else 0) (nI i) u = f_X6_isSo_l5 f (nI d) wt (if allB (okW w d wt) (i + 1) = true then (1 : Int32) else 0) (nI (i + 1)) u
    obtain ⟨q1, q2, q3, m, m1, m2⟩ := hm i hi
    have h62 : f_X6_isSo_b62 (f_X6_isSo_l5 f) (nI d) wt (nI i) u = f_X6_isSo_l5 f (nI d) wt 1 (nI (i + 1)) u := by rw [f_X6_isSo_b62, jj_bnd, jj_bnd, nI_1]
    have h66 : f_X6_isSo_b66 (f_X6_isSo_l5 f) (nI d) wt (nI i) u = f_X6_isSo_l5 f (nI d) wt 0 (nI (i + 1)) u := by rw [f_X6_isSo_b66, jj_bnd, jj_bnd, nI_1]
    rw [f_X6_isSo_l5, f_X6_isSo_h5, wget_def, e92, n2, if_neg (nI_ge hi (by omega)), allB]
    cases ha : allB (okW w d wt) i with
    | false =>
      rw [if_neg (show ¬ false = true by decide), if_pos (show (0 : Int32) = 0 from rfl), h66]
      rfl
    | true =>
      rw [if_pos (show true = true from rfl), if_neg jj_ne10, lit3n, jj_grd (jj_inb (show 3 * i < 18 by omega) (by decide)), jj_tn (show 3 * i < 2 ^ 31 by omega), wget_def, e100, ← q1]
      by_cases h87 : w.1 87 i = nI d
      · rw [if_pos h87, nI_1, nI_2, jj_grd (jj_inb (show 3 * i + 1 < 18 by omega) (by decide)), jj_tn (show 3 * i + 1 < 2 ^ 31 by omega), jj_tn (show 3 * i + 2 < 2 ^ 31 by omega), wget_def, e100, m2, alone_m hu hn hd hT hS (by omega), jj_cal, jj_grd (jj_inb (show 3 * i + 2 < 18 by omega) (by decide)), wget_def, e100, ← q3]
        by_cases h89 : al w d wt m = w.1 89 i
        · rw [if_pos h89, h62, if_pos]
          simp [okW, h87, q2, m2, jj_tn (show m < 2 ^ 31 by omega), h89]
        · rw [if_neg h89, h66, if_neg]
          simp [okW, h87, q2, m2, jj_tn (show m < 2 ^ 31 by omega), h89]
      · rw [if_neg h87, h62, if_pos]
        simp [okW, h87]) (by
    intro f
    show f_X6_isSo_l5 (f + 1) (nI d) wt (if allB (okW w d wt) sn = true then (1 : Int32) else 0) (nI sn) u = _
    rw [f_X6_isSo_l5, f_X6_isSo_h5, wget_def, e92, n2, if_pos (nI_le (Nat.le_refl sn) (by omega))]
    unfold Gw
    cases ha : allB (okW w d wt) sn with
    | false => rfl
    | true => rfl) sn 0 300 (by omega) (by omega)
