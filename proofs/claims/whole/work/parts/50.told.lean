/-! PURE: what the text has told, on both sides; one number -/
def Tl (n : Nat) (u v : Wd) : Prop := n ≤ 6 ∧ u.1 9 0 = nI n ∧ v.1 92 23 = nI n ∧ ((u.1 1 7 = 0 ∧ v.1 92 25 = -1 ∧ u.1 9 1 = 3) ∨ (u.1 1 7 = 1 ∧ ∃ h, h ≤ 9 ∧ v.1 92 25 = nI h ∧ u.1 9 1 = nI h)) ∧ ((u.1 1 8 = 0 ∧ v.1 92 26 = -1 ∧ u.1 9 2 = 1) ∨ (u.1 1 8 = 1 ∧ ∃ h, h ≤ 9 ∧ v.1 92 26 = nI h ∧ u.1 9 2 = nI h)) ∧ ((u.1 1 9 = 0 ∧ v.1 92 27 = -1 ∧ u.1 9 3 = 20) ∨ (u.1 1 9 = 1 ∧ ∃ h, 9 ≤ h ∧ h ≤ 40 ∧ v.1 92 27 = nI h ∧ u.1 9 3 = nI h)) ∧
  ∀ d, d < n → (∃ a, a ≤ 40 ∧ u.1 10 d = nI a ∧ v.1 102 (4 * d) = nI a) ∧ (∃ a, 1 ≤ a ∧ a ≤ 9 ∧ u.1 11 d = nI a ∧ v.1 102 (4 * d + 1) = nI a) ∧ (∃ a, a ≤ 3 ∧ u.1 12 d = nI a ∧ v.1 102 (4 * d + 2) = nI a) ∧ ∃ a, a ≤ 9 ∧ u.1 13 d = nI a ∧ v.1 102 (4 * d + 3) = nI a
theorem Tl_cong {n : Nat} {u v u' v' : Wd} (h : Tl n u v) (hu : ∀ a j, (a = 1 ∧ 7 ≤ j ∧ j ≤ 9) ∨ (9 ≤ a ∧ a ≤ 13) → u'.1 a j = u.1 a j) (hv : ∀ a j, (a = 92 ∧ (j = 23 ∨ j = 25 ∨ j = 26 ∨ j = 27)) ∨ (a = 102 ∧ j < 4 * n) → v'.1 a j = v.1 a j) : Tl n u' v' := by
  obtain ⟨h1, h2, h3, h4, h5, h6, h7⟩ := h
  unfold Tl
  rw [hu 9 0 (by omega), hu 9 1 (by omega), hu 9 2 (by omega), hu 9 3 (by omega), hu 1 7 (by omega), hu 1 8 (by omega), hu 1 9 (by omega), hv 92 23 (by omega), hv 92 25 (by omega), hv 92 26 (by omega), hv 92 27 (by omega)]
  refine ⟨h1, h2, h3, h4, h5, h6, fun d hd => ?_⟩
  rw [hu 10 d (by omega), hu 11 d (by omega), hu 12 d (by omega), hu 13 d (by omega), hv 102 (4 * d) (by omega), hv 102 (4 * d + 1) (by omega), hv 102 (4 * d + 2) (by omega), hv 102 (4 * d + 3) (by omega)]
  exact h7 d hd
theorem b31_eq (v : Wd) : f_X6_takesNumber_b31 v = some (0, wset v 92 21 1) := by
  rw [f_X6_takesNumber_b31, jj_bnd, if_pos rfl, jj_bnd, jj_bnd, if_pos rfl, f_X6_takesNumber_b60, if_pos rfl]
theorem takes_bad {v : Wd} (lo hi : Int32) (h : v.1 92 21 = 1) : f_X6_takesNumber lo hi v = some (0, v) := by
  rw [f_X6_takesNumber, f_X6_takesNumber_b0, wget_def, h, if_neg jj_ne10, b31_eq, wset_self h]
/-- the class looks at a number -/
def ckC (f : Nat) (sg mn i : Int32) (w : Wd) : Option (Int32 × Wd) := if (wget w 1 5) = (1 : Int32) then (cal (f_X1_leastOf sg i w) (fun r_14 w_13 => if (wget w 1 6) < r_14 then (some ((0 : Int32), w_13)) else (cal (f_X1_greatestOf sg i w_13) (fun r_18 w_17 => if (wget w_13 1 6) ≤ r_18 then (grd (inb i 4) (bnd (wset w_17 3 i.toNatClampNeg (wget w_17 1 6)) (fun w_22 => bnd (i + (1 : Int32)) (fun x4_24 => f_X1_readItem_l31 9 f sg mn x4_24 w_22)))) else (some ((0 : Int32), w_17)))))) else (some ((0 : Int32), w))
def ckE (sg : Int32) (w : Wd) : Option (Int32 × Wd) := if (wget w 1 5) = (59 : Int32) then (cal (f_X1_tell 9 sg w) (fun _ w_6 => some ((1 : Int32), w_6))) else (some ((0 : Int32), w))
theorem l31_num {f : Nat} {sg mn i : Int32} {u u' : Wd} (h : ¬ mn ≤ i) (ha : f_X1_advance u = some ((), u')) : f_X1_readItem_l31 9 (f + 1) sg mn i u = ckC f sg mn i u' := by
  rw [f_X1_readItem_l31, f_X1_readItem_h31, if_neg h, ha, jj_cal]
  rfl
theorem l31_end {f : Nat} {sg mn i : Int32} {u u' : Wd} (h : mn ≤ i) (ha : f_X1_advance u = some ((), u')) : f_X1_readItem_l31 9 (f + 1) sg mn i u = ckE sg u' := by
  rw [f_X1_readItem_l31, f_X1_readItem_h31, if_pos h, ha, jj_cal]
  rfl
theorem mT2 {t : Nat} : mT t = 2 ↔ t = 1 := by
  unfold mT
  constructor
  · intro h
    by_cases h1 : t = 1
    · exact h1
    · exfalso
      by_cases h0 : t = 0
      · rw [if_pos h0] at h; omega
      · rw [if_neg h0, if_neg h1] at h
        by_cases h2 : t = 2
        · rw [if_pos h2] at h; omega
        · rw [if_neg h2] at h
          by_cases h3 : t = 59
          · rw [if_pos h3] at h; omega
          · rw [if_neg h3] at h; omega
  · intro h
    subst h
    rfl
theorem mT_le (t : Nat) : mT t ≤ 4 := by
  unfold mT
  repeat (first | omega | split)
theorem num2 {tn p s t m i lo hi f : Nat} {L : Nat → Nat} {u v : Wd} {sg mn : Int32} (hT : Tk tn L u v p s t m) (hi4 : i < 4) (hlo : ∀ w, f_X1_leastOf sg (nI i) w = some (nI lo, w)) (hhi : ∀ w, f_X1_greatestOf sg (nI i) w = some (nI hi, w)) (hlo2 : lo ≤ 40) (hhi2 : hi ≤ 40) (h21 : v.1 92 21 = 0) :
    (ckC f sg mn (nI i) u = some (0, u) ∧ f_X6_takesNumber (nI lo) (nI hi) v = some (0, wset v 92 21 1)) ∨
    (t = 1 ∧ lo ≤ m ∧ m ≤ hi ∧ ckC f sg mn (nI i) u = f_X1_readItem_l31 9 f sg mn (nI (i + 1)) (wset u 3 i (nI m)) ∧ ∀ v', f_X6_next v = some ((), v') → f_X6_takesNumber (nI lo) (nI hi) v = some (nI m, v')) := by
  obtain ⟨h1, h2, h3, h4, h5, h6, h7, h8, h9, h10, h11, h12, h13⟩ := hT
  have hti : t < 2 ^ 31 := by
    rcases h11 with z | z | z | z <;> omega
  unfold ckC
  rw [f_X6_takesNumber, f_X6_takesNumber_b0, wget_def u 1 5, wget_def v 92 21, wget_def v 92 19, h21, h9, h10, if_pos (show (0 : Int32) = 0 from rfl), b31_eq]
  by_cases ht : t = 1
  · obtain ⟨c6, m20, m99⟩ := h12 ht
    rw [if_pos (show nI t = 1 by rw [ht]; rfl), if_pos (show nI (mT t) = 2 by rw [ht]; rfl), hlo, jj_cal, wget_def u 1 6, c6, wget_def v 92 20, m20, in_eq]
    by_cases q1 : m < lo
    · left
      rw [if_pos (nI_lt q1 (by omega)), if_neg (show ¬ (¬ nI m < nI lo ∧ ¬ nI hi < nI m) from fun z => z.1 (nI_lt q1 (by omega))), jj_cal, if_pos (show (0 : Int32) = 0 from rfl)]
      exact ⟨rfl, rfl⟩
    · rw [if_neg (nI_nlt (show lo ≤ m by omega) (by omega)), hhi, jj_cal]
      by_cases q2 : m ≤ hi
      · right
        rw [if_pos (nI_le q2 (by omega)), jj_grd (jj_inb hi4 (by decide)), jj_bnd, jj_bnd, wget_def u 1 6, c6, jj_tn (show i < 2 ^ 31 by omega), nI_1, if_pos (show ¬ nI m < nI lo ∧ ¬ nI hi < nI m from ⟨nI_nlt (by omega) (by omega), nI_nlt (by omega) (by omega)⟩), jj_cal, if_neg jj_ne10, jj_bnd, if_neg jj_ne10, jj_bnd, wset_self h21, jj_bnd, if_neg jj_ne10, wget_def v 92 20, m20]
        refine ⟨ht, by omega, q2, rfl, fun v' hv' => ?_⟩
        rw [hv', jj_cal, f_X6_takesNumber_b60, if_neg jj_ne10]
      · left
        rw [if_neg (nI_ge (show hi < m by omega) (by omega)), if_neg (show ¬ (¬ nI m < nI lo ∧ ¬ nI hi < nI m) from fun z => z.2 (nI_lt (by omega) (by omega))), jj_cal, if_pos (show (0 : Int32) = 0 from rfl)]
        exact ⟨rfl, rfl⟩
  · left
    rw [if_neg (show ¬ nI t = 1 from fun z => ht ((nI_eq (b := 1) hti (by decide)).mp z)), if_neg (show ¬ nI (mT t) = 2 from fun z => ht (mT2.mp ((nI_eq (b := 2) (by have := mT_le t; omega) (by decide)).mp z)))]
    exact ⟨rfl, rfl⟩
