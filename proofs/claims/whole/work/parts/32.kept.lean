/-! PURE: kept -/
theorem mSt_o {n j : Nat} (hn : n ≤ 6) (gl : Int32) (r : Nat → Int32) (hj : j < 14 ∨ 20 ≤ j) : mSt n gl r j = r j := by
  refine itr_inv (P := fun _ (q : Nat → Int32) => q j = r j) n 0 _ rfl (fun d q _ _ hq => ?_)
  refine itr_inv (P := fun _ (q : Nat → Int32) => q j = r j) (n - (d + 1)) (d + 1) _ hq (fun e q2 _ _ hq2 => ?_)
  unfold mSt1
  split
  · rw [mLay_o hn (by omega)]; exact hq2
  · exact hq2
theorem mn_0 {n : Nat} (hn : n ≤ 6) (w : Wd) (r : Nat → Int32) : mnW n w r 0 = r 0 + 1 := by
  unfold mnW minM
  rw [mRs_o (by omega), mSt_o hn _ _ (by omega), mFl_o hn (by omega), mSw_o hn (by omega), jj_upd, if_pos rfl]
theorem mn_20 {n e : Nat} (hn : n ≤ 6) (he : e < n) (w : Wd) (r : Nat → Int32) : mnW n w r (20 + e) = r (20 + e) ∨ (r (20 + e) = -9 ∧ mnW n w r (20 + e) = r 0 + 1) := by
  unfold mnW minM
  rw [mRs_20 he, mSt_o hn _ _ (show 20 + e < 14 ∨ 20 ≤ 20 + e by omega), mFl_o hn (by omega), mSw_o hn (by omega), jj_upd, if_neg (show ¬ 20 + e = 0 by omega), mSt_o hn _ _ (show 0 < 14 ∨ 20 ≤ 0 by omega), mFl_o hn (by omega), mSw_o hn (by omega), jj_upd, if_pos (show 0 = 0 from rfl)]
  split
  · rename_i h; exact Or.inr ⟨h.2, rfl⟩
  · exact Or.inl rfl
theorem nI_n9 {a : Nat} (h : a < 2 ^ 31) : ¬ nI a = -9 := fun q => nI_pos h (by rw [q]; decide)
theorem mn_new {n M e : Nat} (hn : n ≤ 6) (he : e < n) (w : Wd) {r : Nat → Int32} (hI : RInv n M r) (hM : M < 1000) : decide (mnW n w r (20 + e) = mnW n w r 0) = (!decide (mnW n w r (20 + e) = -9) && decide (r (20 + e) = -9)) := by
  obtain ⟨m, h, i0, im, i1, ih, iA⟩ := hI
  have e0 : mnW n w r 0 = nI (m + 1) := by rw [mn_0 hn, i0, nI_1]
  rw [e0]
  rcases (iA e he).2.2.2 with q | ⟨q, q1, q2, q3⟩
  · rcases mn_20 hn he w r with z | ⟨-, z⟩
    · rw [z, q]
      have : ¬ (-9 : Int32) = nI (m + 1) := fun h => nI_n9 (show m + 1 < 2 ^ 31 by omega) h.symm
      simp [this]
    · rw [z, i0, nI_1, q]
      simp [nI_n9 (show m + 1 < 2 ^ 31 by omega)]
  · have z : mnW n w r (20 + e) = nI q := by
      rcases mn_20 hn he w r with z | ⟨z, -⟩
      · rw [z, q3]
      · rw [z] at q3; exact absurd q3.symm (nI_n9 (by omega))
    rw [z, q3]
    have h1 : ¬ nI q = nI (m + 1) := fun h => by have := (nI_eq (a := q) (b := m + 1) (by omega) (by omega)).mp h; omega
    simp [h1, nI_n9 (show q < 2 ^ 31 by omega)]
/-- the first place that p names -/
def scF (p : Nat → Bool) : Nat → Nat → Option Nat
  | _, 0 => none
  | i, k + 1 => if p i then some i else scF p (i + 1) k
theorem scF_none {p : Nat → Bool} : ∀ (k i : Nat), scF p i k = none → ∀ e, i ≤ e → e < i + k → p e = false
  | 0, i, _, e, h1, h2 => by omega
  | k + 1, i, h, e, h1, h2 => by
    rw [scF] at h
    by_cases hp : p i = true
    · rw [if_pos hp] at h; cases h
    · rw [if_neg hp] at h
      by_cases q : e = i
      · subst q; simpa using hp
      · exact scF_none k (i + 1) h e (by omega) (by omega)
theorem scF_cong {p q : Nat → Bool} : ∀ (k i : Nat), (∀ e, i ≤ e → e < i + k → p e = q e) → scF p i k = scF q i k
  | 0, _, _ => rfl
  | k + 1, i, h => by rw [scF, scF, h i (by omega) (by omega), scF_cong k (i + 1) (fun e h1 h2 => h e (by omega) (by omega))]
theorem scF_all {p : Nat → Bool} : ∀ (k i : Nat), (∀ e, i ≤ e → e < i + k → p e = false) → scF p i k = none
  | 0, _, _ => rfl
  | k + 1, i, h => by rw [scF, if_neg (by rw [h i (by omega) (by omega)]; decide), scF_all k (i + 1) (fun e h1 h2 => h e (by omega) (by omega))]
theorem scF_add {p : Nat → Bool} (k : Nat) : ∀ (m i : Nat), (∀ e, i + m ≤ e → e < i + m + k → p e = false) → scF p i (m + k) = scF p i m
  | 0, i, h => by rw [Nat.zero_add, scF]; exact scF_all k i (fun e h1 h2 => h e (by omega) (by omega))
  | m + 1, i, h => by rw [show m + 1 + k = (m + k) + 1 by omega, scF, scF, scF_add k m (i + 1) (fun e h1 h2 => h e (by omega) (by omega))]
def encO : Option Nat → Int32
  | none => -9
  | some s => nI s
theorem firstRisen_eq (k0 : Nat) (w : Wd) : f_X4_firstRisenNow k0 w = some (encO (scF (fun e => decide (w.1 (k0 + 4) e = w.1 k0 0)) 0 6), w) := by
  have key : ∀ (k i f : Nat), i + k = 6 → k < f → f_X4_firstRisenNow_l2 k0 f (nI i) w = some (encO (scF (fun e => decide (w.1 (k0 + 4) e = w.1 k0 0)) i k), w) := by
    intro k
    induction k with
    | zero =>
      intro i f hi hf
      obtain ⟨f, rfl⟩ : ∃ k, f = k + 1 := ⟨f - 1, by omega⟩
      obtain rfl : i = 6 := by omega
      rw [f_X4_firstRisenNow_l2, f_X4_firstRisenNow_h2, if_pos (by decide)]
      rfl
    | succ k ih =>
      intro i f hi hf
      obtain ⟨f, rfl⟩ : ∃ k, f = k + 1 := ⟨f - 1, by omega⟩
      have h6 : ¬ (6 : Int32) ≤ nI i := nI_ge (show i < 6 by omega) (by decide)
      rw [f_X4_firstRisenNow_l2, f_X4_firstRisenNow_h2, if_neg h6, jj_grd (jj_i6 (show i < 6 by omega)), jj_tn (show i < 2 ^ 31 by omega), wget_def, wget_def, scF]
      by_cases hp : w.1 (k0 + 4) i = w.1 k0 0
      · rw [if_pos hp, if_pos (by rw [hp]; exact decide_eq_true rfl)]
        rfl
      · rw [if_neg hp, if_neg (by simp [hp]), jj_bnd, nI_1, ih (i + 1) f (by omega) (by omega)]
  rw [f_X4_firstRisenNow, f_X4_firstRisenNow_b0, jj_bnd]
  exact key 6 0 300 rfl (by decide)
noncomputable def rf (n : Nat) (w : Wd) (d : Nat) : Nat → (Nat → Int32) → Bool
  | 0, _ => false
  | k + 1, r => match scF (fun e => decide (mnW n w r (20 + e) = mnW n w r 0)) 0 n with
    | none => rf n w d k (mnW n w r)
    | some e => decide (e = d)
theorem rf_cf {n d : Nat} {w v : Wd} (h : CF w v) : ∀ (k : Nat) (r : Nat → Int32), rf n v d k r = rf n w d k r
  | 0, _ => rfl
  | k + 1, r => by rw [rf, rf, CF_mn h, rf_cf h k]
theorem scF_lt {p : Nat → Bool} : ∀ (k i e : Nat), scF p i k = some e → i ≤ e ∧ e < i + k
  | 0, _, _, h => by cases h
  | k + 1, i, e, h => by
    rw [scF] at h
    split at h
    · injection h with h; omega
    · have := scF_lt k (i + 1) e h; omega
theorem rises_c {n d T : Nat} {w : Wd} (hn : n ≤ 6) (hd : d < n) (hT : IvT n w) (hT2 : T < 2 ^ 31) : ∀ (k t f M : Nat) (v : Wd) (r : Nat → Int32), t + k = T → k < f → CF w v → SRel n v 19 r → RInv n M r → M + k < 1000 → ∃ v', f_X5_risesFirst_l48 f (nI d) (nI T) (nI t) v = some (if rf n w d k r then 1 else 0, v') ∧ CF w v'
  | 0, t, f, M, v, r, ht, hf, hc, hS, hI, hM => by
    obtain ⟨f, rfl⟩ : ∃ k, f = k + 1 := ⟨f - 1, by omega⟩
    obtain rfl : t = T := by omega
    refine ⟨v, ?_, hc⟩
    rw [f_X5_risesFirst_l48, f_X5_risesFirst_h48, if_pos (nI_le (Nat.le_refl t) hT2), rf]
    rfl
  | k + 1, t, f, M, v, r, ht, hf, hc, hS, hI, hM => by
    obtain ⟨f, rfl⟩ : ∃ k, f = k + 1 := ⟨f - 1, by omega⟩
    obtain ⟨v1, h1, h2, h3, h4⟩ := pass_19 hn hT hc hS hI
    obtain ⟨m, h, i0, im, -⟩ := id h4
    have hp : scF (fun e => decide (v1.1 (19 + 4) e = v1.1 19 0)) 0 6 = scF (fun e => decide (mnW n w r (20 + e) = mnW n w r 0)) 0 n := by
      have e6 : 6 = n + (6 - n) := by omega
      rw [e6, scF_add]
      · refine scF_cong n 0 (fun e _ he => ?_)
        rw [(h3.2.2.1 e (by omega)).2.2.2, h3.1]
      · intro e p1 p2
        rw [(h3.2.2.2 e (by omega) (by omega)).2, h3.1, i0]
        exact decide_eq_false (fun q => nI_n9 (show m < 2 ^ 31 by omega) q.symm)
    rw [rf]
    cases hs : scF (fun e => decide (mnW n w r (20 + e) = mnW n w r 0)) 0 n with
    | none =>
      obtain ⟨v2, h5, h6⟩ := rises_c hn hd hT hT2 k (t + 1) f (M + 1) v1 _ (by omega) (by omega) h2 h3 h4 (by omega)
      refine ⟨v2, ?_, h6⟩
      rw [f_X5_risesFirst_l48, f_X5_risesFirst_h48, if_neg (nI_ge (show t < T by omega) hT2), h1, jj_cal, firstRisen_eq, hp, hs, jj_cal, jj_bnd, if_pos (show encO none = -9 from rfl), jj_bnd, nI_1, h5]
    | some e =>
      have hel := scF_lt _ _ _ hs
      refine ⟨v1, ?_, h2⟩
      rw [f_X5_risesFirst_l48, f_X5_risesFirst_h48, if_neg (nI_ge (show t < T by omega) hT2), h1, jj_cal, firstRisen_eq, hp, hs, jj_cal, jj_bnd, if_neg (show ¬ encO (some e) = -9 from nI_n9 (show e < 2 ^ 31 by omega))]
      show (if nI e = nI d then _ else _) = _
      by_cases q : e = d
      · rw [if_pos (by rw [q])]
        simp [q]
      · rw [if_neg (fun z => q ((nI_eq (a := e) (b := d) (by omega) (by omega)).mp z))]
        simp [q]
theorem scan_m {n d T X t : Nat} {u : Wd} {r : Nat → Int32} (hn : n ≤ 6) (h0 : u.1 92 0 = nI n) (hd : d < n) (hX : X < 64) (K : Int32 → Int32 → Int32 → Int32 → Wd → Option (Int32 × Wd)) : ∀ (k i f : Nat), i + k = n → k < f → f_X6_isFirst_l62 K f (nI d) (nI T) (nI X) (nI t) (nI i) (wrow u 103 r) = match scF (fun e => !decide (r (20 + e) = -9) && !X.testBit e) i k with
    | none => K (nI d) (nI T) (nI X) (nI (t + 1)) (wrow u 103 r)
    | some e => some (if e = d then 1 else 0, wrow u 103 r)
  | 0, i, f, hi, hf => by
    obtain ⟨f, rfl⟩ : ∃ k, f = k + 1 := ⟨f - 1, by omega⟩
    obtain rfl : i = n := by omega
    rw [f_X6_isFirst_l62, f_X6_isFirst_h62, wget_def, wrow_off (by decide), h0, if_pos (nI_le (Nat.le_refl i) (by omega)), jj_bnd, nI_1, scF]
  | k + 1, i, f, hi, hf => by
    obtain ⟨f, rfl⟩ : ∃ k, f = k + 1 := ⟨f - 1, by omega⟩
    have ih := scan_m hn h0 hd hX K k (i + 1) f (by omega) (by omega) (T := T) (t := t) (r := r)
    rw [f_X6_isFirst_l62, f_X6_isFirst_h62, wget_def, wrow_off (by decide), h0, if_neg (nI_ge (show i < n by omega) (by omega)), jj_20, jj_grd (jj_i26 (show 20 + i < 26 by omega)), jj_tn (show 20 + i < 2 ^ 31 by omega), wget_def, wrow_row, scF]
    by_cases h9 : r (20 + i) = -9
    · rw [if_pos h9, f_X6_isFirst_b107, jj_bnd, nI_1, ih, if_neg (show ¬ (!decide (r (20 + i) = -9) && !X.testBit i) = true by simp [h9])]
    · rw [if_neg h9, has_eq, jj_cal]
      have hb := jj_bit0 (s := X) (i := i) hX (by omega)
      rcases Bool.eq_false_or_eq_true (X.testBit i) with hx | hx
      · rw [if_neg (show ¬ (nI X >>> (nI i &&& 31)) &&& 1 = 0 from fun q => by rw [hb.mp q] at hx; cases hx), if_neg jj_ne10, f_X6_isFirst_b107, jj_bnd, nI_1, ih, if_neg (show ¬ (!decide (r (20 + i) = -9) && !X.testBit i) = true by rw [hx]; simp)]
      · rw [if_pos (hb.mpr hx), if_pos (show (0 : Int32) = 0 from rfl), if_pos (show (!decide (r (20 + i) = -9) && !X.testBit i) = true by rw [hx]; simp [h9])]
        show _ = some (if i = d then (1 : Int32) else 0, wrow u 103 r)
        by_cases q : i = d
        · rw [if_pos (show nI i = nI d by rw [q]), if_pos q]
        · rw [if_neg (show ¬ nI i = nI d from fun z => q ((nI_eq (a := i) (b := d) (by omega) (by omega)).mp z)), if_neg q]
theorem rises_m {n d T X : Nat} {w u : Wd} (hn : n ≤ 6) (hd : d < n) (hT : IvT n w) (hu : CF w u) (h0 : u.1 92 0 = nI n) (hT2 : T < 2 ^ 31) (hX : X < 64) : ∀ (k t f M : Nat) (v : Wd) (r : Nat → Int32), t + k = T → k < f → CF w v → SRel n v 19 r → RInv n M r → M + k < 1000 → T26 u r → (∀ e, e < n → X.testBit e = !decide (r (20 + e) = -9)) → ∃ r', f_X6_isFirst_l49 f (nI d) (nI T) (nI X) (nI t) (wrow u 103 r) = some (if rf n u d k r then 1 else 0, wrow u 103 r') ∧ T26 u r'
  | 0, t, f, M, v, r, ht, hf, hc, hS, hI, hM, h26, hXr => by
    obtain ⟨f, rfl⟩ : ∃ k, f = k + 1 := ⟨f - 1, by omega⟩
    obtain rfl : t = T := by omega
    refine ⟨r, ?_, h26⟩
    rw [f_X6_isFirst_l49, f_X6_isFirst_h49, if_pos (nI_le (Nat.le_refl t) hT2), rf]
    rfl
  | k + 1, t, f, M, v, r, ht, hf, hc, hS, hI, hM, h26, hXr => by
    obtain ⟨f, rfl⟩ : ∃ k, f = k + 1 := ⟨f - 1, by omega⟩
    obtain ⟨v1, h1, h2, h3, h4⟩ := pass_19 hn hT hc hS hI
    rw [← CF_mn hu] at h3 h4
    have hp : scF (fun e => !decide (mnW n u r (20 + e) = -9) && !X.testBit e) 0 n = scF (fun e => decide (mnW n u r (20 + e) = mnW n u r 0)) 0 n := scF_cong n 0 (fun e _ he => by
      rw [hXr e (by omega), Bool.not_not, mn_new hn (show e < n by omega) u hI (by omega)])
    rw [f_X6_isFirst_l49, f_X6_isFirst_h49, if_neg (nI_ge (show t < T by omega) hT2), goes_w h0 hn, jj_cal, jj_bnd, show (0 : Int32) = nI 0 from rfl, scan_m hn h0 hd hX _ n 0 300 (by omega) (by omega), hp, rf]
    cases hs : scF (fun e => decide (mnW n u r (20 + e) = mnW n u r 0)) 0 n with
    | none =>
      obtain ⟨r2, h5, h6⟩ := rises_m hn hd hT hu h0 hT2 hX k (t + 1) f (M + 1) v1 _ (by omega) (by omega) h2 h3 h4 (by omega) (T26_mn hn h26) (fun e he => by
        rw [hXr e he]
        have hf := scF_none _ _ hs e (by omega) (by omega)
        rw [mn_new hn he u hI (by omega)] at hf
        rcases mn_20 hn he u r with z | ⟨z, z2⟩
        · rw [z]
        · rw [z] at hf ⊢
          simpa using hf)
      exact ⟨r2, h5, h6⟩
    | some e =>
      refine ⟨_, ?_, T26_mn hn h26⟩
      simp
      rfl
theorem isFirst_w {n d T : Nat} {w u v : Wd} {r : Nat → Int32} (hn : n ≤ 6) (hd : d < n) (hT : IvT n w) (hu : CF w u) (h0 : u.1 92 0 = nI n) (hT2 : T ≤ 40) (hc : CF w v) (hS : SRel n v 19 r) (hI : RInv n 99 r) (h26 : T26 u r) : ∃ r', f_X6_isFirst (nI d) (nI T) (wrow u 103 r) = some (if rf n u d T r then 1 else 0, wrow u 103 r') ∧ T26 u r' := by
  obtain ⟨r', h1, h2⟩ := rises_m (X := bset (fun e => !decide (r (20 + e) = -9)) n) (T := T) hn hd hT hu h0 (by omega) (lt64 hn (bset_lt _ n)) T 0 300 99 v r (by omega) (by omega) hc hS hI (by omega) h26 (fun e he => by rw [bset_bit]; simp [he])
  refine ⟨r', ?_, h2⟩
  rw [f_X6_isFirst, f_X6_isFirst_b0, jj_bnd, jj_bnd]
  refine Eq.trans ?_ h1
  exact jj_loopc (F := fun f x a => f_X6_isFirst_l5 f (nI d) (nI T) a x (wrow u 103 r)) (N := n) (fun i => nI (bset (fun e => !decide (r (20 + e) = -9)) i)) (by
    intro f i hi
    show f_X6_isFirst_l5 (f + 1) (nI d) (nI T) (nI _) (nI i) (wrow u 103 r) = f_X6_isFirst_l5 f (nI d) (nI T) (nI _) (nI (i + 1)) (wrow u 103 r)
    rw [f_X6_isFirst_l5, f_X6_isFirst_h5, wget_def, wrow_off (by decide), h0, if_neg (nI_ge hi (by omega)), jj_20, jj_grd (jj_i26 (show 20 + i < 26 by omega)), jj_tn (show 20 + i < 2 ^ 31 by omega), wget_def, wrow_row, bset]
    by_cases h9 : r (20 + i) = -9
    · rw [if_pos h9, jj_bnd, jj_bnd, nI_1, Int32.or_zero, if_neg (by simp [h9])]
    · rw [if_neg h9, jj_bnd, jj_bnd, nI_1, jj_shl (show i < 7 by omega), jj_or, if_pos (by simp [h9])]) (by
    intro f
    show f_X6_isFirst_l5 (f + 1) (nI d) (nI T) _ (nI n) (wrow u 103 r) = _
    rw [f_X6_isFirst_l5, f_X6_isFirst_h5, wget_def, wrow_off (by decide), h0, if_pos (nI_le (Nat.le_refl n) (by omega)), jj_bnd]
    rfl) n 0 300 (by omega) (by omega)
