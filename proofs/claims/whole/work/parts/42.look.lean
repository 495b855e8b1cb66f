/-! PURE: look -/
def kk (w : Wd) (d t v : Nat) : Nat := (al w d (nI v) t).toNatClampNeg
theorem kk_eq (w : Wd) (d t v : Nat) : al w d (nI v) t = nI (kk w d t v) ∧ kk w d t v ≤ 10 := by
  obtain ⟨k, k1, k2⟩ := al_ok w d (nI v) t
  unfold kk
  rw [k2, jj_tn (show k < 2 ^ 31 by omega)]
  exact ⟨rfl, k1⟩
def updN (c : Nat → Nat) (k v : Nat) : Nat → Nat := fun j => if j = k then v else c j
/-- the greatest part: k more weights from i on -/
def mA (w : Wd) (d sn t : Nat) : Nat → Nat → (Nat → Nat) → Nat → Nat
  | 0, _, _, b => b
  | k + 1, i, c, b => if Gb w d sn i = true then mA w d sn t k (i + 1) (updN c (kk w d t i) (c (kk w d t i) + 1)) (max b (c (kk w d t i) + 1)) else mA w d sn t k (i + 1) c b
theorem mA_le (w : Wd) (d sn t : Nat) : ∀ (k i : Nat) (c : Nat → Nat) (b : Nat), (∀ j, c j ≤ b) → mA w d sn t k i c b ≤ b + k
  | 0, _, _, b, _ => by rw [mA]; omega
  | k + 1, i, c, b, h => by
    rw [mA]
    have hk := h (kk w d t i)
    split
    · have := mA_le w d sn t k (i + 1) (updN c (kk w d t i) (c (kk w d t i) + 1)) (max b (c (kk w d t i) + 1)) (fun j => by
        unfold updN
        have := h j
        split <;> omega)
      omega
    · have := mA_le w d sn t k (i + 1) c b h
      omega
theorem imax_nI {a b : Nat} (ha : a < 2 ^ 31) (hb : b < 2 ^ 31) : imax (nI a) (nI b) = nI (max a b) := by
  unfold imax
  by_cases h : a < b
  · first
      | rw [if_pos (nI_lt h hb), Nat.max_eq_right (by omega)]
      | rw [if_neg (jj_le_nlt (nI_le (show a ≤ b by omega) hb)), Nat.max_eq_right (by omega)]
  · by_cases e : a = b
    · subst e
      rw [Nat.max_self]
      split <;> rfl
    · first
        | rw [if_neg (jj_le_nlt (nI_le (show b ≤ a by omega) ha)), Nat.max_eq_left (by omega)]
        | rw [if_pos (nI_lt (show b < a by omega) ha), Nat.max_eq_left (by omega)]
theorem most_c {d sn t : Nat} {w v : Wd} (hv : Agr w v) (hd : d < 6) (ht : t < 300) : ∀ (k i f : Nat) (r : Nat → Int32) (c : Nat → Nat) (b : Nat), i + k = 41 → k < f → (∀ j, j ≤ 10 → r j = nI (c j)) → (∀ j, c j ≤ b) → b ≤ i → ∃ r', f_X5_mostAlike_l30 f (nI d) (nI t) (lI (bset (Gb w d sn) 41)) (nI b) (nI i) (wrow v 91 r) = some (nI (mA w d sn t k i c b), wrow v 91 r')
  | 0, i, f, r, c, b, hi, hf, hr, hc, hb => by
    obtain ⟨f, rfl⟩ : ∃ k, f = k + 1 := ⟨f - 1, by omega⟩
    obtain rfl : i = 41 := by omega
    refine ⟨r, ?_⟩
    rw [f_X5_mostAlike_l30, f_X5_mostAlike_h30, if_pos (by decide), mA]
  | k + 1, i, f, r, c, b, hi, hf, hr, hc, hb => by
    obtain ⟨f, rfl⟩ : ∃ k, f = k + 1 := ⟨f - 1, by omega⟩
    have hbit := l_bit (N := bset (Gb w d sn) 41) (show i < 41 by omega)
    rw [bset_tb _ (show i < 41 by omega)] at hbit
    have hnext : ∀ x u, f_X5_mostAlike_b67 (f_X5_mostAlike_l30 f) (nI d) (nI t) (lI (bset (Gb w d sn) 41)) x (nI i) u = f_X5_mostAlike_l30 f (nI d) (nI t) (lI (bset (Gb w d sn) 41)) x (nI (i + 1)) u := fun x u => by rw [f_X5_mostAlike_b67, jj_bnd, nI_1]
    rw [f_X5_mostAlike_l30, f_X5_mostAlike_h30, if_neg (show ¬ (40 : Int32) < nI i from jj_le_nlt (nI_le (a := i) (b := 40) (by omega) (by decide))), mA]
    rcases Bool.eq_false_or_eq_true (Gb w d sn i) with h | h
    · obtain ⟨k1, k2⟩ := kk_eq w d t i
      have hck := hc (kk w d t i)
      obtain ⟨r', h1⟩ := most_c hv hd ht k (i + 1) f (upd r (kk w d t i) (nI (c (kk w d t i) + 1))) (updN c (kk w d t i) (c (kk w d t i) + 1)) (max b (c (kk w d t i) + 1)) (by omega) (by omega) (fun j hj => by
        unfold updN
        rw [jj_upd]
        split
        · rfl
        · exact hr j hj) (fun j => by
        unfold updN
        have := hc j
        split <;> omega) (by omega)
      refine ⟨r', ?_⟩
      have hone : f_X5_oneMoreAt (nI (kk w d t i)) (wrow v 91 r) = some (nI (c (kk w d t i) + 1), wrow v 91 (upd r (kk w d t i) (nI (c (kk w d t i) + 1)))) := by
        rw [f_X5_oneMoreAt, f_X5_oneMoreAt_b0, if_neg (nI_pos (show kk w d t i < 2 ^ 31 by omega)), if_pos (show nI (kk w d t i) ≤ 10 from nI_le (a := kk w d t i) (b := 10) (by omega) (by decide)), jj_grd (jj_inb (show kk w d t i < 11 by omega) (by decide)), jj_grd (jj_inb (show kk w d t i < 11 by omega) (by decide)), jj_bnd, jj_grd (jj_inb (show kk w d t i < 11 by omega) (by decide)), jj_tn (show kk w d t i < 2 ^ 31 by omega), wset_wrow, wget_def, wrow_row, wget_def, wrow_row, hr _ (by omega), nI_1, jj_upd, if_pos rfl]
      rw [if_neg (fun q => by rw [hbit.mp q] at h; cases h), alone_c (hv.row (Or.inl rfl) r) hd ht, jj_cal, k1, hone, jj_cal, jj_bnd, imax_nI (by omega) (by omega), hnext, h1, if_pos h]
    · obtain ⟨r', h1⟩ := most_c hv hd ht k (i + 1) f r c b (by omega) (by omega) hr hc (by omega)
      refine ⟨r', ?_⟩
      rw [if_pos (hbit.mpr h), hnext, h1, if_neg (show ¬ Gb w d sn i = true by rw [h]; decide)]
theorem zero_c {d : Nat} {N : Int64} {t : Int32} (v : Wd) : ∀ (k i f : Nat) (r : Nat → Int32), i + k = 11 → k < f → (∀ j, j < i → r j = nI 0) → ∃ r', f_X5_mostAlike_l3 f (nI d) t N (nI i) (wrow v 91 r) = f_X5_mostAlike_l30 300 (nI d) t N (nI 0) (nI 0) (wrow v 91 r') ∧ ∀ j, j ≤ 10 → r' j = nI 0
  | 0, i, f, r, hi, hf, hr => by
    obtain ⟨f, rfl⟩ : ∃ k, f = k + 1 := ⟨f - 1, by omega⟩
    obtain rfl : i = 11 := by omega
    refine ⟨r, ?_, fun j hj => hr j (by omega)⟩
    rw [f_X5_mostAlike_l3, f_X5_mostAlike_h3, if_pos (by decide), jj_bnd, jj_bnd]
    rfl
  | k + 1, i, f, r, hi, hf, hr => by
    obtain ⟨f, rfl⟩ : ∃ k, f = k + 1 := ⟨f - 1, by omega⟩
    obtain ⟨r', h1, h2⟩ := zero_c (d := d) (N := N) (t := t) v k (i + 1) f (upd r i (nI 0)) (by omega) (by omega) (fun j hj => by
      rw [jj_upd]
      by_cases z : j = i
      · rw [if_pos z]
      · rw [if_neg z]; exact hr j (by omega))
    refine ⟨r', ?_, h2⟩
    rw [f_X5_mostAlike_l3, f_X5_mostAlike_h3, if_neg (show ¬ (10 : Int32) < nI i from jj_le_nlt (nI_le (a := i) (b := 10) (by omega) (by decide))), jj_grd (jj_inb (show i < 11 by omega) (by decide)), jj_bnd, jj_bnd, nI_1, jj_tn (show i < 2 ^ 31 by omega), wset_wrow]
    exact h1
theorem part_c {d sn t : Nat} {w v : Wd} (hv : Agr w v) (hd : d < 6) (ht : t < 300) : ∃ r', f_X5_mostAlike (nI d) (nI t) (lI (bset (Gb w d sn) 41)) v = some (nI (mA w d sn t 41 0 (fun _ => 0) 0), wrow v 91 r') := by
  obtain ⟨r1, h1, h2⟩ := zero_c (d := d) (N := lI (bset (Gb w d sn) 41)) (t := nI t) v 11 0 300 (v.1 91) rfl (by decide) (fun j hj => by omega)
  obtain ⟨r2, h3⟩ := most_c (sn := sn) hv hd ht 41 0 300 r1 (fun _ => 0) 0 rfl (by decide) h2 (fun _ => Nat.le_refl _) (Nat.le_refl _)
  refine ⟨r2, ?_⟩
  rw [wrow_self] at h1
  rw [f_X5_mostAlike, f_X5_mostAlike_b0, jj_bnd]
  exact h1.trans h3
theorem most_m {n d sn t : Nat} {w u : Wd} (hu : Agr w u) (hn : n ≤ 6) (hd : d < n) (hT : IvT n w) (hS : IvS n w) (hs : sn ≤ 6) (n2 : w.1 92 12 = nI sn) (hm : ∀ j, j < sn → w.1 87 j = w.1 100 (3 * j) ∧ w.1 88 j = w.1 100 (3 * j + 1) ∧ w.1 89 j = w.1 100 (3 * j + 2) ∧ ∃ m, m ≤ 20 ∧ w.1 100 (3 * j + 1) = nI m) (ht : t < 300) : ∀ (k i f : Nat) (r : Nat → Int32) (c : Nat → Nat) (b : Nat), i + k = 41 → k < f → (∀ j, j ≤ 10 → r j = nI (c j)) → (∀ j, c j ≤ b) → b ≤ i → ∃ r', f_X6_greatestPart_l26 f (nI d) (nI t) (nI b) (nI i) (wrow u 105 r) = some (nI (mA w d sn t k i c b), wrow u 105 r')
  | 0, i, f, r, c, b, hi, hf, hr, hc, hb => by
    obtain ⟨f, rfl⟩ : ∃ k, f = k + 1 := ⟨f - 1, by omega⟩
    obtain rfl : i = 41 := by omega
    refine ⟨r, ?_⟩
    rw [f_X6_greatestPart_l26, f_X6_greatestPart_h26, if_pos (by decide), mA]
  | k + 1, i, f, r, c, b, hi, hf, hr, hc, hb => by
    obtain ⟨f, rfl⟩ : ∃ k, f = k + 1 := ⟨f - 1, by omega⟩
    obtain ⟨k1, k2⟩ := kk_eq w d t i
    have hck := hc (kk w d t i)
    have hin := jj_inb (show kk w d t i < 11 by omega) (show 11 < 2 ^ 31 by decide)
    have htn := jj_tn (show kk w d t i < 2 ^ 31 by omega)
    rw [f_X6_greatestPart_l26, f_X6_greatestPart_h26, if_neg (show ¬ (40 : Int32) < nI i from jj_le_nlt (nI_le (a := i) (b := 40) (by omega) (by decide))), alone_m (hu.row (Or.inr rfl) r) hn hd hT hS ht, jj_cal, k1, jj_bnd, jj_grd hin, fits_m (hu.row (Or.inr rfl) r) hn hd hT hS hs n2 hm, jj_cal, mA]
    rcases Bool.eq_false_or_eq_true (Gb w d sn i) with h | h
    · obtain ⟨r', h1⟩ := most_m hu hn hd hT hS hs n2 hm ht k (i + 1) f (upd r (kk w d t i) (nI (c (kk w d t i) + 1))) (updN c (kk w d t i) (c (kk w d t i) + 1)) (max b (c (kk w d t i) + 1)) (by omega) (by omega) (fun j hj => by
        unfold updN
        rw [jj_upd]
        split
        · rfl
        · exact hr j hj) (fun j => by
        unfold updN
        have := hc j
        split <;> omega) (by omega)
      refine ⟨r', ?_⟩
      rw [if_pos (show Gw w d sn (nI i) = true from h), if_neg jj_ne10, jj_grd hin, jj_bnd, jj_grd hin, htn, wset_wrow, wget_def, wrow_row, wget_def, wrow_row, hr _ (by omega), nI_1, jj_upd, if_pos rfl, if_pos h]
      by_cases hle : c (kk w d t i) + 1 ≤ b
      · rw [Nat.max_eq_left hle] at h1 ⊢
        rw [if_pos (nI_le hle (by omega)), jj_bnd, jj_bnd, nI_1, h1]
      · rw [Nat.max_eq_right (by omega)] at h1 ⊢
        rw [if_neg (nI_ge (show b < c (kk w d t i) + 1 by omega) (by omega)), jj_grd hin, jj_bnd, jj_bnd, nI_1, h1]
    · obtain ⟨r', h1⟩ := most_m hu hn hd hT hS hs n2 hm ht k (i + 1) f r c b (by omega) (by omega) hr hc (by omega)
      have hself : upd r (kk w d t i) (nI (c (kk w d t i))) = r := by rw [← hr _ (by omega), jj_upd_self]
      refine ⟨r', ?_⟩
      rw [if_neg (show ¬ Gw w d sn (nI i) = true by unfold Gb at h; rw [h]; decide), if_pos (show (0 : Int32) = 0 from rfl), jj_grd hin, jj_bnd, jj_grd hin, htn, Int32.add_zero, wset_wrow, wget_def, wrow_row, wget_def, wrow_row, hr _ (show kk w d t i ≤ 10 from k2), hself, hr _ (show kk w d t i ≤ 10 from k2), if_pos (nI_le hck (by omega)), jj_bnd, jj_bnd, nI_1, h1, if_neg (show ¬ Gb w d sn i = true by rw [h]; decide)]
theorem zero_m {d : Nat} {t : Int32} (u : Wd) : ∀ (k i f : Nat) (r : Nat → Int32), i + k = 11 → k < f → (∀ j, j < i → r j = nI 0) → ∃ r', f_X6_greatestPart_l2 f (nI d) t (nI i) (wrow u 105 r) = f_X6_greatestPart_l26 300 (nI d) t (nI 0) (nI 0) (wrow u 105 r') ∧ ∀ j, j ≤ 10 → r' j = nI 0
  | 0, i, f, r, hi, hf, hr => by
    obtain ⟨f, rfl⟩ : ∃ k, f = k + 1 := ⟨f - 1, by omega⟩
    obtain rfl : i = 11 := by omega
    refine ⟨r, ?_, fun j hj => hr j (by omega)⟩
    rw [f_X6_greatestPart_l2, f_X6_greatestPart_h2, if_pos (by decide), jj_bnd, jj_bnd]
    rfl
  | k + 1, i, f, r, hi, hf, hr => by
    obtain ⟨f, rfl⟩ : ∃ k, f = k + 1 := ⟨f - 1, by omega⟩
    obtain ⟨r', h1, h2⟩ := zero_m (d := d) (t := t) u k (i + 1) f (upd r i (nI 0)) (by omega) (by omega) (fun j hj => by
      rw [jj_upd]
      by_cases z : j = i
      · rw [if_pos z]
      · rw [if_neg z]; exact hr j (by omega))
    refine ⟨r', ?_, h2⟩
    rw [f_X6_greatestPart_l2, f_X6_greatestPart_h2, if_neg (show ¬ (10 : Int32) < nI i from jj_le_nlt (nI_le (a := i) (b := 10) (by omega) (by decide))), jj_grd (jj_inb (show i < 11 by omega) (by decide)), jj_bnd, jj_bnd, nI_1, jj_tn (show i < 2 ^ 31 by omega), wset_wrow]
    exact h1
theorem part_m {n d sn t : Nat} {w u : Wd} (hu : Agr w u) (hn : n ≤ 6) (hd : d < n) (hT : IvT n w) (hS : IvS n w) (hs : sn ≤ 6) (n2 : w.1 92 12 = nI sn) (hm : ∀ j, j < sn → w.1 87 j = w.1 100 (3 * j) ∧ w.1 88 j = w.1 100 (3 * j + 1) ∧ w.1 89 j = w.1 100 (3 * j + 2) ∧ ∃ m, m ≤ 20 ∧ w.1 100 (3 * j + 1) = nI m) (ht : t < 300) : ∃ r', f_X6_greatestPart (nI d) (nI t) u = some (nI (mA w d sn t 41 0 (fun _ => 0) 0), wrow u 105 r') := by
  obtain ⟨r1, h1, h2⟩ := zero_m (d := d) (t := nI t) u 11 0 300 (u.1 105) rfl (by decide) (fun j hj => by omega)
  obtain ⟨r2, h3⟩ := most_m hu hn hd hT hS hs n2 hm ht 41 0 300 r1 (fun _ => 0) 0 rfl (by decide) h2 (fun _ => Nat.le_refl _) (Nat.le_refl _)
  refine ⟨r2, ?_⟩
  rw [wrow_self] at h1
  rw [f_X6_greatestPart, f_X6_greatestPart_b0, jj_bnd]
  exact h1.trans h3
/-- the minute to look at: k more minutes from t on, b the best so far (minute, part) -/
def lkA (M : Nat → Nat) : Nat → Nat → Option Nat → Nat → Int32
  | 0, _, b, _ => encO b
  | k + 1, t, none, _ => lkA M k (t + 1) (some t) (M t)
  | k + 1, t, some t0, m0 => if m0 ≤ M t then lkA M k (t + 1) (some t0) m0 else lkA M k (t + 1) (some t) (M t)
theorem look_c {d sn : Nat} {w : Wd} (hd : d < 6) (M : Nat → Nat) (hM : ∀ t, M t = mA w d sn t 41 0 (fun _ => 0) 0) : ∀ (k t f : Nat) (b : Option Nat) (m : Nat) (v : Wd), t + k = 21 → k < f → Agr w v → m ≤ 42 → (b = none → m = 42) → ∃ v', f_X5_look_l38 f (nI d) (lI (bset (Gb w d sn) 41)) (encO b) (nI m) (nI t) v = some (lkA M k t b m, v') ∧ Agr w v'
  | 0, t, f, b, m, v, ht, hf, hv, hm, hb => by
    obtain ⟨f, rfl⟩ : ∃ k, f = k + 1 := ⟨f - 1, by omega⟩
    obtain rfl : t = 21 := by omega
    refine ⟨v, ?_, hv⟩
    rw [f_X5_look_l38, f_X5_look_h38, if_pos (by decide), lkA]
  | k + 1, t, f, b, m, v, ht, hf, hv, hm, hb => by
    obtain ⟨f, rfl⟩ : ∃ k, f = k + 1 := ⟨f - 1, by omega⟩
    obtain ⟨r', h1⟩ := part_c (sn := sn) (t := t) hv hd (by omega)
    have hMt : M t ≤ 41 := by
      have := mA_le w d sn t 41 0 (fun _ => 0) 0 (fun _ => Nat.le_refl _)
      rw [hM]; omega
    rw [← hM] at h1
    have hnext : ∀ x y u, f_X5_look_b70 (f_X5_look_l38 f) (nI d) (lI (bset (Gb w d sn) 41)) x y (nI t) u = f_X5_look_l38 f (nI d) (lI (bset (Gb w d sn) 41)) x y (nI (t + 1)) u := fun x y u => by rw [f_X5_look_b70, jj_bnd, nI_1]
    have hv2 : Agr w (wrow v 91 r') := hv.row (Or.inl rfl) r'
    rw [f_X5_look_l38, f_X5_look_h38, if_neg (show ¬ (20 : Int32) < nI t from jj_le_nlt (nI_le (a := t) (b := 20) (by omega) (by decide))), h1, jj_cal, jj_bnd]
    cases b with
    | none =>
      have := hb rfl
      obtain ⟨v', h2, h3⟩ := look_c hd M hM k (t + 1) f (some t) (M t) _ (by omega) (by omega) hv2 (by omega) (fun q => by cases q)
      refine ⟨v', ?_, h3⟩
      rw [if_neg (nI_ge (show M t < m by omega) (by omega)), jj_bnd, jj_bnd, hnext, lkA]
      exact h2
    | some t0 =>
      by_cases q : m ≤ M t
      · obtain ⟨v', h2, h3⟩ := look_c hd M hM k (t + 1) f (some t0) m _ (by omega) (by omega) hv2 hm (fun q => by cases q)
        refine ⟨v', ?_, h3⟩
        rw [if_pos (nI_le q (by omega)), hnext, lkA, if_pos q]
        exact h2
      · obtain ⟨v', h2, h3⟩ := look_c hd M hM k (t + 1) f (some t) (M t) _ (by omega) (by omega) hv2 (by omega) (fun q => by cases q)
        refine ⟨v', ?_, h3⟩
        rw [if_neg (nI_ge (show M t < m by omega) (by omega)), jj_bnd, jj_bnd, hnext, lkA, if_neg q]
        exact h2
theorem look_m {n d sn : Nat} {w : Wd} (hn : n ≤ 6) (hd : d < n) (hT : IvT n w) (hS : IvS n w) (hs : sn ≤ 6) (n2 : w.1 92 12 = nI sn) (hm : ∀ j, j < sn → w.1 87 j = w.1 100 (3 * j) ∧ w.1 88 j = w.1 100 (3 * j + 1) ∧ w.1 89 j = w.1 100 (3 * j + 2) ∧ ∃ m, m ≤ 20 ∧ w.1 100 (3 * j + 1) = nI m) (M : Nat → Nat) (hM : ∀ t, M t = mA w d sn t 41 0 (fun _ => 0) 0) : ∀ (k t f : Nat) (b : Option Nat) (m mc : Nat) (u : Wd), t + k = 21 → k < f → Agr w u → m ≤ 42 → (∀ t0, b = some t0 → m = mc ∧ t0 < 100) → ∃ u', f_X6_look_l31 f (nI d) (encO b) (nI m) (nI t) u = some (lkA M k t b mc, u') ∧ Agr w u'
  | 0, t, f, b, m, mc, u, ht, hf, hu, hm2, hb => by
    obtain ⟨f, rfl⟩ : ∃ k, f = k + 1 := ⟨f - 1, by omega⟩
    obtain rfl : t = 21 := by omega
    refine ⟨u, ?_, hu⟩
    rw [f_X6_look_l31, f_X6_look_h31, if_pos (by decide), lkA]
  | k + 1, t, f, b, m, mc, u, ht, hf, hu, hm2, hb => by
    obtain ⟨f, rfl⟩ : ∃ k, f = k + 1 := ⟨f - 1, by omega⟩
    obtain ⟨r', h1⟩ := part_m hu hn hd hT hS hs n2 hm (t := t) (by omega)
    have hMt : M t ≤ 41 := by
      have := mA_le w d sn t 41 0 (fun _ => 0) 0 (fun _ => Nat.le_refl _)
      rw [hM]; omega
    rw [← hM] at h1
    have htake : ∀ x y u, f_X6_look_b57 (f_X6_look_l31 f) (nI d) x y (nI t) (nI (M t)) u = f_X6_look_l31 f (nI d) (nI t) (nI (M t)) (nI (t + 1)) u := fun x y u => by
      rw [f_X6_look_b57, jj_bnd, if_neg jj_ne10, jj_bnd, if_neg jj_ne10, jj_bnd, jj_bnd, nI_1]
    have hu2 : Agr w (wrow u 105 r') := hu.row (Or.inr rfl) r'
    rw [f_X6_look_l31, f_X6_look_h31, if_neg (show ¬ (20 : Int32) < nI t from jj_le_nlt (nI_le (a := t) (b := 20) (by omega) (by decide))), h1, jj_cal, jj_bnd]
    cases b with
    | none =>
      obtain ⟨v', h2, h3⟩ := look_m hn hd hT hS hs n2 hm M hM k (t + 1) f (some t) (M t) (M t) _ (by omega) (by omega) hu2 (by omega) (fun t0 q => by injection q with q; exact ⟨rfl, by omega⟩)
      refine ⟨v', ?_, h3⟩
      rw [if_pos (show encO none < 0 by decide), htake, lkA]
      exact h2
    | some t0 =>
      obtain ⟨b1, b2⟩ := hb t0 rfl
      subst b1
      rw [if_neg (show ¬ encO (some t0) < 0 from nI_pos (show t0 < 2 ^ 31 by omega))]
      by_cases q : m ≤ M t
      · obtain ⟨v', h2, h3⟩ := look_m hn hd hT hS hs n2 hm M hM k (t + 1) f (some t0) m m _ (by omega) (by omega) hu2 hm2 (fun t1 q => by injection q with q; exact ⟨rfl, by omega⟩)
        refine ⟨v', ?_, h3⟩
        rw [if_pos (nI_le q (by omega)), jj_bnd, if_pos (show (0 : Int32) = 0 from rfl), jj_bnd, if_pos (show (0 : Int32) = 0 from rfl), jj_bnd, jj_bnd, nI_1, lkA, if_pos q]
        exact h2
      · obtain ⟨v', h2, h3⟩ := look_m hn hd hT hS hs n2 hm M hM k (t + 1) f (some t) (M t) (M t) _ (by omega) (by omega) hu2 (by omega) (fun t0 q => by injection q with q; exact ⟨rfl, by omega⟩)
        refine ⟨v', ?_, h3⟩
        rw [if_neg (nI_ge (show M t < m by omega) (by omega)), htake, lkA, if_neg q]
        exact h2
theorem lkA_none (M : Nat → Nat) (k t a b : Nat) : lkA M k t none a = lkA M k t none b := by
  cases k <;> rfl
theorem op_look : Op1 Iv f_X5_look f_X6_look := by
  intro a w hI
  obtain ⟨n, hn, hT, hS, hP, hG, hN, hX, hE⟩ := id hI
  obtain ⟨t0, t1, -⟩ := id hT
  obtain ⟨sn, hs, n1, n2, n3⟩ := id hN
  have hm1 : ∀ j, j < sn → ∃ m, m ≤ 20 ∧ w.1 88 j = nI m := fun j hj => by
    obtain ⟨-, q, -, m, m1, m2⟩ := n3 j hj
    exact ⟨m, m1, q.trans m2⟩
  rcases one_cases a hn with ⟨d, hd, rfl⟩ | hx
  · have hfit := fitting_c (Agr.rf w) (show d < 6 by omega) hs n1 hm1
    have hN41 : bset (Gb w d sn) 41 < 2 ^ 41 := bset_lt _ 41
    have ec : cnt (fun j => (bset (Gb w d sn) 41).testBit j) 41 = cnt (Gb w d sn) 41 := cnt_cong 41 (fun j hj => bset_tb _ hj)
    have hc41 := cnt_le (p := Gb w d sn) 41
    have hwm : ∀ u, Agr w u → f_X6_weights (nI d) 0 u = some (nI (cnt (Gb w d sn) 41), u) := fun u hu => by
      have e92 : u.1 92 0 = nI n := by rw [hu.2 92 (by decide) (by decide)]; exact t0
      rw [f_X6_weights, f_X6_weights_b0, isOne_yes e92 hn hd, jj_cal, if_neg jj_ne10, in_eq, if_pos ⟨by decide, by decide⟩, jj_cal, if_neg jj_ne10, jj_bnd, jj_bnd, jj_bnd, jj_bnd]
      exact weights_m hu hn hd hT hS hs n2 n3 0 41 0 300 rfl (by decide)
    by_cases h1 : 1 < cnt (Gb w d sn) 41
    · obtain ⟨v, c0, c1⟩ := look_c (sn := sn) (show d < 6 by omega) (fun t => mA w d sn t 41 0 (fun _ => 0) 0) (fun _ => rfl) 20 1 300 none 42 w (by omega) (by omega) (Agr.rf w) (by omega) (fun _ => rfl)
      obtain ⟨u, m0, m1⟩ := look_m hn hd hT hS hs n2 n3 (fun t => mA w d sn t 41 0 (fun _ => 0) 0) (fun _ => rfl) 20 1 300 none 0 42 v (by omega) (by omega) c1 (by omega) (fun t0 q => by cases q)
      have e92 : v.1 92 0 = nI n := by rw [c1.2 92 (by decide) (by decide)]; exact t0
      refine ⟨lkA (fun t => mA w d sn t 41 0 (fun _ => 0) 0) 20 1 none 42, v, u, ?_, ?_, Iv_same m1.same hI⟩
      · rw [f_X5_look, f_X5_look_b0, isTold_yes t1 hn hd, jj_cal, if_neg jj_ne10, hfit, jj_cal, jj_bnd, lbc_eq hN41, jj_cal, ec, if_pos (show (1 : Int32) < nI (cnt (Gb w d sn) 41) from nI_lt (a := 1) h1 (by omega)), jj_bnd, jj_bnd, jj_bnd]
        exact c0
      · rw [f_X6_look, f_X6_look_b0, isOne_yes e92 hn hd, jj_cal, if_neg jj_ne10, hwm v c1, jj_cal, if_pos (show (2 : Int32) ≤ nI (cnt (Gb w d sn) 41) from nI_le (a := 2) (by omega) (by omega)), jj_bnd, jj_bnd, jj_bnd]
        exact m0
    · refine ⟨-9, w, w, ?_, ?_, hI⟩
      · rw [f_X5_look, f_X5_look_b0, isTold_yes t1 hn hd, jj_cal, if_neg jj_ne10, hfit, jj_cal, jj_bnd, lbc_eq hN41, jj_cal, ec, if_neg (show ¬ (1 : Int32) < nI (cnt (Gb w d sn) 41) from jj_le_nlt (nI_le (b := 1) (by omega) (by decide)))]
      · rw [f_X6_look, f_X6_look_b0, isOne_yes t0 hn hd, jj_cal, if_neg jj_ne10, hwm w (Agr.rf w), jj_cal, if_neg (show ¬ (2 : Int32) ≤ nI (cnt (Gb w d sn) 41) from nI_ge (b := 2) (by omega) (by decide))]
  · refine ⟨-1, w, w, ?_, ?_, hI⟩
    · rw [f_X5_look, f_X5_look_b0, isTold_no t1 hn hx, jj_cal, if_pos rfl]
    · rw [f_X6_look, f_X6_look_b0, isOne_no t0 hn hx, jj_cal, if_pos rfl]
