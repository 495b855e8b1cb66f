/-! PURE: the invariant, and the calls that only read or that write a place or two -/
theorem wset_v (w : Wd) (a j b i : Nat) (v : Int32) : (wset w a j v).1 b i = if b = a ∧ i = j then v else w.1 b i := rfl
theorem wrow_v (w : Wd) (a b i : Nat) (r : Nat → Int32) : (wrow w a r).1 b i = if b = a then r i else w.1 b i := by
  rw [wrow_1]
  split <;> rfl
theorem wset_2 (w : Wd) (a j : Nat) (v : Int32) : (wset w a j v).2 = w.2 := rfl
def IvT (n : Nat) (w : Wd) : Prop := w.1 92 0 = nI n ∧ w.1 4 0 = nI n ∧ w.1 4 1 = w.1 92 4 ∧ w.1 4 2 = w.1 92 5 ∧ w.1 4 3 = w.1 92 6 ∧ (∃ h, h ≤ 9 ∧ w.1 92 4 = nI h) ∧ (∃ g, g ≤ 9 ∧ w.1 92 5 = nI g) ∧ (∃ r, 9 ≤ r ∧ r ≤ 40 ∧ w.1 92 6 = nI r) ∧
  ∀ d, d < n → w.1 5 d = w.1 93 d ∧ w.1 7 d = w.1 94 d ∧ w.1 8 d = w.1 95 d ∧ (∃ k, k ≤ 40 ∧ w.1 93 d = nI k) ∧ (∃ k, k ≤ 3 ∧ w.1 94 d = nI k) ∧ ∃ k, k ≤ 9 ∧ w.1 95 d = nI k
def IvS (n : Nat) (w : Wd) : Prop := SRel n w 14 (w.1 96) ∧ RInv n 99 (w.1 96)
def IvP (n : Nat) (w : Wd) : Prop := ∃ kn nx, kn ≤ 10 ∧ nx < 10 ∧ w.1 24 2 = nI kn ∧ w.1 92 9 = nI kn ∧ w.1 24 1 = nI nx ∧ ∀ j, j < kn → SRel n w (26 + 5 * ((nx + 10 - kn + j) % 10)) (fun i => w.1 97 (26 * j + i)) ∧ RInv n 99 (fun i => w.1 97 (26 * j + i))
def IvG (n : Nat) (w : Wd) : Prop := ∃ b, b < 4 ∧ w.1 0 8 = nI b ∧ ∀ i, i < 2 → w.1 99 i = (if b.testBit i then 1 else 0) ∧ (b.testBit i = true → SRel n w (76 + 5 * i) (fun j => w.1 98 (26 * i + j)) ∧ RInv n 99 (fun j => w.1 98 (26 * i + j)))
def IvN (w : Wd) : Prop := ∃ sn, sn ≤ 6 ∧ w.1 86 3 = nI sn ∧ w.1 92 12 = nI sn ∧ ∀ j, j < sn → w.1 87 j = w.1 100 (3 * j) ∧ w.1 88 j = w.1 100 (3 * j + 1) ∧ w.1 89 j = w.1 100 (3 * j + 2) ∧ ∃ m, m ≤ 20 ∧ w.1 100 (3 * j + 1) = nI m
def IvX (w : Wd) : Prop := ∃ tn, tn ≤ 120 ∧ w.1 1 2 = nI tn ∧ w.1 92 16 = nI tn ∧ ∀ j, j < tn → w.1 2 j = w.1 101 j ∧ ∃ c, c ≤ 255 ∧ w.1 101 j = nI c
def IvE (w : Wd) : Prop := w.2 0 = w.2 92 ∧ w.1 90 0 = 0
def Iv (w : Wd) : Prop := ∃ n, n ≤ 6 ∧ IvT n w ∧ IvS n w ∧ IvP n w ∧ IvG n w ∧ IvN w ∧ IvX w ∧ IvE w
theorem IvT_cong {n : Nat} {w v : Wd} (h : IvT n w) (hf : ∀ j, j = 0 ∨ j = 4 ∨ j = 5 ∨ j = 6 → v.1 92 j = w.1 92 j) (hr : ∀ a, a = 4 ∨ a = 5 ∨ a = 7 ∨ a = 8 ∨ a = 93 ∨ a = 94 ∨ a = 95 → v.1 a = w.1 a) : IvT n v := by
  unfold IvT at h ⊢
  rw [hf 0 (by simp), hf 4 (by simp), hf 5 (by simp), hf 6 (by simp), hr 4 (by simp), hr 5 (by simp), hr 7 (by simp), hr 8 (by simp), hr 93 (by simp), hr 94 (by simp), hr 95 (by simp)]
  exact h
theorem SRel_cong {n k : Nat} {w v : Wd} {r : Nat → Int32} (h : SRel n w k r) (hr : ∀ a, k ≤ a → a ≤ k + 4 → v.1 a = w.1 a) : SRel n v k r := by
  unfold SRel at h ⊢
  rw [hr k (by omega) (by omega), hr (k + 1) (by omega) (by omega), hr (k + 2) (by omega) (by omega), hr (k + 3) (by omega) (by omega), hr (k + 4) (by omega) (by omega)]
  exact h
theorem IvS_cong {n : Nat} {w v : Wd} (h : IvS n w) (hr : ∀ a, 14 ≤ a → a ≤ 18 → v.1 a = w.1 a) (h96 : v.1 96 = w.1 96) : IvS n v := by
  obtain ⟨h1, h2⟩ := h
  exact ⟨by rw [h96]; exact SRel_cong h1 hr, by rw [h96]; exact h2⟩
theorem IvP_cong {n : Nat} {w v : Wd} (h : IvP n w) (h1 : v.1 24 1 = w.1 24 1) (h2 : v.1 24 2 = w.1 24 2) (h9 : v.1 92 9 = w.1 92 9) (hr : ∀ a, 26 ≤ a → a ≤ 75 → v.1 a = w.1 a) (h97 : v.1 97 = w.1 97) : IvP n v := by
  obtain ⟨kn, nx, a1, a2, a3, a4, a5, a6⟩ := h
  refine ⟨kn, nx, a1, a2, by rw [h2]; exact a3, by rw [h9]; exact a4, by rw [h1]; exact a5, fun j hj => ?_⟩
  obtain ⟨b1, b2⟩ := a6 j hj
  rw [h97]
  exact ⟨SRel_cong b1 (fun a c1 c2 => hr a (by omega) (by omega)), b2⟩
theorem IvG_cong {n : Nat} {w v : Wd} (h : IvG n w) (h1 : v.1 0 8 = w.1 0 8) (hr : ∀ a, 76 ≤ a → a ≤ 85 → v.1 a = w.1 a) (h98 : v.1 98 = w.1 98) (h99 : v.1 99 = w.1 99) : IvG n v := by
  obtain ⟨b, a1, a2, a3⟩ := h
  refine ⟨b, a1, by rw [h1]; exact a2, fun i hi => ?_⟩
  rw [h98, h99]
  obtain ⟨c1, c2⟩ := a3 i hi
  refine ⟨c1, fun q => ⟨SRel_cong (c2 q).1 (fun a d1 d2 => hr a (by omega) (by omega)), (c2 q).2⟩⟩
theorem IvN_cong {w v : Wd} (h : IvN w) (h1 : v.1 86 3 = w.1 86 3) (h2 : v.1 92 12 = w.1 92 12) (hr : ∀ a, a = 87 ∨ a = 88 ∨ a = 89 ∨ a = 100 → v.1 a = w.1 a) : IvN v := by
  unfold IvN at h ⊢
  rw [h1, h2, hr 87 (by simp), hr 88 (by simp), hr 89 (by simp), hr 100 (by simp)]
  exact h
theorem IvX_cong {w v : Wd} (h : IvX w) (h1 : v.1 1 2 = w.1 1 2) (h2 : v.1 92 16 = w.1 92 16) (h3 : v.1 2 = w.1 2) (h4 : v.1 101 = w.1 101) : IvX v := by
  unfold IvX at h ⊢
  rw [h1, h2, h3, h4]
  exact h
theorem IvE_cong {w v : Wd} (h : IvE w) (h1 : v.2 = w.2) (h2 : v.1 90 0 = w.1 90 0) : IvE v := by
  unfold IvE at h ⊢
  rw [h1, h2]
  exact h
/-- what the invariant reads is the same -/
def Same (w v : Wd) : Prop := v.2 = w.2 ∧ (∀ a, a = 0 ∨ a = 2 ∨ (4 ≤ a ∧ a ≤ 8) ∨ (14 ≤ a ∧ a ≤ 18) ∨ (24 ≤ a ∧ a ≤ 89) ∨ (93 ≤ a ∧ a ≤ 101) → v.1 a = w.1 a) ∧ v.1 1 2 = w.1 1 2 ∧ (∀ j, j = 0 ∨ j = 4 ∨ j = 5 ∨ j = 6 ∨ j = 9 ∨ j = 12 ∨ j = 16 → v.1 92 j = w.1 92 j) ∧ v.1 90 0 = w.1 90 0
theorem Same.rf (w : Wd) : Same w w := ⟨rfl, fun _ _ => rfl, rfl, fun _ _ => rfl, rfl⟩
theorem Same.tr {w v u : Wd} (h : Same w v) (g : Same v u) : Same w u := ⟨g.1.trans h.1, fun a ha => (g.2.1 a ha).trans (h.2.1 a ha), g.2.2.1.trans h.2.2.1, fun j hj => (g.2.2.2.1 j hj).trans (h.2.2.2.1 j hj), g.2.2.2.2.trans h.2.2.2.2⟩
theorem Iv_same {w v : Wd} (hs : Same w v) (h : Iv w) : Iv v := by
  obtain ⟨s1, s2, s3, s4, s5⟩ := hs
  obtain ⟨n, hn, hT, hS, hP, hG, hN, hX, hE⟩ := h
  exact ⟨n, hn, IvT_cong hT (fun j hj => s4 j (by omega)) (fun a ha => s2 a (by omega)), IvS_cong hS (fun a h1 h2 => s2 a (by omega)) (s2 96 (by omega)),
    IvP_cong hP (by rw [s2 24 (by omega)]) (by rw [s2 24 (by omega)]) (s4 9 (by simp)) (fun a h1 h2 => s2 a (by omega)) (s2 97 (by omega)),
    IvG_cong hG (by rw [s2 0 (by simp)]) (fun a h1 h2 => s2 a (by omega)) (s2 98 (by omega)) (s2 99 (by omega)),
    IvN_cong hN (by rw [s2 86 (by omega)]) (s4 12 (by simp)) (fun a ha => s2 a (by omega)), IvX_cong hX s3 (s4 16 (by simp)) (s2 2 (by simp)) (s2 101 (by omega)), IvE_cong hE s1 s5⟩
theorem same_row (w : Wd) (a : Nat) (r : Nat → Int32) (h : (19 ≤ a ∧ a ≤ 23) ∨ a = 91 ∨ (103 ≤ a ∧ a ≤ 105) ∨ a = 3 ∨ (9 ≤ a ∧ a ≤ 13) ∨ a = 102) : Same w (wrow w a r) := ⟨rfl, fun b hb => wrow_off (by omega), by rw [wrow_off (by omega)], fun j _ => by rw [wrow_off (by omega)], by rw [wrow_off (by omega)]⟩
/-! which dumpling an argument names -/
theorem one_cases (x : Int32) {n : Nat} (hn : n ≤ 6) : (∃ d, d < n ∧ x = nI d) ∨ (x < 0 ∨ nI n ≤ x) := by
  by_cases h : x < 0
  · exact Or.inr (Or.inl h)
  · by_cases h2 : nI n ≤ x
    · exact Or.inr (Or.inr h2)
    · obtain ⟨j, hj, rfl⟩ := nI_of h
      left
      refine ⟨j, ?_, rfl⟩
      rcases Nat.lt_or_ge j n with q | q
      · exact q
      · exact absurd (nI_le q hj) h2
theorem isTold_yes {w : Wd} {n d : Nat} (hT : w.1 4 0 = nI n) (hn : n ≤ 6) (hd : d < n) : f_X5_isTold (nI d) w = some (1, w) := by
  unfold f_X5_isTold f_X5_isTold_b0
  rw [if_neg (nI_pos (by omega)), if_neg (show ¬ (6 : Int32) ≤ nI d from nI_ge (b := 6) (by omega) (by decide)), wget_def, hT, if_neg (nI_ge hd (by omega))]
theorem isTold_no {w : Wd} {n : Nat} {x : Int32} (hT : w.1 4 0 = nI n) (hn : n ≤ 6) (hx : x < 0 ∨ nI n ≤ x) : f_X5_isTold x w = some (0, w) := by
  unfold f_X5_isTold f_X5_isTold_b0
  rw [wget_def, hT]
  by_cases h1 : x < 0
  · rw [if_pos h1]
  · rw [if_neg h1]
    by_cases h2 : 6 ≤ x
    · rw [if_pos h2]
    · rw [if_neg h2, if_pos (hx.resolve_left h1)]
theorem many1 {n : Nat} (hn : n ≤ 6) : (nI n - 1).toInt = (n : Int) - 1 := by
  rw [Int32.toInt_sub, nI_toInt (by omega)]
  show ((n : Int) - 1).bmod (2 ^ 32) = _
  rw [Int.bmod_eq_of_le (by omega) (by omega)]
theorem isOne_yes {w : Wd} {n d : Nat} (hT : w.1 92 0 = nI n) (hn : n ≤ 6) (hd : d < n) : f_X6_isOne (nI d) w = some (1, w) := by
  unfold f_X6_isOne f_X6_isOne_b0
  rw [in_eq, wget_def, hT]
  have h1 : ¬ nI d < 0 := nI_pos (by omega)
  have h2 : ¬ nI n - 1 < nI d := by
    rw [Int32.lt_iff_toInt_lt, many1 hn, nI_toInt (by omega)]
    omega
  simp [h1, h2, cal, grd, nb]
theorem isOne_no {w : Wd} {n : Nat} {x : Int32} (hT : w.1 92 0 = nI n) (hn : n ≤ 6) (hx : x < 0 ∨ nI n ≤ x) : f_X6_isOne x w = some (0, w) := by
  unfold f_X6_isOne f_X6_isOne_b0
  rw [in_eq, wget_def, hT]
  have h1 : ¬ (¬ x < 0 ∧ ¬ nI n - 1 < x) := by
    rintro ⟨p, q⟩
    rcases hx with hx | hx
    · exact p hx
    · apply q
      rw [Int32.le_iff_toInt_le, nI_toInt (by omega)] at hx
      rw [Int32.lt_iff_toInt_lt, many1 hn]
      omega
  rw [if_neg h1]
  simp [cal, grd, nb]
/-! the calls -/
theorem op_trace : Op0 Iv f_X5_trace f_X6_trace := by
  intro w hI
  obtain ⟨n, hn, hT, hS, hP, hG, hN, hX, hE⟩ := hI
  exact ⟨w.2 0, w, w, rfl, by show some (w.2 92, w) = _; rw [hE.1], ⟨n, hn, hT, hS, hP, hG, hN, hX, hE⟩⟩
theorem op_count : Op1 Iv f_X5_count f_X6_count := by
  intro a w hI
  obtain ⟨n, hn, hT, hS, hP, hG, hN, hX, hE⟩ := id hI
  obtain ⟨t0, t1, t2, t3, t4, -⟩ := hT
  obtain ⟨sn, -, n1, n2, -⟩ := hN
  obtain ⟨tn, -, x1, x2, -⟩ := hX
  have h : f_X5_count a w = f_X6_count a w := by
    unfold f_X5_count f_X6_count f_X5_count_b0 f_X6_count_b0
    simp only [wget_def, t0, t1, t2, t3, t4, n1, n2, x1, x2]
  have h2 : ∃ r, f_X6_count a w = some (r, w) := by
    unfold f_X6_count f_X6_count_b0
    by_cases c0 : a = 0
    · exact ⟨_, by rw [if_pos c0]⟩
    · rw [if_neg c0]
      by_cases c1 : a = 1
      · exact ⟨_, by rw [if_pos c1]⟩
      · rw [if_neg c1]
        by_cases c2 : a = 2
        · exact ⟨_, by rw [if_pos c2]⟩
        · rw [if_neg c2]
          by_cases c3 : a = 3
          · exact ⟨_, by rw [if_pos c3]⟩
          · rw [if_neg c3]
            by_cases c4 : a = 4
            · exact ⟨_, by rw [if_pos c4]⟩
            · rw [if_neg c4]
              by_cases c5 : a = 5
              · exact ⟨_, by rw [if_pos c5]⟩
              · exact ⟨_, by rw [if_neg c5]⟩
  obtain ⟨r, h2⟩ := h2
  exact ⟨r, w, w, h.trans h2, h2, hI⟩
theorem le255 {a : Int32} (h : a ≤ 255) : ¬ (255 : Int32) < a := by
  rw [Int32.le_iff_toInt_le] at h
  rw [Int32.lt_iff_toInt_lt]
  omega
theorem nle255 {a : Int32} (h : ¬ a ≤ 255) : (255 : Int32) < a := by
  rw [Int32.le_iff_toInt_le] at h
  rw [Int32.lt_iff_toInt_lt]
  omega
theorem op_type : Op1 Iv f_X5_type f_X6_type := by
  intro a w hI
  obtain ⟨n, hn, hT, hS, hP, hG, hN, hX, hE⟩ := id hI
  obtain ⟨tn, ht, x1, x2, x3⟩ := hX
  by_cases c1 : a < 0
  · refine ⟨-1, w, w, ?_, ?_, hI⟩
    · unfold f_X5_type f_X5_type_b0
      rw [if_pos c1]
    · unfold f_X6_type f_X6_type_b0
      rw [in_eq]
      simp [c1, cal]
  · by_cases c2 : a ≤ 255
    · obtain ⟨ac, hac, rfl⟩ := nI_of c1
      have hac2 : ac ≤ 255 := (nI_leI hac (by decide)).mp c2
      by_cases c4 : tn = 120
      · subst c4
        refine ⟨-3, w, w, ?_, ?_, hI⟩
        · unfold f_X5_type f_X5_type_b0 f_X1_add f_X1_add_b0
          rw [if_neg c1, if_pos c2, wget_def, x1]
          rfl
        · unfold f_X6_type f_X6_type_b0
          rw [in_eq, if_pos ⟨c1, le255 c2⟩, cal]
          simp only [wget_def, x2]
          rfl
      · obtain ⟨w1, hw1⟩ : ∃ x, x = wset (wset w 2 tn (nI ac)) 1 2 (nI (tn + 1)) := ⟨_, rfl⟩
        obtain ⟨w2, hw2⟩ : ∃ x, x = wset (wset w1 101 tn (nI ac)) 92 16 (nI (tn + 1)) := ⟨_, rfl⟩
        have hc : f_X5_type (nI ac) w = some (nI (tn + 1), w1) := by
          have y1 : (wset w 2 tn (nI ac)).1 1 2 = nI tn := by rw [(wset_off w 2 tn (nI ac) 1 (by decide)).1, x1]
          have y2 : w1.1 1 2 = nI (tn + 1) := by rw [hw1, wset_row2, wrow_row]; rfl
          unfold f_X5_type f_X5_type_b0 f_X1_add f_X1_add_b0
          rw [if_neg c1, if_pos c2, wget_def, x1, if_neg (nI_pos (show tn < 2 ^ 31 by omega)), if_pos (show nI tn < 120 from nI_lt (b := 120) (by omega) (by decide)), jj_inb (show tn < 120 by omega) (by decide), jj_tn (show tn < 2 ^ 31 by omega)]
          simp only [grd, bnd, wget_def, y1, nI_1]
          rw [← hw1]
          simp only [cal, y2]
          rfl
        have hm : f_X6_type (nI ac) w1 = some (nI (tn + 1), w2) := by
          have y0 : w1.1 92 16 = nI tn := by rw [hw1]; (simp only [wset_v, wrow_v, jj_upd, true_and, and_true, if_true, wrow_2, wset_2] <;> (repeat (first | rw [if_neg (by omega)] | rw [if_pos (by omega)])) <;> (try rfl)); exact x2
          have y1 : (wset w1 101 tn (nI ac)).1 92 16 = nI tn := by rw [(wset_off w1 101 tn (nI ac) 92 (by decide)).1, y0]
          have y2 : w2.1 92 16 = nI (tn + 1) := by rw [hw2, wset_row2, wrow_row]; rfl
          unfold f_X6_type f_X6_type_b0
          rw [in_eq, if_pos ⟨c1, le255 c2⟩, cal]
          simp only [wget_def, y0]
          rw [if_neg (show ¬ (1 : Int32) = 0 by decide), if_neg (show ¬ nI tn = 120 from fun q => c4 ((nI_eq (a := tn) (b := 120) (by omega) (by decide)).mp q)), jj_inb (show tn < 120 by omega) (by decide), jj_tn (show tn < 2 ^ 31 by omega)]
          simp only [grd, bnd, y1, nI_1]
          rw [← hw2, y2]
        have f : ∀ b, b ≠ 1 → b ≠ 2 → b ≠ 92 → b ≠ 101 → w2.1 b = w.1 b := fun b h1 h2 h3 h4 => by rw [hw2, hw1]; (funext zz_i; simp only [wset_v, wrow_v, jj_upd, true_and, and_true, if_true] <;> (repeat (first | rw [if_neg (by omega)] | rw [if_pos (by omega)])) <;> (try rfl))
        have f92 : ∀ j, j ≠ 16 → w2.1 92 j = w.1 92 j := fun j hj => by rw [hw2, hw1]; (simp only [wset_v, wrow_v, jj_upd, true_and, and_true, if_true, wrow_2, wset_2] <;> (repeat (first | rw [if_neg (by omega)] | rw [if_pos (by omega)])) <;> (try rfl))
        refine ⟨_, w1, w2, hc, hm, n, hn, IvT_cong hT (fun j hj => f92 j (by omega)) (fun b hb => f b (by omega) (by omega) (by omega) (by omega)), IvS_cong hS (fun b h1 h2 => f b (by omega) (by omega) (by omega) (by omega)) (f 96 (by decide) (by decide) (by decide) (by decide)),
          IvP_cong hP (by rw [f 24 (by decide) (by decide) (by decide) (by decide)]) (by rw [f 24 (by decide) (by decide) (by decide) (by decide)]) (f92 9 (by decide)) (fun b h1 h2 => f b (by omega) (by omega) (by omega) (by omega)) (f 97 (by decide) (by decide) (by decide) (by decide)),
          IvG_cong hG (by rw [f 0 (by decide) (by decide) (by decide) (by decide)]) (fun b h1 h2 => f b (by omega) (by omega) (by omega) (by omega)) (f 98 (by decide) (by decide) (by decide) (by decide)) (f 99 (by decide) (by decide) (by decide) (by decide)),
          IvN_cong hN (by rw [f 86 (by decide) (by decide) (by decide) (by decide)]) (f92 12 (by decide)) (fun b hb => f b (by omega) (by omega) (by omega) (by omega)), ⟨tn + 1, by omega, ?_, ?_, fun j hj => ?_⟩, IvE_cong hE (by rw [hw2, hw1]; rfl) (by rw [f 90 (by decide) (by decide) (by decide) (by decide)])⟩
        · rw [hw2, hw1]; (simp only [wset_v, wrow_v, jj_upd, true_and, and_true, if_true, wrow_2, wset_2] <;> (repeat (first | rw [if_neg (by omega)] | rw [if_pos (by omega)])) <;> (try rfl))
        · rw [hw2, hw1]; (simp only [wset_v, wrow_v, jj_upd, true_and, and_true, if_true, wrow_2, wset_2] <;> (repeat (first | rw [if_neg (by omega)] | rw [if_pos (by omega)])) <;> (try rfl))
        · by_cases q : j = tn
          · subst q
            have e1 : w2.1 2 j = nI ac := by rw [hw2, hw1]; (simp only [wset_v, wrow_v, jj_upd, true_and, and_true, if_true, wrow_2, wset_2] <;> (repeat (first | rw [if_neg (by omega)] | rw [if_pos (by omega)])) <;> (try rfl))
            have e2 : w2.1 101 j = nI ac := by rw [hw2, hw1]; (simp only [wset_v, wrow_v, jj_upd, true_and, and_true, if_true, wrow_2, wset_2] <;> (repeat (first | rw [if_neg (by omega)] | rw [if_pos (by omega)])) <;> (try rfl))
            exact ⟨e1.trans e2.symm, ac, hac2, e2⟩
          · have e1 : w2.1 2 j = w.1 2 j := by rw [hw2, hw1]; (simp only [wset_v, wrow_v, jj_upd, true_and, and_true, if_true, wrow_2, wset_2] <;> (repeat (first | rw [if_neg (by omega)] | rw [if_pos (by omega)])) <;> (try rfl))
            have e2 : w2.1 101 j = w.1 101 j := by rw [hw2, hw1]; (simp only [wset_v, wrow_v, jj_upd, true_and, and_true, if_true, wrow_2, wset_2] <;> (repeat (first | rw [if_neg (by omega)] | rw [if_pos (by omega)])) <;> (try rfl))
            rw [e1, e2]
            exact x3 j (by omega)
    · refine ⟨-1, w, w, ?_, ?_, hI⟩
      · unfold f_X5_type f_X5_type_b0
        rw [if_neg c1, if_neg c2]
      · unfold f_X6_type f_X6_type_b0
        rw [in_eq]
        simp [nle255 c2, cal]
theorem op_clear : Op0 Iv f_X5_clear f_X6_clear := by
  intro w hI
  obtain ⟨n, hn, hT, hS, hP, hG, hN, hX, hE⟩ := id hI
  obtain ⟨tn, ht, x1, x2, x3⟩ := hX
  obtain ⟨w1, hw1⟩ : ∃ x, x = wset w 1 2 0 := ⟨_, rfl⟩
  obtain ⟨w2, hw2⟩ : ∃ x, x = wset w1 92 16 0 := ⟨_, rfl⟩
  have hc : f_X5_clear w = some (nI tn, w1) := by
    unfold f_X5_clear f_X5_clear_b0
    simp only [bnd, wget_def, x1]
    rw [← hw1]
  have hm : f_X6_clear w1 = some (nI tn, w2) := by
    have y : w1.1 92 16 = nI tn := by rw [hw1]; (simp only [wset_v, wrow_v, jj_upd, true_and, and_true, if_true, wrow_2, wset_2] <;> (repeat (first | rw [if_neg (by omega)] | rw [if_pos (by omega)])) <;> (try rfl)); exact x2
    unfold f_X6_clear f_X6_clear_b0
    simp only [bnd, wget_def, y]
    rw [← hw2]
  have f : ∀ b, b ≠ 1 → b ≠ 92 → w2.1 b = w.1 b := fun b h1 h2 => by rw [hw2, hw1]; (funext zz_i; simp only [wset_v, wrow_v, jj_upd, true_and, and_true, if_true] <;> (repeat (first | rw [if_neg (by omega)] | rw [if_pos (by omega)])) <;> (try rfl))
  have f92 : ∀ j, j ≠ 16 → w2.1 92 j = w.1 92 j := fun j hj => by rw [hw2, hw1]; (simp only [wset_v, wrow_v, jj_upd, true_and, and_true, if_true, wrow_2, wset_2] <;> (repeat (first | rw [if_neg (by omega)] | rw [if_pos (by omega)])) <;> (try rfl))
  refine ⟨_, w1, w2, hc, hm, n, hn, IvT_cong hT (fun j hj => f92 j (by omega)) (fun b hb => f b (by omega) (by omega)), IvS_cong hS (fun b h1 h2 => f b (by omega) (by omega)) (f 96 (by decide) (by decide)),
    IvP_cong hP (by rw [f 24 (by decide) (by decide)]) (by rw [f 24 (by decide) (by decide)]) (f92 9 (by decide)) (fun b h1 h2 => f b (by omega) (by omega)) (f 97 (by decide) (by decide)),
    IvG_cong hG (by rw [f 0 (by decide) (by decide)]) (fun b h1 h2 => f b (by omega) (by omega)) (f 98 (by decide) (by decide)) (f 99 (by decide) (by decide)),
    IvN_cong hN (by rw [f 86 (by decide) (by decide)]) (f92 12 (by decide)) (fun b hb => f b (by omega) (by omega)), ⟨0, by omega, ?_, ?_, fun j hj => absurd hj (by omega)⟩, IvE_cong hE (by rw [hw2, hw1]; rfl) (by rw [f 90 (by decide) (by decide)])⟩
  · rw [hw2, hw1]; (simp only [wset_v, wrow_v, jj_upd, true_and, and_true, if_true, wrow_2, wset_2] <;> (repeat (first | rw [if_neg (by omega)] | rw [if_pos (by omega)])) <;> (try rfl))
  · rw [hw2, hw1]; (simp only [wset_v, wrow_v, jj_upd, true_and, and_true, if_true, wrow_2, wset_2] <;> (repeat (first | rw [if_neg (by omega)] | rw [if_pos (by omega)])) <;> (try rfl))
theorem op_forget : Op0 Iv f_X5_forget f_X6_forget := by
  intro w hI
  obtain ⟨n, hn, hT, hS, hP, hG, hN, hX, hE⟩ := id hI
  obtain ⟨sn, hs, n1, n2, n3⟩ := hN
  obtain ⟨w1, hw1⟩ : ∃ x, x = wset w 86 3 0 := ⟨_, rfl⟩
  obtain ⟨w2, hw2⟩ : ∃ x, x = wset w1 92 12 0 := ⟨_, rfl⟩
  have hc : f_X5_forget w = some (nI sn, w1) := by
    unfold f_X5_forget f_X5_forget_b0
    simp only [bnd, wget_def, n1]
    rw [← hw1]
  have hm : f_X6_forget w1 = some (nI sn, w2) := by
    have y : w1.1 92 12 = nI sn := by rw [hw1]; (simp only [wset_v, wrow_v, jj_upd, true_and, and_true, if_true, wrow_2, wset_2] <;> (repeat (first | rw [if_neg (by omega)] | rw [if_pos (by omega)])) <;> (try rfl)); exact n2
    unfold f_X6_forget f_X6_forget_b0
    simp only [bnd, wget_def, y]
    rw [← hw2]
  have f : ∀ b, b ≠ 86 → b ≠ 92 → w2.1 b = w.1 b := fun b h1 h2 => by rw [hw2, hw1]; (funext zz_i; simp only [wset_v, wrow_v, jj_upd, true_and, and_true, if_true] <;> (repeat (first | rw [if_neg (by omega)] | rw [if_pos (by omega)])) <;> (try rfl))
  have f92 : ∀ j, j ≠ 12 → w2.1 92 j = w.1 92 j := fun j hj => by rw [hw2, hw1]; (simp only [wset_v, wrow_v, jj_upd, true_and, and_true, if_true, wrow_2, wset_2] <;> (repeat (first | rw [if_neg (by omega)] | rw [if_pos (by omega)])) <;> (try rfl))
  refine ⟨_, w1, w2, hc, hm, n, hn, IvT_cong hT (fun j hj => f92 j (by omega)) (fun b hb => f b (by omega) (by omega)), IvS_cong hS (fun b h1 h2 => f b (by omega) (by omega)) (f 96 (by decide) (by decide)),
    IvP_cong hP (by rw [f 24 (by decide) (by decide)]) (by rw [f 24 (by decide) (by decide)]) (f92 9 (by decide)) (fun b h1 h2 => f b (by omega) (by omega)) (f 97 (by decide) (by decide)),
    IvG_cong hG (by rw [f 0 (by decide) (by decide)]) (fun b h1 h2 => f b (by omega) (by omega)) (f 98 (by decide) (by decide)) (f 99 (by decide) (by decide)),
    ⟨0, by omega, ?_, ?_, fun j hj => absurd hj (by omega)⟩, IvX_cong hX (by rw [f 1 (by decide) (by decide)]) (f92 16 (by decide)) (f 2 (by decide) (by decide)) (f 101 (by decide) (by decide)), IvE_cong hE (by rw [hw2, hw1]; rfl) (by rw [f 90 (by decide) (by decide)])⟩
  · rw [hw2, hw1]; (simp only [wset_v, wrow_v, jj_upd, true_and, and_true, if_true, wrow_2, wset_2] <;> (repeat (first | rw [if_neg (by omega)] | rw [if_pos (by omega)])) <;> (try rfl))
  · rw [hw2, hw1]; (simp only [wset_v, wrow_v, jj_upd, true_and, and_true, if_true, wrow_2, wset_2] <;> (repeat (first | rw [if_neg (by omega)] | rw [if_pos (by omega)])) <;> (try rfl))
