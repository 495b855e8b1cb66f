/-! PURE: order -/
def cnt (p : Nat → Bool) : Nat → Nat
  | 0 => 0
  | n + 1 => cnt p n + (if p n = true then 1 else 0)
theorem cnt_cong {p q : Nat → Bool} : ∀ n, (∀ j, j < n → p j = q j) → cnt p n = cnt q n
  | 0, _ => rfl
  | n + 1, h => by rw [cnt, cnt, h n (by omega), cnt_cong n (fun j hj => h j (by omega))]
theorem cnt_mono {p q : Nat → Bool} : ∀ n, (∀ j, j < n → p j = true → q j = true) → cnt p n ≤ cnt q n
  | 0, _ => Nat.le_refl _
  | n + 1, h => by
    rw [cnt, cnt]
    have := cnt_mono n (fun j hj => h j (by omega))
    by_cases hp : p n = true
    · rw [if_pos hp, if_pos (h n (by omega) hp)]; omega
    · rw [if_neg hp]; split <;> omega
theorem cnt_lt {p q : Nat → Bool} {i : Nat} (hp : p i = false) (hq : q i = true) : ∀ n, i < n → (∀ j, j < n → p j = true → q j = true) → cnt p n < cnt q n
  | 0, hi, _ => by omega
  | n + 1, hi, h => by
    rw [cnt, cnt]
    by_cases e : i = n
    · subst e
      have := cnt_mono i (fun j hj => h j (by omega))
      rw [if_neg (by rw [hp]; decide), if_pos hq]; omega
    · have := cnt_lt hp hq n (by omega) (fun j hj => h j (by omega))
      by_cases hpn : p n = true
      · rw [if_pos hpn, if_pos (h n (by omega) hpn)]; omega
      · rw [if_neg hpn]; split <;> omega
theorem cnt_upd {p q : Nat → Bool} {i : Nat} (hp : p i = false) (hq : q i = true) (h : ∀ j, j ≠ i → p j = q j) : ∀ n, i < n → cnt q n = cnt p n + 1
  | 0, hi => by omega
  | n + 1, hi => by
    rw [cnt, cnt]
    by_cases e : i = n
    · subst e
      rw [cnt_cong (p := q) (q := p) i (fun j hj => (h j (by omega)).symm), if_neg (show ¬ p i = true by rw [hp]; decide), if_pos hq]
    · rw [cnt_upd hp hq h n (by omega), h n (by omega)]; omega
/-- those before the place (m, e) -/
def bef (K : Nat → Nat) (m e : Nat) (j : Nat) : Bool := decide (K j ≠ 0 ∧ (K j < m ∨ (K j = m ∧ j < e)))
def KR (K : Nat → Nat) (w : Wd) : Prop := ∀ e, e < 6 → (K e = 0 ∧ w.1 18 e = -9) ∨ (1 ≤ K e ∧ K e ≤ 99 ∧ w.1 18 e = nI (K e))
theorem KR_ex {n : Nat} {w : Wd} (hn : n ≤ 6) (hS : IvS n w) : ∃ K, KR K w ∧ ∀ e, n ≤ e → K e = 0 := by
  obtain ⟨⟨s0, s1, sA, sB⟩, m, h, i0, im, i1, ih, iA⟩ := hS
  have key : ∀ e, ∃ k, (n ≤ e → k = 0) ∧ (e < 6 → (k = 0 ∧ w.1 18 e = -9) ∨ (1 ≤ k ∧ k ≤ 99 ∧ w.1 18 e = nI k)) := fun e => by
    by_cases l : e < n
    · have u : w.1 18 e = w.1 96 (20 + e) := (sA e l).2.2.2
      rcases (iA e l).2.2.2 with q | ⟨q, q1, q2, q3⟩
      · exact ⟨0, fun _ => rfl, fun _ => Or.inl ⟨rfl, u.trans q⟩⟩
      · exact ⟨q, fun z => by omega, fun _ => Or.inr ⟨q1, by omega, u.trans q3⟩⟩
    · exact ⟨0, fun _ => rfl, fun h6 => Or.inl ⟨rfl, (sB e (by omega) h6).2⟩⟩
  exact ⟨fun e => Classical.choose (key e), fun e he => (Classical.choose_spec (key e)).2 he, fun e he => (Classical.choose_spec (key e)).1 he⟩
theorem K_risen {K : Nat → Nat} {w : Wd} (hK : KR K w) {e : Nat} (he : e < 6) : w.1 18 e = -9 ↔ K e = 0 := by
  rcases hK e he with ⟨a, b⟩ | ⟨a, b, c⟩
  · exact ⟨fun _ => a, fun _ => b⟩
  · exact ⟨fun q => absurd (c.symm.trans q) (nI_n9 (by omega)), fun q => by omega⟩
theorem n9_lt {k : Nat} (h : k < 2 ^ 31) : (-9 : Int32) < nI k := by
  rw [Int32.lt_iff_toInt_lt, nI_toInt h]
  show (-9 : Int) < _
  omega
theorem ahead_eq {K : Nat → Nat} {w : Wd} (hK : KR K w) {e : Nat} (he : e < 6) (hr : K e ≠ 0) : f_X4_risenAheadOf 14 (nI e) w = some (nI (cnt (bef K (K e) e) 6), w) := by
  rw [f_X4_risenAheadOf, f_X4_risenAheadOf_b0, jj_bnd, jj_bnd]
  have hke : 1 ≤ K e ∧ K e ≤ 99 ∧ w.1 18 e = nI (K e) := by
    rcases hK e he with ⟨a, b⟩ | h
    · exact absurd a hr
    · exact h
  obtain ⟨k1, k2, k3⟩ := hke
  exact jj_loopc (F := fun f x a => f_X4_risenAheadOf_l4 14 f (nI e) a x w) (N := 6) (fun i => nI (cnt (bef K (K e) e) i)) (by
    intro f i hi
    have h6 : ¬ (6 : Int32) ≤ nI i := nI_ge hi (by decide)
    show f_X4_risenAheadOf_l4 14 (f + 1) (nI e) (nI _) (nI i) w = f_X4_risenAheadOf_l4 14 f (nI e) (nI _) (nI (i + 1)) w
    have hnext : ∀ c, f_X4_risenAheadOf_b68 14 (f_X4_risenAheadOf_l4 14 f) (nI e) c (nI i) w = f_X4_risenAheadOf_l4 14 f (nI e) c (nI (i + 1)) w := fun c => by rw [f_X4_risenAheadOf_b68, jj_bnd, nI_1]
    have h45 : ∀ c, f_X4_risenAheadOf_b45 14 (f_X4_risenAheadOf_l4 14 f) (nI e) (nI c) (nI i) w = f_X4_risenAheadOf_l4 14 f (nI e) (nI (c + (if K i = 0 then 0 else 1))) (nI (i + 1)) w := fun c => by
      rw [f_X4_risenAheadOf_b45, jj_bnd, hasRisen_eq hi, jj_cal]
      by_cases q : K i = 0
      · rw [if_pos ((K_risen hK hi).mpr q), if_pos (show (0 : Int32) = 0 from rfl), hnext, if_pos q]; rfl
      · rw [if_neg (fun z => q ((K_risen hK hi).mp z)), if_neg jj_ne10, if_neg jj_ne10, jj_bnd, hnext, if_neg q, nI_1]
    have h49 : ∀ c, f_X4_risenAheadOf_b49 14 (f_X4_risenAheadOf_l4 14 f) (nI e) (nI c) (nI i) w = f_X4_risenAheadOf_l4 14 f (nI e) (nI c) (nI (i + 1)) w := fun c => by
      rw [f_X4_risenAheadOf_b49, jj_bnd, hasRisen_eq hi, jj_cal]
      by_cases q : K i = 0
      · rw [if_pos ((K_risen hK hi).mpr q), if_pos (show (0 : Int32) = 0 from rfl), hnext]
      · rw [if_neg (fun z => q ((K_risen hK hi).mp z)), if_neg jj_ne10, if_pos (show (0 : Int32) = 0 from rfl), hnext]
    rw [f_X4_risenAheadOf_l4, f_X4_risenAheadOf_h4, if_neg h6, jj_grd (jj_i6 hi), jj_grd (jj_i6 he), jj_grd (jj_i6 hi), jj_grd (jj_i6 he), jj_tn (show i < 2 ^ 31 by omega), jj_tn (show e < 2 ^ 31 by omega), wget_def, wget_def, show w.1 (14 + 4) e = nI (K e) from k3, h45, h49, cnt]
    rcases hK i hi with ⟨a, b⟩ | ⟨a, b, c⟩
    · rw [show w.1 (14 + 4) i = -9 from b, if_pos (n9_lt (by omega)), if_pos a, if_neg (by simp [bef, a])]
    · rw [show w.1 (14 + 4) i = nI (K i) from c]
      by_cases l1 : K i < K e
      · rw [if_pos (nI_lt l1 (by omega)), if_neg (by omega), if_pos (by simp [bef, l1]; omega)]
      · rw [if_neg (jj_le_nlt (nI_le (show K e ≤ K i by omega) (by omega)))]
        by_cases l2 : K i = K e
        · rw [if_pos (by rw [l2])]
          by_cases l3 : e ≤ i
          · rw [if_pos (nI_le l3 (by omega)), if_neg (by simp [bef, l2]; omega)]; rfl
          · rw [if_neg (nI_ge (show i < e by omega) (by omega)), if_neg (by omega), if_pos (by simp [bef, l2]; omega)]
        · rw [if_neg (fun z => l2 ((nI_eq (a := K i) (b := K e) (by omega) (by omega)).mp z)), if_neg (by simp [bef]; omega)]; rfl) (by
    intro f
    show f_X4_risenAheadOf_l4 14 (f + 1) (nI e) _ (nI 6) w = _
    rw [f_X4_risenAheadOf_l4, f_X4_risenAheadOf_h4, if_pos (by decide)]) 6 0 300 rfl (by decide)
theorem cnt_le {p : Nat → Bool} : ∀ n, cnt p n ≤ n
  | 0 => Nat.le_refl _
  | n + 1 => by rw [cnt]; have := cnt_le (p := p) n; split <;> omega
/-- the answer of both -/
def ordA (K : Nat → Nat) (n x : Nat) (r : Int32) : Prop := (∃ e, e < n ∧ K e ≠ 0 ∧ cnt (bef K (K e) e) 6 = x ∧ r = nI e) ∨ (r = -9 ∧ ∀ e, e < n → K e ≠ 0 → cnt (bef K (K e) e) 6 ≠ x)
theorem ordA_one {K : Nat → Nat} {n x : Nat} (hn : n ≤ 6) {r s : Int32} (h1 : ordA K n x r) (h2 : ordA K n x s) : r = s := by
  have strict : ∀ a b, a < 6 → K a ≠ 0 → (K a < K b ∨ (K a = K b ∧ a < b)) → cnt (bef K (K a) a) 6 < cnt (bef K (K b) b) 6 := fun a b ha h0 hlt =>
    cnt_lt (i := a) (by simp [bef]) (by simp only [bef]; exact decide_eq_true ⟨h0, hlt⟩) 6 ha (fun j _ hj => by
      simp only [bef, decide_eq_true_eq] at hj ⊢
      omega)
  rcases h1 with ⟨a, a1, a2, a3, rfl⟩ | ⟨rfl, a1⟩
  · rcases h2 with ⟨b, b1, b2, b3, rfl⟩ | ⟨rfl, b1⟩
    · by_cases e : a = b
      · rw [e]
      · rcases Nat.lt_trichotomy (K a) (K b) with q | q | q
        · have := strict a b (by omega) a2 (Or.inl q); omega
        · rcases (show a < b ∨ b < a by omega) with z | z
          · have := strict a b (by omega) a2 (Or.inr ⟨q, z⟩); omega
          · have := strict b a (by omega) b2 (Or.inr ⟨q.symm, z⟩); omega
        · have := strict b a (by omega) b2 (Or.inl q); omega
    · exact absurd a3 (b1 a a1 a2)
  · rcases h2 with ⟨b, b1, b2, b3, rfl⟩ | ⟨rfl, b1⟩
    · exact absurd b3 (a1 b b1 b2)
    · rfl
theorem order_c {K : Nat → Nat} {n x : Nat} {w : Wd} (hn : n ≤ 6) (hK : KR K w) (hK0 : ∀ e, n ≤ e → K e = 0) (hx : x < 6) : ∀ (k e f : Nat), e + k = 6 → k < f → (∀ j, j < e → K j ≠ 0 → cnt (bef K (K j) j) 6 ≠ x) → ∃ r, f_X5_order_l14 f (nI x) (nI e) w = some (r, w) ∧ ordA K n x r
  | 0, e, f, he, hf, h => by
    obtain ⟨f, rfl⟩ : ∃ k, f = k + 1 := ⟨f - 1, by omega⟩
    obtain rfl : e = 6 := by omega
    refine ⟨-9, ?_, Or.inr ⟨rfl, fun j hj => h j (by omega)⟩⟩
    rw [f_X5_order_l14, f_X5_order_h14, if_pos (by decide)]
  | k + 1, e, f, he, hf, h => by
    obtain ⟨f, rfl⟩ : ∃ k, f = k + 1 := ⟨f - 1, by omega⟩
    have h6 : ¬ (6 : Int32) ≤ nI e := nI_ge (b := 6) (show e < 6 by omega) (by decide)
    have hnext : f_X5_order_b45 (f_X5_order_l14 f) (nI x) (nI e) w = f_X5_order_l14 f (nI x) (nI (e + 1)) w := by rw [f_X5_order_b45, jj_bnd, nI_1]
    by_cases q : K e = 0
    · obtain ⟨r, h1, h2⟩ := order_c hn hK hK0 hx k (e + 1) f (by omega) (by omega) (fun j hj hj0 => by
        by_cases z : j = e
        · subst z; exact absurd q hj0
        · exact h j (by omega) hj0)
      refine ⟨r, ?_, h2⟩
      rw [f_X5_order_l14, f_X5_order_h14, if_neg h6, hasRisen_eq (show e < 6 by omega), jj_cal, if_pos ((K_risen hK (show e < 6 by omega)).mpr q), if_pos (show (0 : Int32) = 0 from rfl), hnext, h1]
    · have c6 := cnt_le (p := bef K (K e) e) 6
      by_cases z : cnt (bef K (K e) e) 6 = x
      · refine ⟨nI e, ?_, Or.inl ⟨e, ?_, q, z, rfl⟩⟩
        · rw [f_X5_order_l14, f_X5_order_h14, if_neg h6, hasRisen_eq (show e < 6 by omega), jj_cal, if_neg (fun z => q ((K_risen hK (show e < 6 by omega)).mp z)), if_neg jj_ne10, ahead_eq hK (show e < 6 by omega) q, jj_cal, z, if_pos rfl]
        · exact Classical.byContradiction fun g => q (hK0 e (by omega))
      · obtain ⟨r, h1, h2⟩ := order_c hn hK hK0 hx k (e + 1) f (by omega) (by omega) (fun j hj hj0 => by
          by_cases g : j = e
          · subst g; exact z
          · exact h j (by omega) hj0)
        refine ⟨r, ?_, h2⟩
        rw [f_X5_order_l14, f_X5_order_h14, if_neg h6, hasRisen_eq (show e < 6 by omega), jj_cal, if_neg (fun z => q ((K_risen hK (show e < 6 by omega)).mp z)), if_neg jj_ne10, ahead_eq hK (show e < 6 by omega) q, jj_cal, if_neg (fun g => z ((nI_eq (by omega) (by omega)).mp g)), hnext, h1]
def ordI (K : Nat → Nat) (n x m e b : Nat) : Prop := b + cnt (bef K m e) 6 = x ∧ ∀ j, j < n → K j ≠ 0 → (K j < m ∨ (K j = m ∧ j < e)) → cnt (bef K (K j) j) 6 ≠ x
theorem order_in {K : Nat → Nat} {n x m : Nat} {w : Wd} (hn : n ≤ 6) (h0 : w.1 92 0 = nI n) (hR : ∀ e, e < n → (K e = 0 ∧ w.1 96 (20 + e) = -9) ∨ (1 ≤ K e ∧ K e ≤ 99 ∧ w.1 96 (20 + e) = nI (K e))) (hx : x < 6) (hm1 : 1 ≤ m) (hm2 : m ≤ 99) (KH : Int32 → Int32 → Wd → Option (Int32 × Wd)) : ∀ (k e f b : Nat), e + k = n → k < f → ordI K n x m e b → (∃ r, f_X6_order_l24 KH f (nI b) (nI m) (nI e) w = some (r, w) ∧ ordA K n x r) ∨ ∃ b', f_X6_order_l24 KH f (nI b) (nI m) (nI e) w = KH (nI b') (nI (m + 1)) w ∧ ordI K n x m n b'
  | 0, e, f, b, he, hf, hI => by
    obtain ⟨f, rfl⟩ : ∃ k, f = k + 1 := ⟨f - 1, by omega⟩
    obtain rfl : e = n := by omega
    right
    refine ⟨b, ?_, hI⟩
    rw [f_X6_order_l24, f_X6_order_h24, wget_def, h0, if_pos (nI_le (Nat.le_refl e) (by omega)), jj_bnd, nI_1]
  | k + 1, e, f, b, he, hf, hI => by
    obtain ⟨f, rfl⟩ : ∃ k, f = k + 1 := ⟨f - 1, by omega⟩
    obtain ⟨i1, i2⟩ := hI
    have pre : f_X6_order_l24 KH (f + 1) (nI b) (nI m) (nI e) w = (if w.1 96 (20 + e) = nI m then (if nI b = 0 then some (nI e, w) else bnd (nI b + -1) (fun y => f_X6_order_l24 KH f y (nI m) (nI (e + 1)) w)) else f_X6_order_l24 KH f (nI b) (nI m) (nI (e + 1)) w) := by
      rw [f_X6_order_l24, f_X6_order_h24, wget_def, h0, if_neg (nI_ge (show e < n by omega) (by omega)), jj_20, jj_grd (jj_i26 (show 20 + e < 26 by omega)), jj_tn (show 20 + e < 2 ^ 31 by omega), wget_def]
      simp only [f_X6_order_b57, jj_bnd, nI_1]
    rw [pre]
    by_cases q : K e = m
    · have hk : w.1 96 (20 + e) = nI m := by
        rcases hR e (by omega) with ⟨a, -⟩ | ⟨-, -, c⟩
        · omega
        · rw [c, q]
      have hstep : cnt (bef K m (e + 1)) 6 = cnt (bef K m e) 6 + 1 := cnt_upd (i := e) (by simp [bef]; omega) (by simp [bef]; omega) (fun j hj => by
        simp only [bef]
        by_cases c : K j ≠ 0 ∧ (K j < m ∨ (K j = m ∧ j < e))
        · rw [decide_eq_true c, decide_eq_true (by omega)]
        · rw [decide_eq_false c, decide_eq_false (by omega)]) 6 (by omega)
      rw [if_pos hk]
      by_cases hb : b = 0
      · left
        refine ⟨nI e, ?_, Or.inl ⟨e, by omega, by omega, by rw [q]; omega, rfl⟩⟩
        rw [if_pos (show nI b = 0 by rw [hb]; rfl)]
      · have hsub : nI b + -1 = nI (b - 1) := by
          rw [show nI b + -1 = nI b - 1 from (Int32.sub_eq_add_neg (nI b) 1).symm]
          exact nI_sub (b := 1) (by omega)
        rw [if_neg (show ¬ nI b = 0 from fun z => hb ((nI_eq (a := b) (b := 0) (by omega) (by decide)).mp z)), jj_bnd, hsub]
        exact order_in hn h0 hR hx hm1 hm2 KH k (e + 1) f (b - 1) (by omega) (by omega) ⟨by rw [hstep]; omega, fun j hj hj0 hlt => by
          by_cases z : j = e
          · subst z; rw [q]; omega
          · exact i2 j hj hj0 (by omega)⟩
    · have hk : ¬ w.1 96 (20 + e) = nI m := by
        rcases hR e (by omega) with ⟨-, a⟩ | ⟨a, b, c⟩
        · rw [a]; exact fun z => nI_n9 (show m < 2 ^ 31 by omega) z.symm
        · rw [c]; exact fun z => q ((nI_eq (a := K e) (b := m) (by omega) (by omega)).mp z)
      have hstep : cnt (bef K m (e + 1)) 6 = cnt (bef K m e) 6 := cnt_cong 6 (fun j hj => by
        simp only [bef]
        by_cases z : j = e
        · subst z
          by_cases c : K j ≠ 0 ∧ (K j < m ∨ (K j = m ∧ j < j))
          · rw [decide_eq_true c, decide_eq_true (by omega)]
          · rw [decide_eq_false c, decide_eq_false (by omega)]
        · by_cases c : K j ≠ 0 ∧ (K j < m ∨ (K j = m ∧ j < e))
          · rw [decide_eq_true c, decide_eq_true (by omega)]
          · rw [decide_eq_false c, decide_eq_false (by omega)])
      rw [if_neg hk]
      exact order_in hn h0 hR hx hm1 hm2 KH k (e + 1) f b (by omega) (by omega) ⟨by rw [hstep]; exact i1, fun j hj hj0 hlt => by
        by_cases z : j = e
        · subst z; exact i2 j hj hj0 (by omega)
        · exact i2 j hj hj0 (by omega)⟩
theorem order_m {K : Nat → Nat} {n x : Nat} {w : Wd} (hn : n ≤ 6) (h0 : w.1 92 0 = nI n) (hK0 : ∀ e, n ≤ e → K e = 0) (hR : ∀ e, e < n → (K e = 0 ∧ w.1 96 (20 + e) = -9) ∨ (1 ≤ K e ∧ K e ≤ 99 ∧ w.1 96 (20 + e) = nI (K e))) (hx : x < 6) : ∀ (k m f b : Nat), m + k = 100 → 1 ≤ m → k < f → ordI K n x m 0 b → ∃ r, f_X6_order_l15 f (nI b) (nI m) w = some (r, w) ∧ ordA K n x r
  | 0, m, f, b, hm, hm1, hf, hI => by
    obtain ⟨f, rfl⟩ : ∃ k, f = k + 1 := ⟨f - 1, by omega⟩
    obtain rfl : m = 100 := by omega
    refine ⟨-9, ?_, Or.inr ⟨rfl, fun j hj hj0 => hI.2 j hj hj0 ?_⟩⟩
    · rw [f_X6_order_l15, f_X6_order_h15, if_pos (by decide)]
    · rcases hR j hj with ⟨a, -⟩ | ⟨-, a, -⟩
      · exact absurd a hj0
      · omega
  | k + 1, m, f, b, hm, hm1, hf, hI => by
    obtain ⟨f, rfl⟩ : ∃ k, f = k + 1 := ⟨f - 1, by omega⟩
    have e1 : f_X6_order_l15 (f + 1) (nI b) (nI m) w = f_X6_order_l24 (f_X6_order_l15 f) 300 (nI b) (nI m) (nI 0) w := by
      rw [f_X6_order_l15, f_X6_order_h15, if_neg (show ¬ (99 : Int32) < nI m from jj_le_nlt (nI_le (a := m) (b := 99) (by omega) (by decide))), jj_bnd]
      rfl
    rw [e1]
    rcases order_in hn h0 hR hx hm1 (by omega) (f_X6_order_l15 f) n 0 300 b (by omega) (by omega) hI with h | ⟨b', h1, h2, h3⟩
    · exact h
    · rw [h1]
      refine order_m hn h0 hK0 hR hx k (m + 1) f b' (by omega) (by omega) (by omega) ⟨?_, fun j hj hj0 hlt => h3 j hj hj0 (by omega)⟩
      rw [← h2]
      congr 1
      refine cnt_cong 6 (fun j hj => ?_)
      simp only [bef]
      by_cases l : j < n
      · by_cases c : K j ≠ 0 ∧ (K j < m ∨ (K j = m ∧ j < n))
        · rw [decide_eq_true c, decide_eq_true (by omega)]
        · rw [decide_eq_false c, decide_eq_false (by omega)]
      · have := hK0 j (by omega)
        rw [decide_eq_false (by omega), decide_eq_false (by omega)]
theorem op_order : Op1 Iv f_X5_order f_X6_order := by
  intro a w hI
  obtain ⟨n, hn, hT, hS, hP, hG, hN, hX, hE⟩ := id hI
  obtain ⟨t0, t1, -⟩ := id hT
  by_cases g1 : a < 0
  · refine ⟨-1, w, w, ?_, ?_, hI⟩
    · rw [f_X5_order, f_X5_order_b0, if_pos g1]
    · rw [f_X6_order, f_X6_order_b0, in_eq, if_neg (fun q => q.1 g1), jj_cal, if_pos rfl]
  · obtain ⟨x, hx31, rfl⟩ := nI_of g1
    by_cases hx : x < 6
    · obtain ⟨K, hK, hK0⟩ := KR_ex hn hS
      have hR : ∀ e, e < n → (K e = 0 ∧ w.1 96 (20 + e) = -9) ∨ (1 ≤ K e ∧ K e ≤ 99 ∧ w.1 96 (20 + e) = nI (K e)) := fun e he => by
        have u : w.1 18 e = w.1 96 (20 + e) := (hS.1.2.2.1 e he).2.2.2
        rw [← u]; exact hK e (by omega)
      obtain ⟨r, c1, c2⟩ := order_c hn hK hK0 hx 6 0 300 rfl (by decide) (fun j hj => by omega)
      have hz : cnt (bef K 1 0) 6 = 0 := by
        have : cnt (bef K 1 0) 6 = cnt (fun _ => false) 6 := cnt_cong 6 (fun j _ => by simp only [bef]; exact decide_eq_false (by omega))
        rw [this]; rfl
      obtain ⟨s, m1, m2⟩ := order_m hn t0 hK0 hR hx 99 1 300 x (by omega) (by omega) (by omega) ⟨by omega, fun j hj hj0 hlt => by omega⟩
      have e : r = s := ordA_one hn c2 m2
      subst e
      refine ⟨r, w, w, ?_, ?_, hI⟩
      · rw [f_X5_order, f_X5_order_b0, if_neg g1, if_pos (show nI x < 6 from nI_lt (b := 6) hx (by decide)), jj_bnd]
        exact c1
      · rw [f_X6_order, f_X6_order_b0, in_eq, if_pos ⟨g1, show ¬ (5 : Int32) < nI x from jj_le_nlt (nI_le (a := x) (b := 5) (by omega) (by decide))⟩, jj_cal, if_neg jj_ne10, jj_bnd, jj_bnd]
        exact m1
    · refine ⟨-1, w, w, ?_, ?_, hI⟩
      · rw [f_X5_order, f_X5_order_b0, if_neg g1, if_neg (show ¬ nI x < 6 from jj_le_nlt (nI_le (a := 6) (b := x) (by omega) hx31))]
      · rw [f_X6_order, f_X6_order_b0, in_eq, if_neg (fun q => q.2 (show (5 : Int32) < nI x from nI_lt (a := 5) (b := x) (by omega) hx31)), jj_cal, if_pos rfl]
