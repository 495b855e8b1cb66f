/-! PURE: odds -/
def pw (x : Int32) : Nat → Int32
  | 0 => 1
  | k + 1 => pw x k * x
theorem pw_itr (x : Int32) : ∀ k, itr (fun _ a => a * x) 0 k 1 = pw x k
  | 0 => rfl
  | k + 1 => by rw [itr_last, pw_itr x k, pw]
theorem raised_eq {k : Nat} (hk : k < 300) (x : Int32) (w : Wd) : f_X5_raised x (nI k) w = some (pw x k, w) := by
  rw [f_X5_raised, f_X5_raised_b0, jj_bnd, jj_bnd, ← pw_itr]
  exact jj_loop0 (F := fun f y a => f_X5_raised_l4 f x (nI k) a y w) (s := fun _ a => a * x) (ex := fun a => some (a, w)) (N := k) (by
    intro f i a hi
    show f_X5_raised_l4 (f + 1) x (nI k) a (nI i) w = f_X5_raised_l4 f x (nI k) (a * x) (nI (i + 1)) w
    rw [f_X5_raised_l4, f_X5_raised_h4, if_neg (nI_ge hi (by omega)), jj_bnd, jj_bnd, nI_1]) (by
    intro f a
    show f_X5_raised_l4 (f + 1) x (nI k) a (nI k) w = _
    rw [f_X5_raised_l4, f_X5_raised_h4, if_pos (nI_le (Nat.le_refl k) (by omega))]) k 0 1 300 (by omega) hk
theorem nI_mul (a b : Nat) : nI a * nI b = nI (a * b) := (Int32.ofNat_mul a b).symm
theorem nI_div {a b : Nat} (ha : a < 2 ^ 31) (hb : b < 2 ^ 31) : nI a / nI b = nI (a / b) := by
  apply Int32.toInt_inj.1
  have h : a / b ≤ a := Nat.div_le_self a b
  rw [Int32.toInt_div, nI_toInt ha, nI_toInt hb, nI_toInt (by omega), ← Int.ofNat_tdiv]
  generalize a / b = c at h ⊢
  rw [Int.bmod_eq_of_le (by omega) (by omega)]
theorem nI_mod {a b : Nat} (ha : a < 2 ^ 31) (hb : b < 2 ^ 31) : nI a - nI a / nI b * nI b = nI (a % b) := by
  rw [nI_div ha hb, nI_mul, nI_sub (Nat.div_mul_le_self a b)]
  congr 1
  have := Nat.div_add_mod a b
  rw [Nat.mul_comm] at this
  omega
theorem pw_nI (a : Nat) : ∀ k, pw (nI a) k = nI (a ^ k)
  | 0 => rfl
  | k + 1 => by rw [pw, pw_nI a k, nI_mul, Nat.pow_succ]
theorem gcd_c (w : Wd) : ∀ (j a b t f : Nat), b < 2 ^ j → a < 2 ^ 31 → b < 2 ^ 31 → t + 2 * j ≤ 63 → 2 * j < f → f_X5_greatestCommon_l7 f (nI a) (nI b) (nI t) w = some (nI (Nat.gcd a b), w)
  | 0, a, b, t, f, hb, ha, hb2, ht, hf => by
    obtain ⟨f, rfl⟩ : ∃ k, f = k + 1 := ⟨f - 1, by omega⟩
    obtain rfl : b = 0 := by omega
    rw [f_X5_greatestCommon_l7, f_X5_greatestCommon_h7, if_neg (show ¬ (64 : Int32) ≤ nI t from nI_ge (b := 64) (by omega) (by decide)), if_pos (show nI 0 = 0 from rfl), Nat.gcd_zero_right]
    rfl
  | j + 1, a, b, t, f, hb, ha, hb2, ht, hf => by
    obtain ⟨f, rfl⟩ : ∃ k, f = k + 1 + 1 := ⟨f - 2, by omega⟩
    by_cases h0 : b = 0
    · subst h0
      rw [f_X5_greatestCommon_l7, f_X5_greatestCommon_h7, if_neg (show ¬ (64 : Int32) ≤ nI t from nI_ge (b := 64) (by omega) (by decide)), if_pos (show nI 0 = 0 from rfl), Nat.gcd_zero_right]
      rfl
    · have hr : a % b < b := Nat.mod_lt _ (by omega)
      have hz : ¬ nI b = 0 := fun q => h0 ((nI_eq (a := b) (b := 0) hb2 (by decide)).mp q)
      have hg : Nat.gcd a b = Nat.gcd b (a % b) := by rw [Nat.gcd_comm a b, Nat.gcd_rec, Nat.gcd_comm]
      rw [f_X5_greatestCommon_l7, f_X5_greatestCommon_h7, if_neg (show ¬ (64 : Int32) ≤ nI t from nI_ge (b := 64) (by omega) (by decide)), if_neg hz, jj_grd (by unfold nz; simp [hz]), jj_bnd, jj_bnd, jj_bnd, jj_bnd, nI_1, nI_mod ha hb2, hg]
      by_cases h1 : a % b = 0
      · rw [h1, f_X5_greatestCommon_l7, f_X5_greatestCommon_h7, if_neg (show ¬ (64 : Int32) ≤ nI (t + 1) from nI_ge (b := 64) (by omega) (by decide)), if_pos (show nI 0 = 0 from rfl), Nat.gcd_zero_right]
        rfl
      · obtain ⟨r, hrr⟩ : ∃ r, r = a % b := ⟨_, rfl⟩
        rw [← hrr] at hr h1 ⊢
        have hz2 : ¬ nI r = 0 := fun q => h1 ((nI_eq (a := r) (b := 0) (by omega) (by decide)).mp q)
        have hg2 : Nat.gcd b r = Nat.gcd r (b % r) := by rw [Nat.gcd_comm b r, Nat.gcd_rec, Nat.gcd_comm]
        have hlt : b % r < r := Nat.mod_lt _ (by omega)
        have hle : b % r + r ≤ b := by
          have h3 := Nat.div_add_mod b r
          have h4 : 1 ≤ b / r := Nat.div_pos (by omega) (by omega)
          have h5 : r * 1 ≤ r * (b / r) := Nat.mul_le_mul_left r h4
          omega
        have hp : 2 ^ (j + 1) = 2 * 2 ^ j := by rw [Nat.pow_succ]; omega
        rw [f_X5_greatestCommon_l7, f_X5_greatestCommon_h7, if_neg (show ¬ (64 : Int32) ≤ nI (t + 1) from nI_ge (b := 64) (by omega) (by decide)), if_neg hz2, jj_grd (by unfold nz; simp [hz2]), jj_bnd, jj_bnd, jj_bnd, jj_bnd, nI_1, nI_mod hb2 (by omega), hg2]
        exact gcd_c w j r (b % r) (t + 1 + 1) f (by omega) (by omega) (by omega) (by omega) (by omega)
theorem gcd_m (x0 x1 x2 : Int32) (w : Wd) : ∀ (j a b f : Nat), b < 2 ^ j → a < 2 ^ 31 → b < 2 ^ 31 → 2 * j < f → f_X6_lowest_l5 f x0 x1 x2 (nI a) (nI b) w = (if x2 = 0 then (grd (nz (nI (Nat.gcd a b))) (some (x0 / nI (Nat.gcd a b), w))) else (grd (nz (nI (Nat.gcd a b))) (some (x1 / nI (Nat.gcd a b), w))))
  | 0, a, b, f, hb, ha, hb2, hf => by
    obtain ⟨f, rfl⟩ : ∃ k, f = k + 1 := ⟨f - 1, by omega⟩
    obtain rfl : b = 0 := by omega
    rw [f_X6_lowest_l5, f_X6_lowest_h5, if_pos (show nI 0 ≤ 0 by decide), Nat.gcd_zero_right]
  | j + 1, a, b, f, hb, ha, hb2, hf => by
    obtain ⟨f, rfl⟩ : ∃ k, f = k + 1 + 1 := ⟨f - 2, by omega⟩
    by_cases h0 : b = 0
    · subst h0
      rw [f_X6_lowest_l5, f_X6_lowest_h5, if_pos (show nI 0 ≤ 0 by decide), Nat.gcd_zero_right]
    · have hr : a % b < b := Nat.mod_lt _ (by omega)
      have hz : ¬ nI b = 0 := fun q => h0 ((nI_eq (a := b) (b := 0) hb2 (by decide)).mp q)
      have hz0 : ¬ nI b ≤ 0 := nI_ge (a := 0) (b := b) (by omega) hb2
      have hg : Nat.gcd a b = Nat.gcd b (a % b) := by rw [Nat.gcd_comm a b, Nat.gcd_rec, Nat.gcd_comm]
      rw [f_X6_lowest_l5, f_X6_lowest_h5, if_neg hz0, jj_grd (by unfold nz; simp [hz]), jj_bnd, jj_bnd, jj_bnd, nI_mod ha hb2, hg]
      by_cases h1 : a % b = 0
      · rw [h1, f_X6_lowest_l5, f_X6_lowest_h5, if_pos (show nI 0 ≤ 0 by decide), Nat.gcd_zero_right]
      · obtain ⟨r, hrr⟩ : ∃ r, r = a % b := ⟨_, rfl⟩
        rw [← hrr] at hr h1 ⊢
        have hz2 : ¬ nI r = 0 := fun q => h1 ((nI_eq (a := r) (b := 0) (by omega) (by decide)).mp q)
        have hz3 : ¬ nI r ≤ 0 := nI_ge (a := 0) (b := r) (by omega) (by omega)
        have hg2 : Nat.gcd b r = Nat.gcd r (b % r) := by rw [Nat.gcd_comm b r, Nat.gcd_rec, Nat.gcd_comm]
        have hlt : b % r < r := Nat.mod_lt _ (by omega)
        have hle : b % r + r ≤ b := by
          have h3 := Nat.div_add_mod b r
          have h4 : 1 ≤ b / r := Nat.div_pos (by omega) (by omega)
          have h5 : r * 1 ≤ r * (b / r) := Nat.mul_le_mul_left r h4
          omega
        have hp : 2 ^ (j + 1) = 2 * 2 ^ j := by rw [Nat.pow_succ]; omega
        rw [f_X6_lowest_l5, f_X6_lowest_h5, if_neg hz3, jj_grd (by unfold nz; simp [hz2]), jj_bnd, jj_bnd, jj_bnd, nI_mod hb2 (by omega), hg2]
        exact gcd_m x0 x1 x2 w j r (b % r) f (by omega) (by omega) (by omega) (by omega)
theorem cb_all : ∀ k, k < 7 → ∀ s, s < 64 → s < 2 ^ k → cnt (fun e => s.testBit e) k = popc s := by decide +kernel
theorem prod_eq {s : Nat} (hs : s < 64) (x y : Int32) : ∀ e, e ≤ 6 → itr (fun j a => a * (if (nI s >>> (nI j &&& 31)) &&& 1 = 0 then y else x)) 0 e 1 = pw x (cnt (fun e => s.testBit e) e) * pw y (e - cnt (fun e => s.testBit e) e)
  | 0, _ => rfl
  | e + 1, he => by
    have hb := jj_bit0 (s := s) (i := e) hs (by omega)
    have hc := cnt_le (p := fun e => s.testBit e) e
    rw [itr_last, prod_eq hs x y e (by omega), Nat.zero_add, cnt]
    rcases Bool.eq_false_or_eq_true (s.testBit e) with h | h
    · rw [if_neg (show ¬ (nI s >>> (nI e &&& 31)) &&& 1 = 0 from fun q => by rw [hb.mp q] at h; cases h), if_pos h, pw, show e + 1 - (cnt (fun e => s.testBit e) e + 1) = e - cnt (fun e => s.testBit e) e by omega, Int32.mul_assoc, Int32.mul_assoc, Int32.mul_comm x]
    · rw [if_pos (hb.mpr h), if_neg (show ¬ s.testBit e = true by rw [h]; decide), Nat.add_zero, show e + 1 - cnt (fun e => s.testBit e) e = (e - cnt (fun e => s.testBit e) e) + 1 by omega, pw, Int32.mul_assoc]
def oStep (x y z : Int32) (k s : Nat) (a : Int32) : Int32 := if z < nI (popc s) then a else a + pw x (popc s) * pw y (k - popc s)
theorem popc_lt (k : Nat) (hk : k < 7) (s : Nat) (h1 : s < 64) (h2 : s < 2 ^ k) : popc s ≤ k := by rw [← cb_all k hk s h1 h2]; exact cnt_le k
theorem odds_num {q k : Nat} (hq : q ≤ 10) (hk : k ≤ 6) (z : Int32) : ∃ A, A ≤ 64000000 ∧ itr (oStep (nI q) (nI (10 - q)) z k) 0 (2 ^ k) 0 = nI A := by
  have hp64 : 2 ^ k ≤ 64 := (Nat.pow_le_pow_right (by decide) hk : 2 ^ k ≤ 2 ^ 6)
  have h := itr_inv (s := oStep (nI q) (nI (10 - q)) z k) (P := fun i a => ∃ A, A ≤ i * 1000000 ∧ a = nI A) (2 ^ k) 0 0 ⟨0, by omega, rfl⟩ (fun j a _ hj hA => by
    obtain ⟨A, h1, h2⟩ := hA
    unfold oStep
    have h3 : A ≤ (j + 1) * 1000000 := Nat.le_trans h1 (Nat.mul_le_mul_right 1000000 (Nat.le_succ j))
    split
    · exact ⟨A, h3, h2⟩
    · have hc := popc_lt k (by omega) j (by omega) (by omega)
      have e1 : q ^ popc j ≤ 10 ^ popc j := Nat.pow_le_pow_left hq _
      have e2 : (10 - q) ^ (k - popc j) ≤ 10 ^ (k - popc j) := Nat.pow_le_pow_left (by omega) _
      have e3 := Nat.mul_le_mul e1 e2
      rw [← Nat.pow_add, show popc j + (k - popc j) = k by omega] at e3
      have e4 : 10 ^ k ≤ 1000000 := Nat.le_trans (Nat.pow_le_pow_right (by decide) hk) (show 10 ^ 6 ≤ 1000000 by decide)
      refine ⟨A + q ^ popc j * (10 - q) ^ (k - popc j), by omega, ?_⟩
      rw [h2, pw_nI, pw_nI, nI_mul, nI_add])
  obtain ⟨A, h1, h2⟩ := h
  exact ⟨A, by omega, h2⟩
theorem odds_c {q k : Nat} (hq : q ≤ 10) (hk : k ≤ 6) (z b : Int32) (w : Wd) : f_X5_odds_l49 300 (nI q) z b (nI k) 0 0 w = (match (itr (oStep (nI q) (nI (10 - q)) z k) 0 (2 ^ k) 0) with
    | a => f_X5_odds_l49 1 (nI q) z b (nI k) a (nI (2 ^ k)) w) := by
  have hp64 : 2 ^ k ≤ 64 := (Nat.pow_le_pow_right (by decide) hk : 2 ^ k ≤ 2 ^ 6)
  exact jj_loop0 (F := fun f y a => f_X5_odds_l49 f (nI q) z b (nI k) a y w) (s := oStep (nI q) (nI (10 - q)) z k) (ex := fun a => f_X5_odds_l49 1 (nI q) z b (nI k) a (nI (2 ^ k)) w) (N := 2 ^ k) (by
    intro f i a hi
    show f_X5_odds_l49 (f + 1) (nI q) z b (nI k) a (nI i) w = f_X5_odds_l49 f (nI q) z b (nI k) (oStep (nI q) (nI (10 - q)) z k i a) (nI (i + 1)) w
    have hc := popc_lt k (by omega) i (by omega) hi
    rw [f_X5_odds_l49, f_X5_odds_h49, jj_shl (show k < 7 by omega), if_neg (nI_ge hi (by omega)), bc_eq (show i < 64 by omega), jj_cal, jj_bnd]
    unfold oStep
    by_cases h : z < nI (popc i)
    · rw [if_pos h, if_pos h, f_X5_odds_b95, jj_bnd, nI_1]
    · rw [if_neg h, if_neg h, raised_eq (show popc i < 300 by omega), jj_cal, nI_sub hc, show (10 : Int32) - nI q = nI (10 - q) from nI_sub (a := 10) hq, raised_eq (show k - popc i < 300 by omega), jj_cal, jj_bnd, f_X5_odds_b95, jj_bnd, nI_1]) (by
    intro f a
    show f_X5_odds_l49 (f + 1) (nI q) z b (nI k) a (nI (2 ^ k)) w = f_X5_odds_l49 1 (nI q) z b (nI k) a (nI (2 ^ k)) w
    rw [f_X5_odds_l49, f_X5_odds_l49, f_X5_odds_h49, f_X5_odds_h49, jj_shl (show k < 7 by omega), if_pos (nI_le (Nat.le_refl _) (by omega)), if_pos (nI_le (Nat.le_refl _) (by omega))]) (2 ^ k) 0 0 300 (by omega) (by omega)
theorem odds_m {q k : Nat} (hq : q ≤ 10) (hk : k ≤ 6) (z b d : Int32) (w : Wd) : f_X6_odds_l77 300 (nI q) z b (nI k) 0 d 0 w = f_X6_odds_l77 1 (nI q) z b (nI k) (itr (oStep (nI q) (nI (10 - q)) z k) 0 (2 ^ k) 0) d (nI (2 ^ k)) w := by
  have hp64 : 2 ^ k ≤ 64 := (Nat.pow_le_pow_right (by decide) hk : 2 ^ k ≤ 2 ^ 6)
  exact jj_loop0 (F := fun f y a => f_X6_odds_l77 f (nI q) z b (nI k) a d y w) (s := oStep (nI q) (nI (10 - q)) z k) (ex := fun a => f_X6_odds_l77 1 (nI q) z b (nI k) a d (nI (2 ^ k)) w) (N := 2 ^ k) (by
    intro f i a hi
    show f_X6_odds_l77 (f + 1) (nI q) z b (nI k) a d (nI i) w = f_X6_odds_l77 f (nI q) z b (nI k) (oStep (nI q) (nI (10 - q)) z k i a) d (nI (i + 1)) w
    have hi64 : i < 64 := by omega
    have hc := cb_all k (by omega) i hi64 hi
    have hin := jj_loop0 (F := fun f2 y c => f_X6_odds_l92 (f_X6_odds_l77 f) f2 (nI q) z b (nI k) a d (nI i) c y w) (s := fun j c => c * (if (nI i >>> (nI j &&& 31)) &&& 1 = 0 then nI (10 - q) else nI q)) (ex := fun c => f_X6_odds_l77 f (nI q) z b (nI k) (if z < nI (popc i) then a else a + c) d (nI (i + 1)) w) (N := k) (by
      intro f2 j c hj
      show f_X6_odds_l92 (f_X6_odds_l77 f) (f2 + 1) (nI q) z b (nI k) a d (nI i) c (nI j) w = f_X6_odds_l92 (f_X6_odds_l77 f) f2 (nI q) z b (nI k) a d (nI i) (c * (if (nI i >>> (nI j &&& 31)) &&& 1 = 0 then nI (10 - q) else nI q)) (nI (j + 1)) w
      rw [f_X6_odds_l92, f_X6_odds_h92, if_neg (nI_ge hj (by omega)), has_eq, jj_cal]
      by_cases hb : (nI i >>> (nI j &&& 31)) &&& 1 = 0
      · rw [if_pos hb, if_pos hb, if_pos (show (0 : Int32) = 0 from rfl), jj_bnd, jj_bnd, nI_1, show (10 : Int32) - nI q = nI (10 - q) from nI_sub (a := 10) hq]
      · rw [if_neg hb, if_neg hb, if_neg jj_ne10, jj_bnd, jj_bnd, nI_1]) (by
      intro f2 c
      show f_X6_odds_l92 (f_X6_odds_l77 f) (f2 + 1) (nI q) z b (nI k) a d (nI i) c (nI k) w = _
      rw [f_X6_odds_l92, f_X6_odds_h92, if_pos (nI_le (Nat.le_refl k) (by omega)), bits_eq hi64, jj_cal]
      by_cases h : z < nI (popc i)
      · rw [if_pos h, if_pos h, jj_bnd, jj_bnd, nI_1, Int32.add_zero]
      · rw [if_neg h, if_neg h, jj_bnd, jj_bnd, nI_1]) k 0 1 300 (by omega) (by omega)
    rw [f_X6_odds_l77, f_X6_odds_h77, jj_shl (show k < 7 by omega), if_neg (nI_ge hi (by omega)), jj_bnd, jj_bnd]
    refine hin.trans ?_
    rw [prod_eq hi64 _ _ k hk, hc]
    rfl) (by
    intro f a
    show f_X6_odds_l77 (f + 1) (nI q) z b (nI k) a d (nI (2 ^ k)) w = f_X6_odds_l77 1 (nI q) z b (nI k) a d (nI (2 ^ k)) w
    rw [f_X6_odds_l77, f_X6_odds_l77, f_X6_odds_h77, f_X6_odds_h77, jj_shl (show k < 7 by omega), if_pos (nI_le (Nat.le_refl _) (by omega)), if_pos (nI_le (Nat.le_refl _) (by omega))]) (2 ^ k) 0 0 300 (by omega) (by omega)
theorem tens_m {k : Nat} (hk : k ≤ 6) (x z b : Int32) (w : Wd) : f_X6_odds_l54 300 x z b (nI k) 0 1 0 w = f_X6_odds_l77 300 x z b (nI k) 0 (pw 10 k) 0 w := by
  rw [← pw_itr]
  exact jj_loop0 (F := fun f y a => f_X6_odds_l54 f x z b (nI k) 0 a y w) (s := fun _ a => a * 10) (ex := fun a => f_X6_odds_l77 300 x z b (nI k) 0 a 0 w) (N := k) (by
    intro f i a hi
    show f_X6_odds_l54 (f + 1) x z b (nI k) 0 a (nI i) w = f_X6_odds_l54 f x z b (nI k) 0 (a * 10) (nI (i + 1)) w
    rw [f_X6_odds_l54, f_X6_odds_h54, if_neg (nI_ge hi (by omega)), jj_bnd, jj_bnd, nI_1]) (by
    intro f a
    show f_X6_odds_l54 (f + 1) x z b (nI k) 0 a (nI k) w = _
    rw [f_X6_odds_l54, f_X6_odds_h54, if_pos (nI_le (Nat.le_refl k) (by omega)), jj_bnd]) k 0 1 300 (by omega) (by omega)
theorem odds_end {q k : Nat} (hq : q ≤ 10) (hk : k ≤ 6) (z b : Int32) (w u : Wd) : ∃ r, f_X5_odds_l49 300 (nI q) z b (nI k) 0 0 w = some (r, w) ∧ f_X6_odds_l54 300 (nI q) z b (nI k) 0 1 0 u = some (r, u) := by
  obtain ⟨A, hA, hA2⟩ := odds_num hq hk z
  have h10 : pw 10 k = nI (10 ^ k) := pw_nI 10 k
  have e4 : 10 ^ k ≤ 1000000 := Nat.le_trans (Nat.pow_le_pow_right (by decide) hk) (show 10 ^ 6 ≤ 1000000 by decide)
  have e5 : 0 < 10 ^ k := Nat.pow_pos (by decide)
  have hg0 : 0 < Nat.gcd A (10 ^ k) := Nat.gcd_pos_of_pos_right _ e5
  have hgl : Nat.gcd A (10 ^ k) ≤ 10 ^ k := Nat.gcd_le_right _ e5
  obtain ⟨g, hg⟩ : ∃ g, g = Nat.gcd A (10 ^ k) := ⟨_, rfl⟩
  have hz : ¬ nI g = 0 := fun x => by have := (nI_eq (a := g) (b := 0) (by omega) (by decide)).mp x; omega
  have hz0 : ¬ nI g ≤ 0 := nI_ge (a := 0) (b := g) (by omega) (by omega)
  have hnz : nz (nI g) = true := by unfold nz; simp [hz]
  have hp64 : 2 ^ k ≤ 64 := (Nat.pow_le_pow_right (by decide) hk : 2 ^ k ≤ 2 ^ 6)
  have hgc : f_X5_greatestCommon (nI A) (nI (10 ^ k)) w = some (nI g, w) := by
    rw [f_X5_greatestCommon, f_X5_greatestCommon_b0, jj_bnd, jj_bnd, jj_bnd, hg]
    exact gcd_c w 20 A (10 ^ k) 0 300 (by omega) (by omega) (by omega) (by omega) (by omega)
  have hc : f_X5_odds_l49 300 (nI q) z b (nI k) 0 0 w = some ((if b = 0 then nI A else nI (10 ^ k)) / nI g, w) := by
    rw [odds_c hq hk, hA2]
    show f_X5_odds_l49 1 (nI q) z b (nI k) (nI A) (nI (2 ^ k)) w = _
    rw [f_X5_odds_l49, f_X5_odds_h49, jj_shl (show k < 7 by omega), if_pos (nI_le (Nat.le_refl _) (by omega)), raised_eq (show k < 300 by omega), jj_cal, jj_bnd, h10, hgc, jj_cal, jj_bnd]
    by_cases hb : b = 0
    · rw [if_pos hb, if_pos hb, jj_bnd, if_neg hz0, jj_grd hnz]
    · rw [if_neg hb, if_neg hb, jj_bnd, if_neg hz0, jj_grd hnz]
  refine ⟨_, hc, ?_⟩
  rw [tens_m hk, odds_m hq hk, hA2, h10, f_X6_odds_l77, f_X6_odds_h77, jj_shl (show k < 7 by omega), if_pos (nI_le (Nat.le_refl _) (by omega)), f_X6_lowest, f_X6_lowest_b0, jj_bnd, jj_bnd, gcd_m _ _ _ u 20 A (10 ^ k) 300 (by omega) (by omega) (by omega) (by omega), ← hg]
  by_cases hb : b = 0
  · rw [if_pos hb, if_pos hb, jj_grd hnz, jj_cal]
  · rw [if_neg hb, if_neg hb, jj_grd hnz, jj_cal]
theorem op_odds : Op3 Iv f_X5_odds f_X6_odds := by
  intro x y b w hI
  obtain ⟨n, hn, hT, hS, hP, hG, hN, hX, hE⟩ := id hI
  obtain ⟨t0, t1, -⟩ := id hT
  by_cases g1 : x < 0
  · refine ⟨-1, w, w, ?_, ?_, hI⟩
    · rw [f_X5_odds, f_X5_odds_b0, if_pos g1]
    · rw [f_X6_odds, f_X6_odds_b0, in_eq, if_neg (fun q => q.1 g1), jj_cal, if_pos rfl]
  by_cases g2 : 10 < x
  · refine ⟨-1, w, w, ?_, ?_, hI⟩
    · rw [f_X5_odds, f_X5_odds_b0, if_neg g1, if_pos g2]
    · rw [f_X6_odds, f_X6_odds_b0, in_eq, if_neg (fun q => q.2 g2), jj_cal, if_pos rfl]
  by_cases g3 : y < 0
  · refine ⟨-1, w, w, ?_, ?_, hI⟩
    · rw [f_X5_odds, f_X5_odds_b0, if_neg g1, if_neg g2, if_pos g3]
    · rw [f_X6_odds, f_X6_odds_b0, in_eq, if_pos ⟨g1, g2⟩, jj_cal, if_neg jj_ne10, in_eq, if_neg (fun q => q.1 g3), jj_cal, if_pos rfl]
  by_cases g4 : 6 < y
  · refine ⟨-1, w, w, ?_, ?_, hI⟩
    · rw [f_X5_odds, f_X5_odds_b0, if_neg g1, if_neg g2, if_neg g3, if_pos g4]
    · rw [f_X6_odds, f_X6_odds_b0, in_eq, if_pos ⟨g1, g2⟩, jj_cal, if_neg jj_ne10, in_eq, if_neg (fun q => q.2 g4), jj_cal, if_pos rfl]
  by_cases g5 : b < 0
  · refine ⟨-1, w, w, ?_, ?_, hI⟩
    · rw [f_X5_odds, f_X5_odds_b0, if_neg g1, if_neg g2, if_neg g3, if_neg g4, if_pos g5]
    · rw [f_X6_odds, f_X6_odds_b0, in_eq, if_pos ⟨g1, g2⟩, jj_cal, if_neg jj_ne10, in_eq, if_pos ⟨g3, g4⟩, jj_cal, if_neg jj_ne10, in_eq, if_neg (fun q => q.1 g5), jj_cal, if_pos rfl]
  by_cases g6 : b ≤ 1
  · obtain ⟨q, hq31, rfl⟩ := nI_of g1
    have hq : q ≤ 10 := (nI_leI (a := q) (b := 10) hq31 (by decide)).mp (jj_nlt_le g2)
    obtain ⟨k1, k2⟩ := wet_dry hn (p := fun e => !decide (w.1 15 e = -9)) (q := fun e => decide (r0 w (2 + e) = -9)) (fun e he => by
      rw [Bool.not_not]
      have := (hS.1.2.2.1 e he).1
      show decide (r0 w (2 + e) = -9) = decide (w.1 15 e = -9)
      rw [show w.1 15 e = w.1 96 (2 + e) from this]
      unfold r0
      rw [if_pos (by omega)]) (fun e h1 h2 => by
      have := (hS.1.2.2.2 e h1 h2).1
      show (!decide (w.1 15 e = -9)) = false
      rw [show w.1 15 e = -9 from this]; rfl)
    obtain ⟨k, hk⟩ : ∃ k, k = n - popc (Dr n (r0 w)) := ⟨_, rfl⟩
    obtain ⟨r, c0, m0⟩ := odds_end (q := q) (k := k) hq (by omega) y b w (wrow w 103 (r0 w))
    refine ⟨r, w, wrow w 103 (r0 w), ?_, ?_, Iv_same (same_row w 103 (r0 w) (by omega)) hI⟩
    · rw [f_X5_odds, f_X5_odds_b0, if_neg g1, if_neg g2, if_neg g3, if_neg g4, if_neg g5, if_pos g6, wetOnes_eq, jj_cal, bc_eq (bset_lt _ 6), jj_cal, jj_bnd, jj_bnd, jj_bnd, k1]
      show f_X5_odds_l49 300 (nI q) y b (nI (n - popc (Dr n (r0 w)))) 0 0 w = _
      rw [← hk]
      exact c0
    · rw [f_X6_odds, f_X6_odds_b0, in_eq, if_pos ⟨g1, g2⟩, jj_cal, if_neg jj_ne10, in_eq, if_pos ⟨g3, g4⟩, jj_cal, if_neg jj_ne10, in_eq, if_pos ⟨g5, jj_le_nlt g6⟩, jj_cal, if_neg jj_ne10, dry_w hn t0, jj_cal, bits_eq (s := Dr n (r0 w)) (lt64 hn (bset_lt _ n)), jj_cal, wget_def, t0, nI_sub (show popc (Dr n (r0 w)) ≤ n from k2), jj_bnd, jj_bnd, jj_bnd, jj_bnd]
      show f_X6_odds_l54 300 (nI q) y b (nI (n - popc (Dr n (r0 w)))) 0 1 0 _ = _
      rw [← hk]
      exact m0
  · refine ⟨-1, w, w, ?_, ?_, hI⟩
    · rw [f_X5_odds, f_X5_odds_b0, if_neg g1, if_neg g2, if_neg g3, if_neg g4, if_neg g5, if_neg g6]
    · rw [f_X6_odds, f_X6_odds_b0, in_eq, if_pos ⟨g1, g2⟩, jj_cal, if_neg jj_ne10, in_eq, if_pos ⟨g3, g4⟩, jj_cal, if_neg jj_ne10, in_eq, if_neg (fun q => q.2 (jj_nle_lt g6)), jj_cal, if_pos rfl]
