/-! PURE: sets as bits, how many -/
theorem jj_loopc {α β : Type} {F : Nat → Int32 → α → Option β} {R : Option β} {N : Nat} (c : Nat → α)
    (hb : ∀ f i, i < N → F (f + 1) (nI i) (c i) = F f (nI (i + 1)) (c (i + 1))) (he : ∀ f, F (f + 1) (nI N) (c N) = R) : ∀ (n i f : Nat), i + n = N → n < f → F f (nI i) (c i) = R
  | 0, i, f, hi, hf => by
    obtain ⟨f, rfl⟩ : ∃ k, f = k + 1 := ⟨f - 1, by omega⟩
    obtain rfl : i = N := by omega
    exact he f
  | n + 1, i, f, hi, hf => by
    obtain ⟨f, rfl⟩ : ∃ k, f = k + 1 := ⟨f - 1, by omega⟩
    rw [hb f i (by omega)]
    exact jj_loopc c hb he n (i + 1) f (by omega) (by omega)
def bset (p : Nat → Bool) : Nat → Nat
  | 0 => 0
  | n + 1 => if p n then bset p n ||| 2 ^ n else bset p n
theorem bset_bit (p : Nat → Bool) : ∀ n i, (bset p n).testBit i = (decide (i < n) && p i)
  | 0, i => by simp [bset]
  | n + 1, i => by
    rw [bset]
    by_cases h : p n = true
    · rw [if_pos h, Nat.testBit_or, bset_bit p n i, Nat.testBit_two_pow]
      by_cases e : n = i
      · subst e; simp [h]
      · by_cases l : i < n
        · have l2 : i < n + 1 := by omega
          simp [l, l2, e]
        · have l2 : ¬ i < n + 1 := by omega
          simp [l, l2, e]
    · rw [if_neg h, bset_bit p n i]
      by_cases e : n = i
      · subst e
        have hf : p n = false := by simpa using h
        simp [hf]
      · by_cases l : i < n
        · have l2 : i < n + 1 := by omega
          simp [l, l2]
        · have l2 : ¬ i < n + 1 := by omega
          simp [l, l2]
theorem bset_lt (p : Nat → Bool) (n : Nat) : bset p n < 2 ^ n := by
  apply Nat.lt_pow_two_of_testBit
  intro i hi
  rw [bset_bit]
  have : ¬ i < n := by omega
  simp [this]
theorem bset_ext {p q : Nat → Bool} {n m : Nat} (h : ∀ i, (decide (i < n) && p i) = (decide (i < m) && q i)) : bset p n = bset q m := Nat.eq_of_testBit_eq fun i => by rw [bset_bit, bset_bit, h]
theorem lt64 {s n : Nat} (hn : n ≤ 6) (h : s < 2 ^ n) : s < 64 := Nat.lt_of_lt_of_le h (Nat.pow_le_pow_right (by decide) hn : 2 ^ n ≤ 2 ^ 6)
def popc (s : Nat) : Nat := s % 2 + s / 2 % 2 + s / 4 % 2 + s / 8 % 2 + s / 16 % 2 + s / 32 % 2
theorem bc_w (x : Int32) (w : Wd) : f_J6_bitCount_0f7a4 x w = (f_J6_bitCount_0f7a4 x w0).map (fun q => (q.1, w)) := rfl
theorem bc_all : ∀ s, s < 64 → (f_J6_bitCount_0f7a4 (nI s) w0).map (fun q => q.1) = some (nI (popc s)) := by decide +kernel
theorem bc_eq {s : Nat} (hs : s < 64) (w : Wd) : f_J6_bitCount_0f7a4 (nI s) w = some (nI (popc s), w) := by
  rw [bc_w]
  have h := bc_all s hs
  cases hq : f_J6_bitCount_0f7a4 (nI s) w0 with
  | none => rw [hq] at h; cases h
  | some q =>
    rw [hq] at h
    have h1 : q.1 = nI (popc s) := Option.some.inj h
    show some (q.1, w) = _
    rw [h1]
theorem jj_bnd {α β : Type} (a : α) (f : α → Option β) : bnd a f = f a := rfl
def bitsS (x : Int32) (d : Nat) (acc : Int32) : Int32 := acc + ((x >>> (nI d &&& 31)) &&& 1)
theorem bits_loop (x : Int32) (w : Wd) : f_X6_bits_l4 300 x 0 0 w = some (itr (bitsS x) 0 6 0, w) :=
  jj_loop0 (F := fun f y a => f_X6_bits_l4 f x a y w) (s := bitsS x) (ex := fun a => some (a, w)) (N := 6) (by
    intro f i a hi
    have h6 : ¬ (6 : Int32) ≤ nI i := nI_ge hi (by decide)
    show f_X6_bits_l4 (f + 1) x a (nI i) w = f_X6_bits_l4 f x (a + ((x >>> (nI i &&& 31)) &&& 1)) (nI (i + 1)) w
    rw [f_X6_bits_l4, f_X6_bits_h4, if_neg h6]
    simp only [bnd, nI_1]) (by
    intro f a
    show f_X6_bits_l4 (f + 1) x a (nI 6) w = _
    rw [f_X6_bits_l4, f_X6_bits_h4, if_pos (by decide)]) 6 0 0 300 rfl (by decide)
theorem bits_all : ∀ s, s < 64 → itr (bitsS (nI s)) 0 6 0 = nI (popc s) := by decide +kernel
theorem bits_eq {s : Nat} (hs : s < 64) (w : Wd) : f_X6_bits (nI s) w = some (nI (popc s), w) := by
  rw [f_X6_bits, f_X6_bits_b0, jj_bnd, jj_bnd, bits_loop, bits_all s hs]
theorem popc_co : ∀ n, n ≤ 6 → ∀ s, s < 64 → s < 2 ^ n → popc s + popc ((2 ^ n - 1) &&& (63 ^^^ s)) = n := by decide +kernel
theorem popc_le : ∀ s, s < 64 → popc s ≤ 6 := by decide +kernel
theorem nI_sub {a b : Nat} (h : b ≤ a) : nI a - nI b = nI (a - b) := by
  obtain ⟨c, rfl⟩ : ∃ c, a = b + c := ⟨a - b, by omega⟩
  rw [Nat.add_sub_cancel_left, ← nI_add]
  rw [Int32.add_comm, Int32.add_sub_cancel]
theorem wetOnes_eq (k : Nat) (w : Wd) : f_X4_wetOnes k w = some (nI (bset (fun d => !decide (w.1 (k + 1) d = -9)) 6), w) := by
  exact jj_loopc (F := fun f x a => f_X4_wetOnes_l4 k f a x w) (N := 6) (fun i => nI (bset (fun d => !decide (w.1 (k + 1) d = -9)) i)) (by
    intro f i hi
    have h6 : ¬ (6 : Int32) ≤ nI i := nI_ge hi (by decide)
    show f_X4_wetOnes_l4 k (f + 1) (nI _) (nI i) w = f_X4_wetOnes_l4 k f (nI _) (nI (i + 1)) w
    rw [f_X4_wetOnes_l4, f_X4_wetOnes_h4, if_neg h6, isDry_eq hi, bset]
    by_cases hd : w.1 (k + 1) i = -9
    · simp [cal, bnd, f_X4_wetOnes_b24, hd, nI_1]
    · simp [cal, bnd, f_X4_wetOnes_b24, hd, nI_1, jj_shl (show i < 7 by omega), jj_or]) (by
    intro f
    show f_X4_wetOnes_l4 k (f + 1) _ (nI 6) w = _
    rw [f_X4_wetOnes_l4, f_X4_wetOnes_h4, if_pos (by decide)]) 6 0 300 rfl (by decide)
theorem upOnes_eq (k : Nat) (w : Wd) : f_X4_upOnes k w = some (nI (bset (fun d => decide (w.1 (k + 1) d = 0)) 6), w) := by
  exact jj_loopc (F := fun f x a => f_X4_upOnes_l4 k f a x w) (N := 6) (fun i => nI (bset (fun d => decide (w.1 (k + 1) d = 0)) i)) (by
    intro f i hi
    have h6 : ¬ (6 : Int32) ≤ nI i := nI_ge hi (by decide)
    show f_X4_upOnes_l4 k (f + 1) (nI _) (nI i) w = f_X4_upOnes_l4 k f (nI _) (nI (i + 1)) w
    rw [f_X4_upOnes_l4, f_X4_upOnes_h4, if_neg h6, bset, jj_inb hi (by decide), jj_tn (show i < 2 ^ 31 by omega)]
    by_cases hd : w.1 (k + 1) i = 0
    · simp [grd, bnd, f_X4_upOnes_b25, hd, nI_1, jj_shl (show i < 7 by omega), jj_or, wget_def]
    · simp [grd, bnd, f_X4_upOnes_b25, hd, nI_1, wget_def]) (by
    intro f
    show f_X4_upOnes_l4 k (f + 1) _ (nI 6) w = _
    rw [f_X4_upOnes_l4, f_X4_upOnes_h4, if_pos (by decide)]) 6 0 300 rfl (by decide)
theorem risenOnes_eq (k : Nat) (w : Wd) : f_X4_risenOnes k w = some (nI (bset (fun d => !decide (w.1 (k + 4) d = -9)) 6), w) := by
  exact jj_loopc (F := fun f x a => f_X4_risenOnes_l4 k f a x w) (N := 6) (fun i => nI (bset (fun d => !decide (w.1 (k + 4) d = -9)) i)) (by
    intro f i hi
    have h6 : ¬ (6 : Int32) ≤ nI i := nI_ge hi (by decide)
    show f_X4_risenOnes_l4 k (f + 1) (nI _) (nI i) w = f_X4_risenOnes_l4 k f (nI _) (nI (i + 1)) w
    rw [f_X4_risenOnes_l4, f_X4_risenOnes_h4, if_neg h6, hasRisen_eq hi, bset]
    by_cases hd : w.1 (k + 4) i = -9
    · simp [cal, bnd, f_X4_risenOnes_b24, hd, nI_1]
    · simp [cal, bnd, f_X4_risenOnes_b24, hd, nI_1, jj_shl (show i < 7 by omega), jj_or]) (by
    intro f
    show f_X4_risenOnes_l4 k (f + 1) _ (nI 6) w = _
    rw [f_X4_risenOnes_l4, f_X4_risenOnes_h4, if_pos (by decide)]) 6 0 300 rfl (by decide)
theorem atDepth_eq {w : Wd} {n : Nat} (hn : w.1 92 0 = nI n) (hn6 : n ≤ 6) (x : Int32) : f_X6_atDepth x w = some (nI (bset (fun d => decide (w.1 103 (2 + d) = x)) n), w) := by
  exact jj_loopc (F := fun f y a => f_X6_atDepth_l4 f x a y w) (N := n) (fun i => nI (bset (fun d => decide (w.1 103 (2 + d) = x)) i)) (by
    intro f i hi
    have h6 : ¬ nI n ≤ nI i := nI_ge hi (by omega)
    show f_X6_atDepth_l4 (f + 1) x (nI _) (nI i) w = f_X6_atDepth_l4 f x (nI _) (nI (i + 1)) w
    rw [f_X6_atDepth_l4, f_X6_atDepth_h4, wget_def, hn, if_neg h6, bset, jj_2, jj_inb (show 2 + i < 26 by omega) (by decide), jj_tn (show 2 + i < 2 ^ 31 by omega)]
    by_cases hd : w.1 103 (2 + i) = x
    · simp [grd, bnd, hd, nI_1, jj_shl (show i < 7 by omega), jj_or, wget_def]
    · have e0 : nI (bset (fun d => decide (w.1 103 (2 + d) = x)) i) ||| 0 = nI (bset (fun d => decide (w.1 103 (2 + d) = x)) i) := Int32.or_zero
      simp [grd, bnd, hd, nI_1, wget_def]) (by
    intro f
    show f_X6_atDepth_l4 (f + 1) x _ (nI n) w = _
    rw [f_X6_atDepth_l4, f_X6_atDepth_h4, wget_def, hn, if_pos (nI_le (Nat.le_refl n) (by omega))]) n 0 300 (by omega) (by omega)
theorem asItIs_eq (w : Wd) : ∃ w', f_X6_asItIs w = some ((), w') ∧ w' = wrow w 103 (w'.1 103) ∧ ∀ j, j < 26 → w'.1 103 j = w.1 96 j := by
  have h := copy26 (k0 := 103) (k2 := 96) (a := 0) (c := 0) (by decide) (by decide) (by decide) (by decide) (by decide) w
  refine ⟨wrow w 103 (fun j => if 0 ≤ j ∧ j < 0 + 26 then w.1 96 (0 + (j - 0)) else w.1 103 j), ?_, ?_, ?_⟩
  · unfold f_X6_asItIs f_X6_asItIs_b0
    have e0 : (0 : Int32) = nI 0 := rfl
    rw [e0, h]
    rfl
  · rw [wrow_row]
  · intro j hj
    rw [wrow_row, if_pos (by omega)]
    simp
theorem dry_eq {w : Wd} {n : Nat} (hn : w.1 92 0 = nI n) (hn6 : n ≤ 6) : ∃ w', f_X6_dry w = some (nI (bset (fun d => decide (w.1 96 (2 + d) = -9)) n), w') ∧ w' = wrow w 103 (w'.1 103) := by
  obtain ⟨w', h1, h2, h3⟩ := asItIs_eq w
  refine ⟨w', ?_, h2⟩
  unfold f_X6_dry f_X6_dry_b0
  rw [h1]
  have e92 : w'.1 92 0 = nI n := by rw [h2, wrow_off (by decide), hn]
  simp only [cal, atDepth_eq e92 hn6]
  have e : bset (fun d => decide (w'.1 103 (2 + d) = -9)) n = bset (fun d => decide (w.1 96 (2 + d) = -9)) n := bset_ext fun i => by
    by_cases l : i < n
    · rw [h3 (2 + i) (by omega)]
    · simp [l]
  rw [e]
theorem all_eq {w : Wd} {n : Nat} (hT : w.1 4 0 = nI n) (hn : n ≤ 6) : f_X2_all 4 w = some (nI (2 ^ n - 1), w) := by
  unfold f_X2_all f_X2_all_b0
  rw [wget_def, hT, jj_shl (show n < 7 by omega)]
  have h1 : 1 ≤ 2 ^ n := Nat.one_le_two_pow
  have e1 : (1 : Int32) = nI 1 := rfl
  rw [e1, nI_sub h1]
theorem jj_dry {n : Nat} (hn : n ≤ 6) {p : Nat → Bool} (hp : ∀ d, n ≤ d → d < 6 → p d = false) : (2 ^ n - 1) &&& (63 ^^^ bset p 6) = bset (fun d => !p d) n := by
  apply Nat.eq_of_testBit_eq
  intro i
  rw [Nat.testBit_and, Nat.testBit_xor, bset_bit, bset_bit, Nat.testBit_two_pow_sub_one, show (63 : Nat) = 2 ^ 6 - 1 from rfl, Nat.testBit_two_pow_sub_one]
  by_cases l : i < n
  · have l6 : i < 6 := by omega
    simp [l, l6]
  · simp [l]
theorem dryOnes_eq {w : Wd} {n : Nat} (hT : w.1 4 0 = nI n) (hn : n ≤ 6) (hd : ∀ d, n ≤ d → d < 6 → w.1 15 d = -9) : f_X5_dryOnes w = some (nI (bset (fun d => decide (w.1 15 d = -9)) n), w) := by
  unfold f_X5_dryOnes f_X5_dryOnes_b0
  rw [all_eq hT hn]
  simp only [cal, wetOnes_eq]
  have h1 : 2 ^ n - 1 < 64 := by
    have := lt64 hn (show 2 ^ n - 1 < 2 ^ n by have := Nat.one_le_two_pow (n := n); omega)
    exact this
  rw [jj_andnot h1 (bset_lt _ 6), jj_dry hn (p := fun d => !decide (w.1 (14 + 1) d = -9)) (fun d p1 p2 => by
    have := hd d p1 p2
    show (!decide (w.1 15 d = -9)) = false
    rw [this]; rfl)]
  have e : (fun d => !(!decide (w.1 (14 + 1) d = -9))) = fun d => decide (w.1 15 d = -9) := funext fun d => Bool.not_not _
  rw [e]
