/-! PURE: sets of weights as a long, and how many are in one -/
def mk8 (b : Nat) : Nat → Nat
  | 0 => 0
  | k + 1 => 256 * mk8 b k + b
theorem and_split {a b c d : Nat} (hb : b < 256) (hd : d < 256) : (256 * a + b) &&& (256 * c + d) = 256 * (a &&& c) + (b &&& d) := by
  have hbd : b &&& d < 256 := Nat.lt_of_le_of_lt Nat.and_le_left hb
  apply Nat.eq_of_testBit_eq
  intro i
  rw [Nat.testBit_and, show (256 : Nat) = 2 ^ 8 from rfl, Nat.testBit_two_pow_mul_add _ hb, Nat.testBit_two_pow_mul_add _ hd, Nat.testBit_two_pow_mul_add _ hbd]
  split
  · rw [Nat.testBit_and]
  · rw [Nat.testBit_and]
def X1 (k N : Nat) : Nat := N - (N / 2 &&& mk8 85 k)
def X2 (k N : Nat) : Nat := (X1 k N &&& mk8 51 k) + (X1 k N / 4 &&& mk8 51 k)
def X3 (k N : Nat) : Nat := (X2 k N + X2 k N / 16) &&& mk8 15 k
def q1 (b : Nat) : Nat := b - (b / 2 &&& 85)
def q2 (b : Nat) : Nat := (q1 b &&& 51) + (q1 b / 4 &&& 51)
def q3 (b : Nat) : Nat := (q2 b + q2 b / 16) &&& 15
theorem q_all : ∀ b, b < 256 → (b / 2 &&& 85 ≤ b ∧ q1 b < 256 ∧ q2 b < 256 ∧ q2 b ≤ 68 ∧ q2 b % 16 ≤ 4 ∧ q3 b ≤ 8) := by decide +kernel
theorem qa_all : ∀ b, b < 256 → ∀ c, c < 2 → (128 * c + b / 2) &&& 85 = b / 2 &&& 85 := by decide +kernel
theorem qb_all : ∀ b, b < 256 → ∀ c, c < 4 → (64 * c + b / 4) &&& 51 = b / 4 &&& 51 := by decide +kernel
theorem qc_all : ∀ b, b < 256 → ∀ c, c < 5 → (q2 b + (16 * c + q2 b / 16)) &&& 15 = q3 b := by decide +kernel
theorem q3_cnt : ∀ b, b < 256 → cnt (fun j => b.testBit j) 8 = q3 b := by decide +kernel
theorem X1_s {k a b : Nat} (hb : b < 256) : X1 (k + 1) (256 * a + b) = 256 * X1 k a + q1 b := by
  unfold X1 q1
  obtain ⟨h1, -⟩ := q_all b hb
  have e : (256 * a + b) / 2 = 256 * (a / 2) + (128 * (a % 2) + b / 2) := by omega
  rw [mk8, e, and_split (by omega) (by omega), qa_all b hb (a % 2) (by omega)]
  have h2 : a / 2 &&& mk8 85 k ≤ a / 2 := Nat.and_le_left
  generalize a / 2 &&& mk8 85 k = z at h2 ⊢
  omega
theorem X2_s {k a b : Nat} (hb : b < 256) : X2 (k + 1) (256 * a + b) = 256 * X2 k a + q2 b := by
  unfold X2 q2
  obtain ⟨-, h1, -⟩ := q_all b hb
  rw [X1_s hb, mk8]
  have e : (256 * X1 k a + q1 b) / 4 = 256 * (X1 k a / 4) + (64 * (X1 k a % 4) + q1 b / 4) := by omega
  rw [e, and_split h1 (by omega), and_split (by omega) (by omega), qb_all (q1 b) h1 (X1 k a % 4) (by omega)]
  omega
theorem X2_low : ∀ k a, X2 k a % 16 ≤ 4
  | 0, a => by
    unfold X2
    rw [mk8, Nat.and_zero, Nat.and_zero]
    decide
  | k + 1, a => by
    have hb : a % 256 < 256 := Nat.mod_lt _ (by decide)
    have e : a = 256 * (a / 256) + a % 256 := by omega
    rw [e, X2_s hb]
    obtain ⟨-, -, -, -, h, -⟩ := q_all (a % 256) hb
    omega
theorem X3_s {k a b : Nat} (hb : b < 256) : X3 (k + 1) (256 * a + b) = 256 * X3 k a + q3 b := by
  unfold X3
  obtain ⟨-, -, h1, h2, -⟩ := q_all b hb
  have hl := X2_low k a
  rw [X2_s hb, mk8]
  have e : 256 * X2 k a + q2 b + (256 * X2 k a + q2 b) / 16 = 256 * (X2 k a + X2 k a / 16) + (q2 b + (16 * (X2 k a % 16) + q2 b / 16)) := by omega
  rw [e, and_split (by omega) (by omega), qc_all b hb (X2 k a % 16) (by omega)]
theorem X3_0 (k : Nat) : X3 k 0 = 0 := by
  have h1 : X1 k 0 = 0 := by unfold X1; omega
  have h2 : X2 k 0 = 0 := by unfold X2; rw [h1, Nat.zero_div, Nat.zero_and]
  unfold X3
  rw [h2, Nat.zero_div, Nat.zero_and]
theorem cnt_add {p : Nat → Bool} (a : Nat) : ∀ m, cnt p (a + m) = cnt p a + cnt (fun j => p (a + j)) m
  | 0 => rfl
  | m + 1 => by rw [show a + (m + 1) = (a + m) + 1 by omega, cnt, cnt_add a m, cnt, Nat.add_assoc]
theorem cnt_byte (N m : Nat) : cnt (fun j => N.testBit j) (8 + m) = q3 (N % 256) + cnt (fun j => (N / 256).testBit j) m := by
  rw [cnt_add, ← q3_cnt (N % 256) (Nat.mod_lt _ (by decide))]
  congr 1
  · refine cnt_cong 8 (fun j hj => ?_)
    rw [show (256 : Nat) = 2 ^ 8 from rfl, Nat.testBit_mod_two_pow]
    simp [hj]
  · refine cnt_cong m (fun j hj => ?_)
    rw [show (256 : Nat) = 2 ^ 8 from rfl, Nat.testBit_div_two_pow, Nat.add_comm]
theorem X3_byte (k N : Nat) : X3 (k + 1) N = 256 * X3 k (N / 256) + q3 (N % 256) := by
  have e : N = 256 * (N / 256) + N % 256 := by omega
  have h := X3_s (k := k) (a := N / 256) (b := N % 256) (Nat.mod_lt _ (by decide))
  rw [← e] at h
  exact h
/-- all of it, over naturals -/
def bcN (N : Nat) : Nat := let x3 := X3 8 N; let x4 := x3 + x3 / 256; let x5 := x4 + x4 / 65536; let x6 := x5 + x5 / 4294967296; x6 % 128
theorem bcN_eq {N : Nat} (hN : N < 2 ^ 48) : bcN N = cnt (fun j => N.testBit j) 48 ∧ X3 8 N < 2 ^ 60 := by
  have hb : ∀ M, q3 (M % 256) ≤ 8 := fun M => (q_all (M % 256) (Nat.mod_lt _ (by decide))).2.2.2.2.2
  have h0 := hb N
  have h1 := hb (N / 256)
  have h2 := hb (N / 256 / 256)
  have h3 := hb (N / 256 / 256 / 256)
  have h4 := hb (N / 256 / 256 / 256 / 256)
  have h5 := hb (N / 256 / 256 / 256 / 256 / 256)
  have hz : N / 256 / 256 / 256 / 256 / 256 / 256 = 0 := by omega
  have hX : X3 8 N = 256 * (256 * (256 * (256 * (256 * (256 * 0 + q3 (N / 256 / 256 / 256 / 256 / 256 % 256)) + q3 (N / 256 / 256 / 256 / 256 % 256)) + q3 (N / 256 / 256 / 256 % 256)) + q3 (N / 256 / 256 % 256)) + q3 (N / 256 % 256)) + q3 (N % 256) := by
    rw [X3_byte, X3_byte, X3_byte, X3_byte, X3_byte, X3_byte, hz, X3_0]
  have hC : cnt (fun j => N.testBit j) 48 = q3 (N % 256) + (q3 (N / 256 % 256) + (q3 (N / 256 / 256 % 256) + (q3 (N / 256 / 256 / 256 % 256) + (q3 (N / 256 / 256 / 256 / 256 % 256) + (q3 (N / 256 / 256 / 256 / 256 / 256 % 256) + 0))))) := by
    rw [show 48 = 8 + (8 + (8 + (8 + (8 + (8 + 0))))) from rfl, cnt_byte, cnt_byte, cnt_byte, cnt_byte, cnt_byte, cnt_byte]
    rfl
  rw [hC]
  unfold bcN
  rw [hX]
  generalize q3 (N % 256) = a0 at *
  generalize q3 (N / 256 % 256) = a1 at *
  generalize q3 (N / 256 / 256 % 256) = a2 at *
  generalize q3 (N / 256 / 256 / 256 % 256) = a3 at *
  generalize q3 (N / 256 / 256 / 256 / 256 % 256) = a4 at *
  generalize q3 (N / 256 / 256 / 256 / 256 / 256 % 256) = a5 at *
  clear hX hC hz hN hb
  have e3 : 256 * (256 * (256 * (256 * (256 * (256 * 0 + a5) + a4) + a3) + a2) + a1) + a0 = a0 + 256 * a1 + 65536 * a2 + 16777216 * a3 + 4294967296 * a4 + 1099511627776 * a5 := by omega
  rw [e3]
  refine ⟨?_, by omega⟩
  obtain ⟨x3, hx3⟩ : ∃ x, x = a0 + 256 * a1 + 65536 * a2 + 16777216 * a3 + 4294967296 * a4 + 1099511627776 * a5 := ⟨_, rfl⟩
  rw [← hx3]
  have d1 : x3 / 256 = a1 + 256 * a2 + 65536 * a3 + 16777216 * a4 + 4294967296 * a5 := by omega
  obtain ⟨x4, hx4⟩ : ∃ x, x = x3 + x3 / 256 := ⟨_, rfl⟩
  have d2 : x4 / 65536 = (a2 + a3) + 256 * (a3 + a4) + 65536 * (a4 + a5) + 16777216 * a5 := by omega
  obtain ⟨x5, hx5⟩ : ∃ x, x = x4 + x4 / 65536 := ⟨_, rfl⟩
  have d3 : x5 / 4294967296 = (a4 + a5) + 256 * a5 := by omega
  obtain ⟨x6, hx6⟩ : ∃ x, x = x5 + x5 / 4294967296 := ⟨_, rfl⟩
  show (x3 + x3 / 256 + (x3 + x3 / 256) / 65536 + (x3 + x3 / 256 + (x3 + x3 / 256) / 65536) / 4294967296) % 128 = _
  rw [← hx4, ← hx5, ← hx6]
  omega
/-! the same over Int64 -/
def lI (n : Nat) : Int64 := Int64.ofNat n
theorem lI_or (a b : Nat) : lI a ||| lI b = lI (a ||| b) := by
  apply Int64.toBitVec_inj.1
  show BitVec.ofNat 64 a ||| BitVec.ofNat 64 b = BitVec.ofNat 64 (a ||| b)
  apply BitVec.eq_of_getLsbD_eq
  intro i hi
  simp [hi]
theorem lI_and (a b : Nat) : lI a &&& lI b = lI (a &&& b) := by
  apply Int64.toBitVec_inj.1
  show BitVec.ofNat 64 a &&& BitVec.ofNat 64 b = BitVec.ofNat 64 (a &&& b)
  apply BitVec.eq_of_getLsbD_eq
  intro i hi
  simp [hi]
theorem lI_add (a b : Nat) : lI a + lI b = lI (a + b) := (Int64.ofNat_add a b).symm
theorem lI_sub {a b : Nat} (h : b ≤ a) : lI a - lI b = lI (a - b) := (Int64.ofNat_sub a b h).symm
theorem lI_i (a : Nat) : (lI a).toInt32 = nI a := Int64.toInt32_ofNat'
theorem lI_u (a : Nat) : (lI a).toUInt64 = UInt64.ofNat a := rfl
theorem lI_shr {a : Nat} (ha : a < 2 ^ 64) (c : UInt64) {k : Nat} (hc : c.toNat % 64 = k) : ((lI a).toUInt64 >>> c).toInt64 = lI (a / 2 ^ k) := by
  have h : UInt64.ofNat a >>> c = UInt64.ofNat (a / 2 ^ k) := by
    apply UInt64.toNat_inj.1
    rw [UInt64.toNat_shiftRight, hc, UInt64.toNat_ofNat_of_lt' (by exact ha), UInt64.toNat_ofNat_of_lt' (by exact Nat.lt_of_le_of_lt (Nat.div_le_self _ _) ha), Nat.shiftRight_eq_div_pow]
  rw [lI_u, h]
  rfl
theorem lI_bit {N v : Nat} (hv : v < 41) : ((lI N >>> ((nI v).toInt64 &&& 63)) &&& 1 = 0) ↔ N.testBit v = false := by
  have hs : ∀ v, v < 41 → ((nI v).toInt64 &&& 63).toBitVec.smod 64 = BitVec.ofNat 64 v := by decide +kernel
  have hb : ((lI N >>> ((nI v).toInt64 &&& 63)) &&& 1).toBitVec = BitVec.sshiftRight' (BitVec.ofNat 64 N) (BitVec.ofNat 64 v) &&& 1#64 := by
    show BitVec.sshiftRight' (BitVec.ofNat 64 N) (((nI v).toInt64 &&& 63).toBitVec.smod 64) &&& 1#64 = _
    rw [hs v hv]
  have h0 : (BitVec.sshiftRight' (BitVec.ofNat 64 N) (BitVec.ofNat 64 v)).getLsbD 0 = N.testBit v := by
    rw [BitVec.getLsbD_sshiftRight']
    simp [Nat.mod_eq_of_lt (show v < 18446744073709551616 by omega), show v < 64 by omega]
    rw [← BitVec.getLsbD_eq_getElem, BitVec.getLsbD_ofNat]
    simp [show v < 64 by omega]
  constructor
  · intro h
    rw [h] at hb
    have := congrArg (fun b => b.getLsbD 0) hb
    simp only [BitVec.getLsbD_and, h0] at this
    simpa using this.symm
  · intro h
    apply Int64.toBitVec_inj.1
    rw [hb]
    apply BitVec.eq_of_getLsbD_eq
    intro i hi
    rw [BitVec.getLsbD_and]
    by_cases hi0 : i = 0
    · subst hi0; rw [h0, h]; rfl
    · have : (1#64 : BitVec 64).getLsbD i = false := by simp [hi0]
      rw [this, Bool.and_false]
      show false = (0#64).getLsbD i
      simp
theorem lcmp_0 (x : Int64) : lg_cmp x 0 = 0 ↔ x = 0 := by
  unfold lg_cmp
  by_cases h : x = 0
  · subst h; decide
  · by_cases h2 : x > 0
    · simp [h, h2]
    · simp [h, h2]
theorem l_bit {N v : Nat} (hv : v < 41) : lg_cmp ((lI N >>> ((nI v).toInt64 &&& 63)) &&& 1) 0 = 0 ↔ N.testBit v = false := (lcmp_0 _).trans (lI_bit hv)
theorem l_shl : ∀ v, v < 41 → (1 : Int64) <<< ((nI v).toInt64 &&& 63) = lI (2 ^ v) := by decide +kernel
theorem lbc_eq {N : Nat} (hN : N < 2 ^ 41) (w : Wd) : f_J13_bitCount_95d88 (lI N) w = some (nI (cnt (fun j => N.testBit j) 41), w) := by
  have hN48 : N < 2 ^ 48 := Nat.lt_of_lt_of_le hN (by decide)
  obtain ⟨hb, hx⟩ := bcN_eq hN48
  have h41 : cnt (fun j => N.testBit j) 48 = cnt (fun j => N.testBit j) 41 := cnt_more (n := 41) 7 (fun j h1 h2 => Nat.testBit_lt_two_pow (Nat.lt_of_lt_of_le hN (Nat.pow_le_pow_right (by decide) h1)))
  have m1 : (6148914691236517205 : Int64) = lI (mk8 85 8) := by decide +kernel
  have m2 : (3689348814741910323 : Int64) = lI (mk8 51 8) := by decide +kernel
  have m3 : (1085102592571150095 : Int64) = lI (mk8 15 8) := by decide +kernel
  have hX1 : X1 8 N ≤ N := Nat.sub_le _ _
  have hX2 : X2 8 N ≤ 2 * N := by
    have a1 : X1 8 N &&& mk8 51 8 ≤ X1 8 N := Nat.and_le_left
    have a2 : X1 8 N / 4 &&& mk8 51 8 ≤ X1 8 N / 4 := Nat.and_le_left
    unfold X2
    omega
  have e1 : lI N - (((lI N).toUInt64 >>> ((1 : Int32).toInt64.toUInt64 &&& Int64.toUInt64 63)).toInt64 &&& (6148914691236517205 : Int64)) = lI (X1 8 N) := by
    rw [lI_shr (show N < 2 ^ 64 by omega) _ (k := 1) (by decide +kernel), m1, lI_and, lI_sub (Nat.le_trans Nat.and_le_left (Nat.div_le_self _ _))]
    rfl
  have e2 : (lI (X1 8 N) &&& (3689348814741910323 : Int64)) + (((lI (X1 8 N)).toUInt64 >>> ((2 : Int32).toInt64.toUInt64 &&& Int64.toUInt64 63)).toInt64 &&& (3689348814741910323 : Int64)) = lI (X2 8 N) := by
    rw [lI_shr (show X1 8 N < 2 ^ 64 by omega) _ (k := 2) (by decide +kernel), m2, lI_and, lI_and, lI_add]
    rfl
  have e3 : (lI (X2 8 N) + ((lI (X2 8 N)).toUInt64 >>> ((4 : Int32).toInt64.toUInt64 &&& Int64.toUInt64 63)).toInt64) &&& (1085102592571150095 : Int64) = lI (X3 8 N) := by
    rw [lI_shr (show X2 8 N < 2 ^ 64 by omega) _ (k := 4) (by decide +kernel), m3, lI_add, lI_and]
    rfl
  obtain ⟨x3, hx3⟩ : ∃ x, x = X3 8 N := ⟨_, rfl⟩
  rw [← hx3] at hx e3
  have e4 : lI x3 + ((lI x3).toUInt64 >>> ((8 : Int32).toInt64.toUInt64 &&& Int64.toUInt64 63)).toInt64 = lI (x3 + x3 / 256) := by
    rw [lI_shr (show x3 < 2 ^ 64 by omega) _ (k := 8) (by decide +kernel), lI_add]
  obtain ⟨x4, hx4⟩ : ∃ x, x = x3 + x3 / 256 := ⟨_, rfl⟩
  rw [← hx4] at e4
  have e5 : lI x4 + ((lI x4).toUInt64 >>> ((16 : Int32).toInt64.toUInt64 &&& Int64.toUInt64 63)).toInt64 = lI (x4 + x4 / 65536) := by
    rw [lI_shr (show x4 < 2 ^ 64 by omega) _ (k := 16) (by decide +kernel), lI_add]
  obtain ⟨x5, hx5⟩ : ∃ x, x = x4 + x4 / 65536 := ⟨_, rfl⟩
  rw [← hx5] at e5
  have e6 : lI x5 + ((lI x5).toUInt64 >>> ((32 : Int32).toInt64.toUInt64 &&& Int64.toUInt64 63)).toInt64 = lI (x5 + x5 / 4294967296) := by
    rw [lI_shr (show x5 < 2 ^ 64 by omega) _ (k := 32) (by decide +kernel), lI_add]
  rw [f_J13_bitCount_95d88, f_J13_bitCount_95d88_b0, jj_bnd, e1, jj_bnd, e2, jj_bnd, e3, jj_bnd, e4, jj_bnd, e5, jj_bnd, e6, lI_i, show (127 : Int32) = nI 127 from rfl, jj_and, show (127 : Nat) = 2 ^ 7 - 1 from rfl, Nat.and_two_pow_sub_one_eq_mod, ← h41, ← hb]
  unfold bcN
  rw [← hx3]
  show some (nI ((x5 + x5 / 4294967296) % 2 ^ 7), w) = some (nI ((x3 + x3 / 256 + (x3 + x3 / 256) / 65536 + (x3 + x3 / 256 + (x3 + x3 / 256) / 65536) / 4294967296) % 128), w)
  rw [← hx4, ← hx5]
