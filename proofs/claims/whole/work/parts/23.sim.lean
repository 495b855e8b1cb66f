/-! PURE: the class's stew and the reference's row, minute by minute -/
def dOK (x : Int32) : Prop := x = -9 ∨ ∃ k, k ≤ 10 ∧ x = nI k
def RInv (n M : Nat) (r : Nat → Int32) : Prop := ∃ m h, r 0 = nI m ∧ m ≤ M ∧ r 1 = nI h ∧ h ≤ 9 ∧ ∀ d, d < n → dOK (r (2 + d)) ∧ (∃ k, 1 ≤ k ∧ k ≤ 30 ∧ r (8 + d) = nI k) ∧ (∃ s, s < 2 ^ n ∧ r (14 + d) = nI s) ∧ (r (20 + d) = -9 ∨ ∃ k, 1 ≤ k ∧ k ≤ m ∧ r (20 + d) = nI k)
def SRel (n : Nat) (w : Wd) (k : Nat) (r : Nat → Int32) : Prop := w.1 k 0 = r 0 ∧ w.1 k 1 = r 1 ∧ (∀ d, d < n → w.1 (k + 1) d = r (2 + d) ∧ w.1 (k + 2) d = r (8 + d) ∧ w.1 (k + 3) d = r (14 + d) ∧ w.1 (k + 4) d = r (20 + d)) ∧ ∀ d, n ≤ d → d < 6 → w.1 (k + 1) d = -9 ∧ w.1 (k + 4) d = -9
def DInv (n : Nat) (gl : Int32) (wt sw : Nat → Int32) : Prop := (∃ g, g ≤ 9 ∧ gl = nI g) ∧ ∀ d, d < n → (∃ k, k ≤ 40 ∧ wt d = nI k) ∧ ∃ k, k ≤ 3 ∧ sw d = nI k
theorem mSw_8 {n d : Nat} (h : d < n) (sw r : Nat → Int32) : mSw n sw r (8 + d) = if r (2 + d) = -9 then r (8 + d) else if r (8 + d) + sw d ≤ 30 then r (8 + d) + sw d else 30 := by
  unfold mSw
  rw [if_pos (by omega), Nat.add_sub_cancel_left]
theorem mSw_o {n j : Nat} (hn : n ≤ 6) (h : j < 8 ∨ 14 ≤ j) (sw r : Nat → Int32) : mSw n sw r j = r j := if_neg (by omega)
theorem mFl_2 {n d : Nat} (h : d < n) (wt r : Nat → Int32) : mFl n wt r (2 + d) = if r (2 + d) = -9 then r (2 + d) else mvM (r (2 + d)) (liftI (fun d => r (8 + d)) (r 1) wt (r (14 + d)) n) := by
  unfold mFl
  rw [if_pos (by omega), Nat.add_sub_cancel_left]
theorem mFl_o {n j : Nat} (hn : n ≤ 6) (h : j < 2 ∨ 8 ≤ j) (wt r : Nat → Int32) : mFl n wt r j = r j := if_neg (by omega)
theorem mLay_14 {n d : Nat} (h : d < n) (set : Int32) (r : Nat → Int32) : mLay n set r (14 + d) = if (set >>> (nI d &&& 31)) &&& 1 = 0 then r (14 + d) else set := by
  unfold mLay
  rw [if_pos (by omega), Nat.add_sub_cancel_left]
theorem mLay_o {n j : Nat} (hn : n ≤ 6) (h : j < 14 ∨ 20 ≤ j) (set : Int32) (r : Nat → Int32) : mLay n set r j = r j := if_neg (by omega)
theorem mRs_20 {n d : Nat} (h : d < n) (r : Nat → Int32) : mRs n r (20 + d) = if r (2 + d) = 0 ∧ r (20 + d) = -9 then r 0 else r (20 + d) := by
  unfold mRs
  rw [if_pos (by omega), Nat.add_sub_cancel_left]
theorem mRs_o {n j : Nat} (h : j < 20) (r : Nat → Int32) : mRs n r j = r j := if_neg (by omega)
theorem imin30 (y : Int32) : imin 30 y = if y ≤ 30 then y else 30 := by
  unfold imin
  by_cases h : y < 30
  · rw [if_pos h, if_pos]
    rw [Int32.lt_iff_toInt_lt] at h
    rw [Int32.le_iff_toInt_le]
    omega
  · rw [if_neg h]
    by_cases h2 : y ≤ 30
    · rw [if_pos h2]
      rw [Int32.lt_iff_toInt_lt] at h
      rw [Int32.le_iff_toInt_le] at h2
      apply Int32.toInt_inj.1
      omega
    · rw [if_neg h2]
theorem mv_all : ∀ k, k < 11 → ((if (0 : Int32) ≤ nI k - 0 then (if nI k - 0 ≤ 10 then nI k - 0 else 10) else 0) = nI k) ∧ ((if (0 : Int32) ≤ nI k - (-1) then (if nI k - (-1) ≤ 10 then nI k - (-1) else 10) else 0) = imin 10 (nI k + 1)) ∧ ((if (0 : Int32) ≤ nI k - 1 then (if nI k - 1 ≤ 10 then nI k - 1 else 10) else 0) = imax 0 (nI k - 1)) ∧ imin 10 (nI k + 1) = nI (min 10 (k + 1)) ∧ imax 0 (nI k - 1) = nI (k - 1) := by decide +kernel
theorem mv_same {k : Nat} (hk : k ≤ 10) (y : Int32) : mvI (nI k) y = mvM (nI k) y := by
  obtain ⟨h1, h2, h3, -⟩ := mv_all k (by omega)
  unfold mvI mvM
  by_cases a : y ≤ 0
  · by_cases b : 0 ≤ y
    · simp only [a, b, if_true]
      exact h1.symm
    · simp only [a, b, if_true, if_false]
      exact h2.symm
  · simp only [a, if_false]
    exact h3.symm
theorem mv_ok {k : Nat} (hk : k ≤ 10) (y : Int32) : ∃ j, j ≤ 10 ∧ mvI (nI k) y = nI j := by
  obtain ⟨-, -, -, h4, h5⟩ := mv_all k (by omega)
  unfold mvI
  by_cases a : y ≤ 0
  · by_cases b : 0 ≤ y
    · simp only [a, b, if_true]
      exact ⟨k, hk, rfl⟩
    · simp only [a, b, if_true, if_false]
      exact ⟨min 10 (k + 1), by omega, h4⟩
  · simp only [a, if_false]
    exact ⟨k - 1, by omega, h5⟩
theorem jj_high {n s i : Nat} (hn : n ≤ 6) (hs : s < 2 ^ n) (h1 : n ≤ i) (h2 : i < 6) : (nI s >>> (nI i &&& 31)) &&& 1 = 0 := by
  have h64 : s < 64 := Nat.lt_of_lt_of_le hs (Nat.pow_le_pow_right (by decide) hn : 2 ^ n ≤ 2 ^ 6)
  rw [jj_bit0 h64 h2]
  exact Nat.testBit_lt_two_pow (Nat.lt_of_lt_of_le hs (Nat.pow_le_pow_right (by decide) h1))
theorem lift_same {n : Nat} (hn : n ≤ 6) {sz sz2 wt wt2 : Nat → Int32} {ht : Int32} {s : Nat} (hs : s < 2 ^ n) (h1 : ∀ d, d < n → sz d = sz2 d) (h2 : ∀ d, d < n → wt d = wt2 d) : liftI sz ht wt (nI s) 6 = liftI sz2 ht wt2 (nI s) n := by
  unfold liftI
  obtain ⟨k, hk⟩ : ∃ k, 6 = n + k := ⟨6 - n, by omega⟩
  rw [hk, itr_add, itr_id k (0 + n) _ (fun j h3 h4 => by rw [if_pos (jj_high hn hs (by omega) (by omega))])]
  exact itr_cong n 0 0 (fun j b _ h4 => by rw [h1 j (by omega), h2 j (by omega)])
theorem abs_all : ∀ a, a < 31 → ∀ b, b < 31 → ∀ g, g < 10 → ((¬ nI g < iabs (nI a - nI b)) ↔ (¬ nI a - nI b < -nI g ∧ ¬ nI g < nI a - nI b)) := by decide +kernel
theorem stick_same {n : Nat} {dp sz L r : Nat → Int32} {g d e a b : Nat} (hg : g ≤ 9) (hd : dp d = r (2 + d)) (he : dp e = r (2 + e)) (hsd : sz d = r (8 + d)) (hse : sz e = r (8 + e)) (hL : L d = r (14 + d)) (ha : a ≤ 30) (hb : b ≤ 30) (h1 : r (8 + d) = nI a) (h2 : r (8 + e) = nI b) : stickP dp sz L (nI g) d e ↔ stickM r (nI g) d e := by
  unfold stickP stickM
  rw [hd, he, hsd, hse, hL, h1, h2]
  have hab := abs_all a (by omega) b (by omega) g (by omega)
  have h9 : ¬ (10 : Int32) ≤ r (2 + d) ↔ ¬ (9 : Int32) < r (2 + d) := by
    rw [Int32.le_iff_toInt_le, Int32.lt_iff_toInt_lt]
    show ¬ (10 : Int) ≤ _ ↔ ¬ (9 : Int) < _
    omega
  constructor
  · rintro ⟨p1, p2, p3, p4, p5⟩
    exact ⟨p3.symm, ⟨p1, h9.mp p2⟩, hab.mp p5, p4⟩
  · rintro ⟨p1, ⟨p2, p3⟩, p4, p5⟩
    exact ⟨p2, h9.mpr p3, p1.symm, p5, hab.mpr p4⟩
def LRel (n : Nat) (r0 : Nat → Int32) (L r : Nat → Int32) : Prop := (∀ d, d < n → L d = r (14 + d)) ∧ (∀ d, d < n → ∃ s, s < 2 ^ n ∧ r (14 + d) = nI s) ∧ ∀ j, j < 14 ∨ 20 ≤ j → r j = r0 j
theorem stk_sim {n : Nat} (hn : n ≤ 6) {dp sz L r : Nat → Int32} {g : Nat} (hg : g ≤ 9) (hdp : ∀ d, d < n → dp d = r (2 + d)) (hdry : ∀ d, n ≤ d → d < 6 → dp d = -9) (hsz : ∀ d, d < n → sz d = r (8 + d)) (hsk : ∀ d, d < n → ∃ k, k ≤ 30 ∧ r (8 + d) = nI k) (h0 : LRel n r L r) : LRel n r (stkC dp sz (nI g) L) (mSt n (nI g) r) := by
  have step : ∀ d e L2 r2, d < n → e < n → LRel n r L2 r2 → LRel n r (stk1 dp sz (nI g) d e L2) (mSt1 n (nI g) d e r2) := by
    intro d e L2 r2 hd he hR
    obtain ⟨q1, q2, q3⟩ := hR
    obtain ⟨a, ha, ha2⟩ := hsk d hd
    obtain ⟨b, hb, hb2⟩ := hsk e he
    have e1 : r2 (2 + d) = r (2 + d) := q3 _ (by omega)
    have e2 : r2 (2 + e) = r (2 + e) := q3 _ (by omega)
    have e3 : r2 (8 + d) = r (8 + d) := q3 _ (by omega)
    have e4 : r2 (8 + e) = r (8 + e) := q3 _ (by omega)
    have hiff := stick_same (n := n) (dp := dp) (sz := sz) (L := L2) (r := r2) (d := d) (e := e) hg (by rw [e1]; exact hdp d hd) (by rw [e2]; exact hdp e he) (by rw [e3]; exact hsz d hd) (by rw [e4]; exact hsz e he) (q1 d hd) ha hb (by rw [e3]; exact ha2) (by rw [e4]; exact hb2)
    by_cases hp : stickM r2 (nI g) d e
    · have hp2 := hiff.mpr hp
      obtain ⟨s, hs, hs2⟩ := q2 d hd
      obtain ⟨t, ht, ht2⟩ := q2 e he
      unfold stk1 mSt1
      rw [if_pos hp, if_pos hp2, q1 d hd, q1 e he, hs2, ht2, jj_or]
      refine ⟨fun j hj => ?_, fun j hj => ?_, fun j hj => ?_⟩
      · rw [mLay_14 hj]
        unfold joinI
        rw [if_pos (by omega), q1 j hj]
      · rw [mLay_14 hj]
        by_cases hbit : (nI (s ||| t) >>> (nI j &&& 31)) &&& 1 = 0
        · rw [if_pos hbit]
          exact q2 j hj
        · rw [if_neg hbit]
          exact ⟨s ||| t, Nat.or_lt_two_pow hs ht, rfl⟩
      · rw [mLay_o hn hj]
        exact q3 j hj
    · have hp2 : ¬ stickP dp sz L2 (nI g) d e := fun q => hp (hiff.mp q)
      unfold stk1 mSt1
      rw [if_neg hp, if_neg hp2]
      exact ⟨q1, q2, q3⟩
  have noE : ∀ d e L2, d < n → n ≤ e → e < 6 → stk1 dp sz (nI g) d e L2 = L2 := by
    intro d e L2 hd h1 h2
    unfold stk1
    rw [if_neg]
    rintro ⟨p1, p2, p3, -⟩
    rw [← p3, hdry e h1 h2] at p1
    exact p1 (by decide)
  have noD : ∀ d e L2, n ≤ d → d < 6 → stk1 dp sz (nI g) d e L2 = L2 := by
    intro d e L2 h1 h2
    unfold stk1
    rw [if_neg]
    rintro ⟨p1, -⟩
    rw [hdry d h1 h2] at p1
    exact p1 (by decide)
  refine itr_sim (R := LRel n r) hn 0 (Nat.zero_le n) L r h0 (fun d L2 r2 _ hd hR => ?_) (fun d L2 r2 h1 h2 hR => ?_)
  · exact itr_sim (R := LRel n r) hn (d + 1) hd L2 r2 hR (fun e L3 r3 h3 h4 hR3 => step d e L3 r3 hd h4 hR3) (fun e L3 r3 h3 h4 hR3 => by rw [noE d e L3 hd h3 h4]; exact hR3)
  · rw [itr_id _ _ _ (fun e _ _ => noD d e L2 h1 h2)]
    exact hR
theorem pass_sim {n k r M : Nat} (hn : n ≤ 6) (hkr : r + 3 < k ∨ k + 4 < r) {w : Wd} {row wt sw : Nat → Int32} {gl : Int32} (hS : SRel n w k row) (hI : RInv n M row) (hD : DInv n gl wt sw) (hg : w.1 r 2 = gl) (hc : ∀ d, d < n → w.1 (r + 1) d = wt d ∧ w.1 (r + 3) d = sw d) :
    ∃ w', f_X4_passMinute k r w = some ((), w') ∧ w'.2 = w.2 ∧ (∀ a, a < k ∨ k + 4 < a → w'.1 a = w.1 a) ∧ SRel n w' k (minM n gl wt sw row) ∧ RInv n (M + 1) (minM n gl wt sw row) := by
  obtain ⟨w', e0, e1, e2, p0, p1, pS, pD, pL, pR⟩ := pass_eq k r hkr w
  obtain ⟨s0, s1, sA, sB⟩ := hS
  obtain ⟨m, h, i0, im, i1, ih, iA⟩ := hI
  obtain ⟨⟨g, hg9, rfl⟩, dA⟩ := hD
  obtain ⟨r1, hr1⟩ : ∃ x, x = upd row 0 (row 0 + 1) := ⟨_, rfl⟩
  have a1 : ∀ j, j ≠ 0 → r1 j = row j := fun j hj => by rw [hr1]; exact if_neg hj
  have a0 : r1 0 = row 0 + 1 := by rw [hr1]; rfl
  obtain ⟨r2, hr2⟩ : ∃ x, x = mSw n sw r1 := ⟨_, rfl⟩
  have b8 : ∀ d, d < n → r2 (8 + d) = w'.1 (k + 2) d := by
    intro d hd
    rw [hr2, mSw_8 hd, pS]
    unfold nSz
    rw [a1 (2 + d) (by omega), a1 (8 + d) (by omega), if_pos (show d < 6 by omega), (sA d hd).1, (sA d hd).2.1, (hc d hd).2, imin30]
  have bo : ∀ j, j < 8 ∨ 14 ≤ j → r2 j = r1 j := fun j hj => by rw [hr2]; exact mSw_o hn hj sw r1
  have bk : ∀ d, d < n → ∃ q, 1 ≤ q ∧ q ≤ 30 ∧ r2 (8 + d) = nI q := by
    intro d hd
    obtain ⟨-, ⟨q, q1, q2, q3⟩, -, -⟩ := iA d hd
    obtain ⟨-, z, z1, z2⟩ := dA d hd
    rw [hr2, mSw_8 hd, a1 _ (by omega), a1 _ (by omega), q3, z2]
    by_cases c1 : row (2 + d) = -9
    · rw [if_pos c1]; exact ⟨q, q1, q2, rfl⟩
    · rw [if_neg c1, nI_add]
      by_cases c2 : nI (q + z) ≤ 30
      · rw [if_pos c2]
        have c3 : q + z ≤ 30 := (nI_leI (a := q + z) (b := 30) (by omega) (by decide)).mp c2
        exact ⟨q + z, by omega, c3, rfl⟩
      · rw [if_neg c2]; exact ⟨30, by decide, by decide, rfl⟩
  obtain ⟨r3, hr3⟩ : ∃ x, x = mFl n wt r2 := ⟨_, rfl⟩
  have co : ∀ j, j < 2 ∨ 8 ≤ j → r3 j = r2 j := fun j hj => by rw [hr3]; exact mFl_o hn hj wt r2
  have c2 : ∀ d, d < n → r3 (2 + d) = w'.1 (k + 1) d ∧ dOK (r3 (2 + d)) := by
    intro d hd
    obtain ⟨x1, -, ⟨s, x3, x4⟩, -⟩ := iA d hd
    have y1 : r2 (2 + d) = row (2 + d) := by rw [bo _ (by omega), a1 _ (by omega)]
    have y2 : r2 (14 + d) = nI s := by rw [bo _ (by omega), a1 _ (by omega), x4]
    have y3 : r2 1 = w.1 k 1 := by rw [bo _ (by omega), a1 _ (by omega), s1]
    have key : r3 (2 + d) = if row (2 + d) = -9 then row (2 + d) else mvM (row (2 + d)) (liftI (w'.1 (k + 2)) (w.1 k 1) (w.1 (r + 1)) (nI s) 6) := by
      rw [hr3, mFl_2 hd, y1, y2, y3, lift_same hn x3 (fun e he => (b8 e he).symm) (fun e he => (hc e he).1)]
    have key2 : w'.1 (k + 1) d = if row (2 + d) = -9 then row (2 + d) else mvI (row (2 + d)) (liftI (w'.1 (k + 2)) (w.1 k 1) (w.1 (r + 1)) (nI s) 6) := by
      rw [pD]
      unfold nDp
      rw [if_pos (by omega), (sA d hd).1, (sA d hd).2.2.1, x4]
    rw [key, key2]
    by_cases c1 : row (2 + d) = -9
    · rw [if_pos c1, if_pos c1]
      exact ⟨rfl, x1⟩
    · rw [if_neg c1, if_neg c1]
      rcases x1 with x1 | ⟨q, q1, q2⟩
      · exact absurd x1 c1
      · rw [q2]
        refine ⟨(mv_same q1 _).symm, ?_⟩
        rw [← mv_same q1]
        exact Or.inr (mv_ok q1 _)
  have cdry : ∀ d, n ≤ d → d < 6 → w'.1 (k + 1) d = -9 := by
    intro d h1 h2
    rw [pD]
    unfold nDp
    rw [if_pos h2, (sB d h1 h2).1]
    rfl
  obtain ⟨r4, hr4⟩ : ∃ x, x = mSt n (nI g) r3 := ⟨_, rfl⟩
  have hL : LRel n r3 (w'.1 (k + 3)) r4 := by
    rw [hr4, pL, hg]
    refine stk_sim hn hg9 (fun d hd => (c2 d hd).1.symm) cdry (fun d hd => ?_) (fun d hd => ?_) ⟨fun d hd => ?_, fun d hd => ?_, fun j _ => rfl⟩
    · rw [co _ (by omega)]; exact (b8 d hd).symm
    · rw [co _ (by omega)]
      obtain ⟨q, -, q2, q3⟩ := bk d hd
      exact ⟨q, q2, q3⟩
    · rw [co _ (by omega), bo _ (by omega), a1 _ (by omega)]; exact (sA d hd).2.2.1
    · rw [co _ (by omega), bo _ (by omega), a1 _ (by omega)]; exact (iA d hd).2.2.1
  obtain ⟨l1, l2, l3⟩ := hL
  have hfin : minM n (nI g) wt sw row = mRs n r4 := by rw [hr4, hr3, hr2, hr1]; rfl
  have t0 : r4 0 = row 0 + 1 := by rw [l3 _ (by omega), co _ (by omega), bo _ (by omega), a0]
  have t1 : r4 1 = row 1 := by rw [l3 _ (by omega), co _ (by omega), bo _ (by omega), a1 _ (by omega)]
  have t2 : ∀ d, d < n → r4 (2 + d) = r3 (2 + d) := fun d hd => l3 _ (by omega)
  have t8 : ∀ d, d < n → r4 (8 + d) = r2 (8 + d) := fun d hd => by rw [l3 _ (by omega), co _ (by omega)]
  have t20 : ∀ d, d < n → r4 (20 + d) = row (20 + d) := fun d hd => by rw [l3 _ (by omega), co _ (by omega), bo _ (by omega), a1 _ (by omega)]
  refine ⟨w', e0, e1, e2, ?_, ?_⟩
  · rw [hfin]
    refine ⟨?_, ?_, fun d hd => ⟨?_, ?_, ?_, ?_⟩, fun d h1 h2 => ⟨cdry d h1 h2, ?_⟩⟩
    · rw [mRs_o (by omega), t0, p0, s0]
    · rw [mRs_o (by omega), t1, p1, s1]
    · rw [mRs_o (by omega), t2 d hd]; exact (c2 d hd).1.symm
    · rw [mRs_o (by omega), t8 d hd]; exact (b8 d hd).symm
    · rw [mRs_o (by omega)]; exact l1 d hd
    · rw [mRs_20 hd, t2 d hd, t20 d hd, t0, pR]
      unfold nRs
      rw [if_pos (by omega), (c2 d hd).1, (sA d hd).2.2.2, s0]
    · rw [pR]
      unfold nRs
      rw [if_pos h2, cdry d h1 h2, (sB d h1 h2).2]
      rfl
  · rw [hfin]
    refine ⟨m + 1, h, ?_, by omega, ?_, ih, fun d hd => ⟨?_, ?_, ?_, ?_⟩⟩
    · rw [mRs_o (by omega), t0, i0, nI_1]
    · rw [mRs_o (by omega), t1, i1]
    · rw [mRs_o (by omega), t2 d hd]; exact (c2 d hd).2
    · rw [mRs_o (by omega), t8 d hd]; exact bk d hd
    · rw [mRs_o (by omega)]; exact l2 d hd
    · rw [mRs_20 hd, t2 d hd, t20 d hd, t0]
      split
      · exact Or.inr ⟨m + 1, by omega, Nat.le_refl _, by rw [i0, nI_1]⟩
      · rcases (iA d hd).2.2.2 with q | ⟨q, q1, q2, q3⟩
        · exact Or.inl q
        · exact Or.inr ⟨q, q1, by omega, q3⟩
