/-! PURE: kept, the sets -/
def drR (n s : Nat) (r : Nat → Int32) : Nat → Int32 := fun j => if 2 ≤ j ∧ j < 2 + n then (if r (2 + (j - 2)) = -9 ∧ s.testBit (j - 2) = false then 10 else r (2 + (j - 2))) else r j
theorem drR_2 {n s e : Nat} (he : e < n) (r : Nat → Int32) : drR n s r (2 + e) = if r (2 + e) = -9 ∧ s.testBit e = false then 10 else r (2 + e) := by
  unfold drR
  rw [if_pos (show 2 ≤ 2 + e ∧ 2 + e < 2 + n by omega), Nat.add_sub_cancel_left]
theorem drR_o {n s j : Nat} (hn : n ≤ 6) (hj : j < 2 ∨ 8 ≤ j) (r : Nat → Int32) : drR n s r j = r j := if_neg (by omega)
theorem drR_inv {n s : Nat} {r : Nat → Int32} (hn : n ≤ 6) (hI : RInv n 99 r) : RInv n 99 (drR n s r) := by
  obtain ⟨m, h, i0, im, i1, ih, iA⟩ := hI
  refine ⟨m, h, ?_, im, ?_, ih, fun e he => ⟨?_, ?_, ?_, ?_⟩⟩
  · rw [drR_o hn (by omega)]; exact i0
  · rw [drR_o hn (by omega)]; exact i1
  · rw [drR_2 he]
    split
    · exact Or.inr ⟨10, by decide, rfl⟩
    · exact (iA e he).1
  · rw [drR_o hn (by omega)]; exact (iA e he).2.1
  · rw [drR_o hn (by omega)]; exact (iA e he).2.2.1
  · rw [drR_o hn (by omega)]; exact (iA e he).2.2.2
theorem T26_dr {n s : Nat} {u : Wd} {r : Nat → Int32} (hn : n ≤ 6) (h : T26 u r) : T26 u (drR n s r) := fun j hj => by rw [drR_o hn (by omega)]; exact h j hj
def Dr (n : Nat) (r : Nat → Int32) : Nat := bset (fun e => decide (r (2 + e) = -9)) n
/-- the class: the stew with a set of dry ones dropped -/
theorem risesFirst_c {n d T s : Nat} {w v : Wd} (hn : n ≤ 6) (hd : d < n) (hT : IvT n w) (hS : IvS n w) (hT2 : T ≤ 40) (hs : s < 64) (hc : CF w v) : ∃ v', f_X5_risesFirst (nI d) (nI T) (nI (Dr n (r0 w) &&& (63 ^^^ s))) v = some (if rf n w d T (drR n s (r0 w)) then 1 else 0, v') ∧ CF w v' := by
  obtain ⟨v1, c0, c1, c2⟩ := later_c hn hS hc
  obtain ⟨S, hSS⟩ : ∃ x, x = Dr n (r0 w) &&& (63 ^^^ s) := ⟨_, rfl⟩
  have hS64 : S < 64 := by rw [hSS]; exact Nat.lt_of_le_of_lt Nat.and_le_left (lt64 hn (bset_lt _ n))
  have hSb : ∀ e, e < 6 → S.testBit e = ((decide (e < n) && decide (r0 w (2 + e) = -9)) && !s.testBit e) := fun e he => by
    rw [hSS, Nat.testBit_and, Nat.testBit_xor, show (63 : Nat) = 2 ^ 6 - 1 from rfl, Nat.testBit_two_pow_sub_one]
    unfold Dr
    rw [bset_bit]
    simp [he]
  rw [← hSS]
  obtain ⟨v2, hv2⟩ : ∃ x, x = wrow v1 20 (fun j => if 0 ≤ j ∧ j < 0 + 6 then (if S.testBit (j - 0) = true then 10 else v1.1 20 (j - 0)) else v1.1 20 j) := ⟨_, rfl⟩
  have e20 : ∀ j, j < 6 → v2.1 20 j = if S.testBit j = true then 10 else v1.1 20 j := fun j hj => by rw [hv2, wrow_row, if_pos (by omega), Nat.sub_zero]
  have eo : ∀ a, a ≠ 20 → v2.1 a = v1.1 a := fun a ha => by rw [hv2]; exact wrow_off ha
  have hc2 : CF w v2 := ⟨by rw [hv2, wrow_2]; exact c1.1, fun a ha => by rw [eo a (by omega)]; exact c1.2 a ha⟩
  obtain ⟨s0, s1, sA, sB⟩ := c2
  have hS2 : SRel n v2 19 (drR n s (r0 w)) := by
    refine ⟨?_, ?_, fun e he => ⟨?_, ?_, ?_, ?_⟩, fun e h1 h2 => ⟨?_, ?_⟩⟩
    · rw [eo _ (by omega), drR_o hn (by omega)]; exact s0
    · rw [eo _ (by omega), drR_o hn (by omega)]; exact s1
    · rw [e20 e (by omega), drR_2 he, hSb e (by omega), show v1.1 20 e = r0 w (2 + e) from (sA e he).1]
      by_cases q : r0 w (2 + e) = -9
      · cases hb : s.testBit e <;> simp [he, q]
      · simp [q]
    · rw [eo _ (by omega), drR_o hn (by omega)]; exact (sA e he).2.1
    · rw [eo _ (by omega), drR_o hn (by omega)]; exact (sA e he).2.2.1
    · rw [eo _ (by omega), drR_o hn (by omega)]; exact (sA e he).2.2.2
    · rw [e20 e h2, hSb e h2, if_neg (by simp [show ¬ e < n by omega])]; exact (sB e h1 h2).1
    · rw [eo _ (by omega)]; exact (sB e h1 h2).2
  obtain ⟨v3, h1, h2⟩ := rises_c (d := d) (T := T) hn hd hT (by omega) T 0 300 99 v2 _ (by omega) (by omega) hc2 hS2 (drR_inv hn (RInv_r0 hn hS)) (by omega)
  refine ⟨v3, ?_, h2⟩
  rw [f_X5_risesFirst, f_X5_risesFirst_b0, c0, jj_cal, jj_bnd]
  have h := jj_loop0 (F := fun f x a => f_X5_risesFirst_l14 f (nI d) (nI T) (nI S) x (wrow v1 20 a)) (s := fun j a => upd a (0 + j) (if S.testBit j = true then 10 else a j)) (ex := fun a => f_X5_risesFirst_l48 300 (nI d) (nI T) (nI 0) (wrow v1 20 a)) (N := 6) (by
    intro f i a hi
    have h6 : ¬ (6 : Int32) ≤ nI i := nI_ge hi (by decide)
    show f_X5_risesFirst_l14 (f + 1) (nI d) (nI T) (nI S) (nI i) _ = f_X5_risesFirst_l14 f (nI d) (nI T) (nI S) (nI (i + 1)) _
    have hb := jj_bit0 (s := S) (i := i) hS64 hi
    rw [f_X5_risesFirst_l14, f_X5_risesFirst_h14, if_neg h6]
    rcases Bool.eq_false_or_eq_true (S.testBit i) with hx | hx
    · rw [if_neg (show ¬ (nI S >>> (nI i &&& 31)) &&& 1 = 0 from fun q => by rw [hb.mp q] at hx; cases hx), f_X4_drop, f_X4_drop_b0, jj_grd (jj_i6 hi), jj_bnd, jj_cal, f_X5_risesFirst_b39, jj_bnd, nI_1, jj_tn (show i < 2 ^ 31 by omega), wset_wrow, if_pos hx, Nat.zero_add]
    · rw [if_pos (hb.mpr hx), f_X5_risesFirst_b39, jj_bnd, nI_1, if_neg (show ¬ S.testBit i = true by rw [hx]; decide), Nat.zero_add, jj_upd_self]) (by
    intro f a
    show f_X5_risesFirst_l14 (f + 1) (nI d) (nI T) (nI S) (nI 6) _ = _
    rw [f_X5_risesFirst_l14, f_X5_risesFirst_h14, if_pos (by decide), jj_bnd]
    rfl) 6 0 (v1.1 20) 300 rfl (by decide)
  rw [itr_pw (o := 0) (F := fun j a => if S.testBit j = true then 10 else a j) (fun j a ha => by rw [ha j (by omega)])] at h
  simp only [wrow_self] at h
  refine Eq.trans h ?_
  rw [← hv2]
  exact h1
theorem pre_m {n d T s : Nat} {u : Wd} {O x4 : Int32} (K : Int32 → Int32 → Int32 → Int32 → Int32 → Wd → Option (Int32 × Wd)) (hn : n ≤ 6) (h0 : u.1 92 0 = nI n) (hs : s < 64) : f_X6_kept_l113 K 300 (nI d) (nI T) O x4 (nI s) 0 (wrow u 103 (r0 u)) = f_X6_kept_l113 K 1 (nI d) (nI T) O x4 (nI s) (nI n) (wrow u 103 (drR n s (r0 u))) := by
  have h := jj_loop0 (F := fun f x a => f_X6_kept_l113 K f (nI d) (nI T) O x4 (nI s) x (wrow u 103 a)) (s := fun j a => upd a (2 + j) (if a (2 + j) = -9 ∧ s.testBit j = false then 10 else a (2 + j))) (ex := fun a => f_X6_kept_l113 K 1 (nI d) (nI T) O x4 (nI s) (nI n) (wrow u 103 a)) (N := n) (by
    intro f i a hi
    show f_X6_kept_l113 K (f + 1) (nI d) (nI T) O x4 (nI s) (nI i) _ = f_X6_kept_l113 K f (nI d) (nI T) O x4 (nI s) (nI (i + 1)) _
    have hb := jj_bit0 (s := s) (i := i) hs (by omega)
    rw [f_X6_kept_l113, f_X6_kept_h113, wget_def, wrow_off (by decide), h0, if_neg (nI_ge hi (by omega)), jj_2, jj_grd (jj_i26 (show 2 + i < 26 by omega)), jj_tn (show 2 + i < 2 ^ 31 by omega), wget_def, wrow_row]
    by_cases h9 : a (2 + i) = -9
    · rw [if_pos h9, has_eq, jj_cal]
      rcases Bool.eq_false_or_eq_true (s.testBit i) with hx | hx
      · rw [if_neg (show ¬ (nI s >>> (nI i &&& 31)) &&& 1 = 0 from fun q => by rw [hb.mp q] at hx; cases hx), if_neg jj_ne10, jj_grd (jj_i26 (show 2 + i < 26 by omega)), jj_grd (jj_i26 (show 2 + i < 26 by omega)), jj_bnd, jj_bnd, nI_1, wset_wrow, wget_def, wrow_row, if_neg (show ¬ (a (2 + i) = -9 ∧ s.testBit i = false) from fun q => by rw [q.2] at hx; cases hx)]
      · rw [if_pos (hb.mpr hx), if_pos (show (0 : Int32) = 0 from rfl), jj_grd (jj_i26 (show 2 + i < 26 by omega)), jj_bnd, jj_bnd, nI_1, wset_wrow, if_pos (show a (2 + i) = -9 ∧ s.testBit i = false from ⟨h9, hx⟩)]
    · rw [if_neg h9, jj_grd (jj_i26 (show 2 + i < 26 by omega)), jj_grd (jj_i26 (show 2 + i < 26 by omega)), jj_bnd, jj_bnd, nI_1, wset_wrow, wget_def, wrow_row, if_neg (show ¬ (a (2 + i) = -9 ∧ s.testBit i = false) from fun q => h9 q.1)]) (by
    intro f a
    show f_X6_kept_l113 K (f + 1) (nI d) (nI T) O x4 (nI s) (nI n) _ = f_X6_kept_l113 K 1 (nI d) (nI T) O x4 (nI s) (nI n) (wrow u 103 a)
    rw [f_X6_kept_l113, f_X6_kept_l113, f_X6_kept_h113, f_X6_kept_h113, wget_def, wrow_off (by decide), h0, if_pos (nI_le (Nat.le_refl n) (by omega)), if_pos (nI_le (Nat.le_refl n) (by omega))]) n 0 (r0 u) 300 (by omega) (by omega)
  rw [itr_pwb (o := 2) (N := 6) (F := fun j a => if a (2 + j) = -9 ∧ s.testBit j = false then 10 else a (2 + j)) (fun j a hj ha => by rw [ha (2 + j) (by omega)]) n hn] at h
  exact h
noncomputable def kStep (O : Nat) (g : Nat → Bool) (s : Nat) (b : Option Nat) : Option Nat := if s &&& (63 ^^^ O) = 0 ∧ (match b with | none => True | some q => popc s < popc q) ∧ g s = true then some s else b
