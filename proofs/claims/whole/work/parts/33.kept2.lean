/-! PURE: kept, the sets -/
def drR (n s : Nat) (r : Nat → Int32) : Nat → Int32 := fun j => if 2 ≤ j ∧ j < 2 + n then (if r (2 + (j - 2)) = -9 ∧ s.testBit (j - 2) = false then 10 else r (2 + (j - 2))) else r j
theorem drR_2 {n s e : Nat} (he : e < n) (r : Nat → Int32) : drR n s r (2 + e) = if r (2 + e) = -9 ∧ s.testBit e = false then 10 else r (2 + e) := by
  unfold drR
  rw [if_pos (show 2 ≤ 2 + e ∧ 2 + e < 2 + n by omega), Nat.add_sub_cancel_left]
theorem drR_o {n s j : Nat} (hn : n ≤ 6) (hj : j < 2 ∨ 8 ≤ j) (r : Nat → Int32) : drR n s r j = r j := if_neg (by omega)
theorem drR_inv {n s : Nat} {r : Nat → Int32} (hn : n ≤ 6) (hI : RInv n 99 r) : RInv n 99 (drR n s r) := by
  obtain ⟨m, h, i0, im, i1, ih, iA⟩ := hI
  refine ⟨m, h, ?_, im, ?_, ih, fun e he => ⟨?_, ?_, ?_, ?_⟩⟩
  · rw [drR_o hn (by omega)]; exact i0
  · rw [drR_o hn (by omega)]; exact i1
  · rw [drR_2 he]
    split
    · exact Or.inr ⟨10, by decide, rfl⟩
    · exact (iA e he).1
  · rw [drR_o hn (by omega)]; exact (iA e he).2.1
  · rw [drR_o hn (by omega)]; exact (iA e he).2.2.1
  · rw [drR_o hn (by omega)]; exact (iA e he).2.2.2
theorem T26_dr {n s : Nat} {u : Wd} {r : Nat → Int32} (hn : n ≤ 6) (h : T26 u r) : T26 u (drR n s r) := fun j hj => by rw [drR_o hn (by omega)]; exact h j hj
def Dr (n : Nat) (r : Nat → Int32) : Nat := bset (fun e => decide (r (2 + e) = -9)) n
/-- the class: the stew with a set of dry ones dropped -/
theorem risesFirst_c {n d T s : Nat} {w v : Wd} (hn : n ≤ 6) (hd : d < n) (hT : IvT n w) (hS : IvS n w) (hT2 : T ≤ 40) (hs : s < 64) (hc : CF w v) : ∃ v', f_X5_risesFirst (nI d) (nI T) (nI (Dr n (r0 w) &&& (63 ^^^ s))) v = some (if rf n w d T (drR n s (r0 w)) then 1 else 0, v') ∧ CF w v' ∧ ∃ v2, CF w v2 ∧ SRel n v2 19 (drR n s (r0 w)) := by
  obtain ⟨v1, c0, c1, c2⟩ := later_c hn hS hc
  obtain ⟨S, hSS⟩ : ∃ x, x = Dr n (r0 w) &&& (63 ^^^ s) := ⟨_, rfl⟩
  have hS64 : S < 64 := by rw [hSS]; exact Nat.lt_of_le_of_lt Nat.and_le_left (lt64 hn (bset_lt _ n))
  have hSb : ∀ e, e < 6 → S.testBit e = ((decide (e < n) && decide (r0 w (2 + e) = -9)) && !s.testBit e) := fun e he => by
    rw [hSS, Nat.testBit_and, Nat.testBit_xor, show (63 : Nat) = 2 ^ 6 - 1 from rfl, Nat.testBit_two_pow_sub_one]
    unfold Dr
    rw [bset_bit]
    simp [he]
  rw [← hSS]
  obtain ⟨v2, hv2⟩ : ∃ x, x = wrow v1 20 (fun j => if 0 ≤ j ∧ j < 0 + 6 then (if S.testBit (j - 0) = true then 10 else v1.1 20 (j - 0)) else v1.1 20 j) := ⟨_, rfl⟩
  have e20 : ∀ j, j < 6 → v2.1 20 j = if S.testBit j = true then 10 else v1.1 20 j := fun j hj => by rw [hv2, wrow_row, if_pos (by omega), Nat.sub_zero]
  have eo : ∀ a, a ≠ 20 → v2.1 a = v1.1 a := fun a ha => by rw [hv2]; exact wrow_off ha
  have hc2 : CF w v2 := ⟨by rw [hv2, wrow_2]; exact c1.1, fun a ha => by rw [eo a (by omega)]; exact c1.2 a ha⟩
  obtain ⟨s0, s1, sA, sB⟩ := c2
  have hS2 : SRel n v2 19 (drR n s (r0 w)) := by
    refine ⟨?_, ?_, fun e he => ⟨?_, ?_, ?_, ?_⟩, fun e h1 h2 => ⟨?_, ?_⟩⟩
    · rw [eo _ (by omega), drR_o hn (by omega)]; exact s0
    · rw [eo _ (by omega), drR_o hn (by omega)]; exact s1
    · rw [e20 e (by omega), drR_2 he, hSb e (by omega), show v1.1 20 e = r0 w (2 + e) from (sA e he).1]
      by_cases q : r0 w (2 + e) = -9
      · cases hb : s.testBit e <;> simp [he, q]
      · simp [q]
    · rw [eo _ (by omega), drR_o hn (by omega)]; exact (sA e he).2.1
    · rw [eo _ (by omega), drR_o hn (by omega)]; exact (sA e he).2.2.1
    · rw [eo _ (by omega), drR_o hn (by omega)]; exact (sA e he).2.2.2
    · rw [e20 e h2, hSb e h2, if_neg (by simp [show ¬ e < n by omega])]; exact (sB e h1 h2).1
    · rw [eo _ (by omega)]; exact (sB e h1 h2).2
  obtain ⟨v3, h1, h2⟩ := rises_c (d := d) (T := T) hn hd hT (by omega) T 0 300 99 v2 _ (by omega) (by omega) hc2 hS2 (drR_inv hn (RInv_r0 hn hS)) (by omega)
  refine ⟨v3, ?_, h2, v2, hc2, hS2⟩
  rw [f_X5_risesFirst, f_X5_risesFirst_b0, c0, jj_cal, jj_bnd]
  have h := jj_loop0 (F := fun f x a => f_X5_risesFirst_l14 f (nI d) (nI T) (nI S) x (wrow v1 20 a)) (s := fun j a => upd a (0 + j) (if S.testBit j = true then 10 else a j)) (ex := fun a => f_X5_risesFirst_l48 300 (nI d) (nI T) (nI 0) (wrow v1 20 a)) (N := 6) (by
    intro f i a hi
    have h6 : ¬ (6 : Int32) ≤ nI i := nI_ge hi (by decide)
    show f_X5_risesFirst_l14 (f + 1) (nI d) (nI T) (nI S) (nI i) _ = f_X5_risesFirst_l14 f (nI d) (nI T) (nI S) (nI (i + 1)) _
    have hb := jj_bit0 (s := S) (i := i) hS64 hi
    rw [f_X5_risesFirst_l14, f_X5_risesFirst_h14, if_neg h6]
    rcases Bool.eq_false_or_eq_true (S.testBit i) with hx | hx
    · rw [if_neg (show ¬ (nI S >>> (nI i &&& 31)) &&& 1 = 0 from fun q => by rw [hb.mp q] at hx; cases hx), f_X4_drop, f_X4_drop_b0, jj_grd (jj_i6 hi), jj_bnd, jj_cal, f_X5_risesFirst_b39, jj_bnd, nI_1, jj_tn (show i < 2 ^ 31 by omega), wset_wrow, if_pos hx, Nat.zero_add]
    · rw [if_pos (hb.mpr hx), f_X5_risesFirst_b39, jj_bnd, nI_1, if_neg (show ¬ S.testBit i = true by rw [hx]; decide), Nat.zero_add, jj_upd_self]) (by
    intro f a
    show f_X5_risesFirst_l14 (f + 1) (nI d) (nI T) (nI S) (nI 6) _ = _
    rw [f_X5_risesFirst_l14, f_X5_risesFirst_h14, if_pos (by decide), jj_bnd]
    rfl) 6 0 (v1.1 20) 300 rfl (by decide)
  rw [itr_pw (o := 0) (F := fun j a => if S.testBit j = true then 10 else a j) (fun j a ha => by rw [ha j (by omega)])] at h
  simp only [wrow_self] at h
  refine Eq.trans h ?_
  rw [← hv2]
  exact h1
theorem pre_m {n d T s : Nat} {u : Wd} {O x4 : Int32} (K : Int32 → Int32 → Int32 → Int32 → Int32 → Wd → Option (Int32 × Wd)) (hn : n ≤ 6) (h0 : u.1 92 0 = nI n) (hs : s < 64) : f_X6_kept_l113 K 300 (nI d) (nI T) O x4 (nI s) 0 (wrow u 103 (r0 u)) = f_X6_kept_l113 K 1 (nI d) (nI T) O x4 (nI s) (nI n) (wrow u 103 (drR n s (r0 u))) := by
  have h := jj_loop0 (F := fun f x a => f_X6_kept_l113 K f (nI d) (nI T) O x4 (nI s) x (wrow u 103 a)) (s := fun j a => upd a (2 + j) (if a (2 + j) = -9 ∧ s.testBit j = false then 10 else a (2 + j))) (ex := fun a => f_X6_kept_l113 K 1 (nI d) (nI T) O x4 (nI s) (nI n) (wrow u 103 a)) (N := n) (by
    intro f i a hi
    show f_X6_kept_l113 K (f + 1) (nI d) (nI T) O x4 (nI s) (nI i) _ = f_X6_kept_l113 K f (nI d) (nI T) O x4 (nI s) (nI (i + 1)) _
    have hb := jj_bit0 (s := s) (i := i) hs (by omega)
    rw [f_X6_kept_l113, f_X6_kept_h113, wget_def, wrow_off (by decide), h0, if_neg (nI_ge hi (by omega)), jj_2, jj_grd (jj_i26 (show 2 + i < 26 by omega)), jj_tn (show 2 + i < 2 ^ 31 by omega), wget_def, wrow_row]
    by_cases h9 : a (2 + i) = -9
    · rw [if_pos h9, has_eq, jj_cal]
      rcases Bool.eq_false_or_eq_true (s.testBit i) with hx | hx
      · rw [if_neg (show ¬ (nI s >>> (nI i &&& 31)) &&& 1 = 0 from fun q => by rw [hb.mp q] at hx; cases hx), if_neg jj_ne10, jj_grd (jj_i26 (show 2 + i < 26 by omega)), jj_grd (jj_i26 (show 2 + i < 26 by omega)), jj_bnd, jj_bnd, nI_1, wset_wrow, wget_def, wrow_row, if_neg (show ¬ (a (2 + i) = -9 ∧ s.testBit i = false) from fun q => by rw [q.2] at hx; cases hx)]
      · rw [if_pos (hb.mpr hx), if_pos (show (0 : Int32) = 0 from rfl), jj_grd (jj_i26 (show 2 + i < 26 by omega)), jj_bnd, jj_bnd, nI_1, wset_wrow, if_pos (show a (2 + i) = -9 ∧ s.testBit i = false from ⟨h9, hx⟩)]
    · rw [if_neg h9, jj_grd (jj_i26 (show 2 + i < 26 by omega)), jj_grd (jj_i26 (show 2 + i < 26 by omega)), jj_bnd, jj_bnd, nI_1, wset_wrow, if_neg (show ¬ (a (2 + i) = -9 ∧ s.testBit i = false) from fun q => h9 q.1)]) (by
    intro f a
    show f_X6_kept_l113 K (f + 1) (nI d) (nI T) O x4 (nI s) (nI n) _ = f_X6_kept_l113 K 1 (nI d) (nI T) O x4 (nI s) (nI n) (wrow u 103 a)
    rw [f_X6_kept_l113, f_X6_kept_l113, f_X6_kept_h113, f_X6_kept_h113, wget_def, wrow_off (by decide), h0, if_pos (nI_le (Nat.le_refl n) (by omega)), if_pos (nI_le (Nat.le_refl n) (by omega))]) n 0 (r0 u) 300 (by omega) (by omega)
  rw [itr_pwb (o := 2) (N := 6) (F := fun j a => if a (2 + j) = -9 ∧ s.testBit j = false then 10 else a (2 + j)) (fun j a hj ha => by rw [ha (2 + j) (by omega)]) n hn] at h
  exact h
def fewB (s : Nat) : Option Nat → Bool
  | none => true
  | some q => decide (popc s < popc q)
def kStep (O : Nat) (g : Nat → Bool) (s : Nat) (b : Option Nat) : Option Nat := if (decide (s &&& (63 ^^^ O) = 0) && (fewB s b && g s)) = true then some s else b
def small (b : Option Nat) : Prop := ∀ q, b = some q → q < 64
theorem small_step {O s : Nat} {g : Nat → Bool} {b : Option Nat} (hs : s < 64) (hb : small b) : small (kStep O g s b) := by
  unfold kStep
  split
  · intro q hq; injection hq with hq; omega
  · exact hb
theorem isFewer_eq {s : Nat} {b : Option Nat} (hs : s < 64) (hb : small b) (v : Wd) : f_X5_isFewer (nI s) (encO b) v = some (if fewB s b = true then 1 else 0, v) := by
  rw [f_X5_isFewer, f_X5_isFewer_b0]
  cases b with
  | none => rw [if_pos (show encO none = -9 from rfl)]; rfl
  | some q =>
    have hq := hb q rfl
    have p1 := popc_le s hs
    have p2 := popc_le q hq
    rw [if_neg (show ¬ encO (some q) = -9 from nI_n9 (show q < 2 ^ 31 by omega)), bc_eq hs, jj_cal, show encO (some q) = nI q from rfl, bc_eq hq, jj_cal]
    unfold fewB
    by_cases h : popc s < popc q
    · rw [if_neg (nI_ge h (by omega)), if_pos (by simp [h])]; rfl
    · rw [if_pos (nI_le (show popc q ≤ popc s by omega) (by omega)), if_neg (by simp [h])]
theorem and_zero {a O : Nat} (ha : a < 64) (hO : O < 64) : (nI a &&& (nI O ^^^ -1) = 0) ↔ a &&& (63 ^^^ O) = 0 := by
  rw [jj_andnot ha hO]
  exact nI_eq (a := a &&& (63 ^^^ O)) (b := 0) (by have := Nat.and_le_left (n := a) (m := 63 ^^^ O); omega) (by decide)
theorem kept_c {n d T O : Nat} {w : Wd} (hn : n ≤ 6) (hd : d < n) (hT : IvT n w) (hS : IvS n w) (hT2 : T ≤ 40) (hO : O < 64) {v : Wd} (hc : CF w v) : ∃ v', f_X5_kept_l67 300 (nI d) (nI T) (nI (Dr n (r0 w))) (nI O) (-9) 0 v = some (encO (itr (kStep O (fun s => rf n w d T (drR n s (r0 w)))) 0 64 none), v') ∧ CF w v' := by
  have hD : Dr n (r0 w) < 64 := lt64 hn (bset_lt _ n)
  exact jj_loopE (F := fun f x b v => f_X5_kept_l67 f (nI d) (nI T) (nI (Dr n (r0 w))) (nI O) (encO b) x v) (s := kStep O (fun s => rf n w d T (drR n s (r0 w)))) (ex := encO) (N := 64) (CF w) (fun _ b => small b) (by
    intro f i b v hi hb hc
    have h6 : ¬ (64 : Int32) ≤ nI i := nI_ge (b := 64) hi (by decide)
    have hfew := isFewer_eq hi hb
    have hnext : ∀ c v, f_X5_kept_b125 (f_X5_kept_l67 f) (nI d) (nI T) (nI (Dr n (r0 w))) (nI O) c (nI i) v = f_X5_kept_l67 f (nI d) (nI T) (nI (Dr n (r0 w))) (nI O) c (nI (i + 1)) v := fun c v => by rw [f_X5_kept_b125, jj_bnd, nI_1]
    have hskip : ∀ c v, f_X5_kept_b98 (f_X5_kept_l67 f) (nI d) (nI T) (nI (Dr n (r0 w))) (nI O) c (nI i) v = f_X5_kept_l67 f (nI d) (nI T) (nI (Dr n (r0 w))) (nI O) c (nI (i + 1)) v := fun c v => by rw [f_X5_kept_b98, jj_bnd, if_pos (show (0 : Int32) = 0 from rfl), hnext]
    show ∃ w', f_X5_kept_l67 (f + 1) (nI d) (nI T) (nI (Dr n (r0 w))) (nI O) (encO b) (nI i) v = f_X5_kept_l67 f (nI d) (nI T) (nI (Dr n (r0 w))) (nI O) (encO (kStep O _ i b)) (nI (i + 1)) w' ∧ CF w w' ∧ small (kStep O _ i b)
    by_cases hfit : i &&& (63 ^^^ O) = 0
    · cases hf : fewB i b with
      | true =>
        obtain ⟨v1, h1, h2, -⟩ := risesFirst_c (T := T) hn hd hT hS hT2 hi hc
        refine ⟨v1, ?_, h2, small_step hi hb⟩
        rw [f_X5_kept_l67, f_X5_kept_h67, if_neg h6, if_pos ((and_zero hi hO).mpr hfit), hfew, hf, jj_cal, if_pos (show true = true from rfl), if_neg jj_ne10, jj_bnd, if_neg jj_ne10, jj_andnot hD hi, h1, jj_cal]
        unfold kStep
        rw [hf]
        cases hr : rf n w d T (drR n i (r0 w)) with
        | true => rw [if_pos (show true = true from rfl), if_neg jj_ne10, jj_bnd, hnext, if_pos (by simp [hfit, hr])]; rfl
        | false => rw [if_neg (show ¬ false = true by decide), if_pos (show (0 : Int32) = 0 from rfl), hnext, if_neg (by simp [hr])]
      | false =>
        refine ⟨v, ?_, hc, small_step hi hb⟩
        rw [f_X5_kept_l67, f_X5_kept_h67, if_neg h6, if_pos ((and_zero hi hO).mpr hfit), hfew, hf, jj_cal, if_neg (show ¬ false = true by decide), if_pos (show (0 : Int32) = 0 from rfl), hskip]
        unfold kStep
        rw [hf, if_neg (by simp)]
    · refine ⟨v, ?_, hc, small_step hi hb⟩
      rw [f_X5_kept_l67, f_X5_kept_h67, if_neg h6, if_neg (fun q => hfit ((and_zero hi hO).mp q)), hskip]
      unfold kStep
      rw [if_neg (by simp [hfit])]) (by
    intro f b v hb hc
    refine ⟨v, ?_, hc⟩
    show f_X5_kept_l67 (f + 1) (nI d) (nI T) (nI (Dr n (r0 w))) (nI O) (encO b) (nI 64) v = _
    rw [f_X5_kept_l67, f_X5_kept_h67, if_pos (by decide)]) 64 0 none 300 v rfl (by decide) (fun q hq => by cases hq) hc
theorem kept_m {n d T O : Nat} {w u : Wd} (hn : n ≤ 6) (hd : d < n) (hT : IvT n w) (hS : IvS n w) (hT2 : T ≤ 40) (hO : O < 64) (hu : CF w u) {r : Nat → Int32} (h26 : T26 u r) : ∃ v', f_X6_kept_l68 300 (nI d) (nI T) (nI O) (-9) 0 (wrow u 103 r) = some (encO (itr (kStep O (fun s => rf n w d T (drR n s (r0 w)))) 0 (2 ^ n) none), v') ∧ ∃ r', v' = wrow u 103 r' ∧ T26 u r' := by
  have h0 : u.1 92 0 = nI n := by rw [hu.2 92 (by omega)]; exact hT.1
  have hp64 : 2 ^ n ≤ 64 := (Nat.pow_le_pow_right (by decide) hn : 2 ^ n ≤ 2 ^ 6)
  exact jj_loopE (F := fun f x b v => f_X6_kept_l68 f (nI d) (nI T) (nI O) (encO b) x v) (s := kStep O (fun s => rf n w d T (drR n s (r0 w)))) (ex := encO) (N := 2 ^ n) (fun v => ∃ r', v = wrow u 103 r' ∧ T26 u r') (fun _ b => small b) (by
    intro f i b v hi hb hv
    obtain ⟨r, rfl, h26⟩ := hv
    have hi64 : i < 64 := by omega
    have h6 : ¬ nI (2 ^ n) ≤ nI i := nI_ge hi (by omega)
    have hnext : ∀ c v, f_X6_kept_b193 (f_X6_kept_l68 f) (nI d) (nI T) (nI O) c (nI i) v = f_X6_kept_l68 f (nI d) (nI T) (nI O) c (nI (i + 1)) v := fun c v => by rw [f_X6_kept_b193, jj_bnd, nI_1]
    have htest : fewB i b = true → i &&& (63 ^^^ O) = 0 → ∃ w', f_X6_kept_b106 (f_X6_kept_l68 f) (nI d) (nI T) (nI O) (encO b) (nI i) (wrow u 103 r) = f_X6_kept_l68 f (nI d) (nI T) (nI O) (encO (kStep O (fun s => rf n w d T (drR n s (r0 w))) i b)) (nI (i + 1)) w' ∧ ∃ r', w' = wrow u 103 r' ∧ T26 u r' := by
      intro hf hfit
      obtain ⟨-, -, -, v2, hc2, hS2⟩ := risesFirst_c (T := T) hn hd hT hS hT2 hi64 (CF.rf w)
      obtain ⟨r', h1, h2⟩ := isFirst_w (d := d) (T := T) hn hd hT hu h0 hT2 hc2 hS2 (drR_inv hn (RInv_r0 hn hS)) (T26_dr (u := u) hn (by rw [← CF_r0 hu]; exact T26_r0 u))
      rw [rf_cf hu] at h1
      refine ⟨wrow u 103 r', ?_, r', rfl, h2⟩
      rw [f_X6_kept_b106, asItIs_w h26, jj_cal, jj_bnd, pre_m _ hn h0 hi64, f_X6_kept_l113, f_X6_kept_h113, wget_def, wrow_off (by decide), h0, if_pos (nI_le (Nat.le_refl n) (by omega)), CF_r0 hu, h1, jj_cal]
      unfold kStep
      rw [hf]
      cases hr : rf n w d T (drR n i (r0 w)) with
      | true => rw [if_pos (show true = true from rfl), if_neg jj_ne10, jj_bnd, hnext, if_pos (by simp [hfit, hr])]; rfl
      | false => rw [if_neg (show ¬ false = true by decide), if_pos (show (0 : Int32) = 0 from rfl), jj_bnd, hnext, if_neg (by simp [hr])]
    show ∃ w', f_X6_kept_l68 (f + 1) (nI d) (nI T) (nI O) (encO b) (nI i) (wrow u 103 r) = f_X6_kept_l68 f (nI d) (nI T) (nI O) (encO (kStep O _ i b)) (nI (i + 1)) w' ∧ (∃ r', w' = wrow u 103 r' ∧ T26 u r') ∧ small (kStep O _ i b)
    by_cases hfit : i &&& (63 ^^^ O) = 0
    · cases b with
      | none =>
        obtain ⟨w', h1, h2⟩ := htest rfl hfit
        refine ⟨w', ?_, h2, small_step hi64 hb⟩
        rw [f_X6_kept_l68, f_X6_kept_h68, wget_def, wrow_off (by decide), h0, jj_shl (show n < 7 by omega), if_neg h6, if_pos ((and_zero hi64 hO).mpr hfit), if_pos (show encO none < 0 by decide), h1]
      | some q =>
        have hq := hb q rfl
        have p1 := popc_le i hi64
        have p2 := popc_le q hq
        cases hf : fewB i (some q) with
        | true =>
          obtain ⟨w', h1, h2⟩ := htest hf hfit
          have hlt : popc i < popc q := by simpa [fewB] using hf
          refine ⟨w', ?_, h2, small_step hi64 hb⟩
          rw [f_X6_kept_l68, f_X6_kept_h68, wget_def, wrow_off (by decide), h0, jj_shl (show n < 7 by omega), if_neg h6, if_pos ((and_zero hi64 hO).mpr hfit), if_neg (show ¬ encO (some q) < 0 from nI_pos (show q < 2 ^ 31 by omega)), bits_eq hi64, jj_cal, show encO (some q) = nI q from rfl, bits_eq hq, jj_cal, if_neg (nI_ge hlt (by omega))]
          exact h1
        | false =>
          have hlt : ¬ popc i < popc q := by simpa [fewB] using hf
          refine ⟨wrow u 103 r, ?_, ⟨r, rfl, h26⟩, small_step hi64 hb⟩
          rw [f_X6_kept_l68, f_X6_kept_h68, wget_def, wrow_off (by decide), h0, jj_shl (show n < 7 by omega), if_neg h6, if_pos ((and_zero hi64 hO).mpr hfit), if_neg (show ¬ encO (some q) < 0 from nI_pos (show q < 2 ^ 31 by omega)), bits_eq hi64, jj_cal, show encO (some q) = nI q from rfl, bits_eq hq, jj_cal, if_pos (nI_le (show popc q ≤ popc i by omega) (by omega)), hnext]
          unfold kStep
          rw [hf, if_neg (by simp)]
          rfl
    · refine ⟨wrow u 103 r, ?_, ⟨r, rfl, h26⟩, small_step hi64 hb⟩
      rw [f_X6_kept_l68, f_X6_kept_h68, wget_def, wrow_off (by decide), h0, jj_shl (show n < 7 by omega), if_neg h6, if_neg (fun q => hfit ((and_zero hi64 hO).mp q)), hnext]
      unfold kStep
      rw [if_neg (by simp [hfit])]) (by
    intro f b v hb hv
    obtain ⟨r, rfl, h26⟩ := hv
    refine ⟨wrow u 103 r, ?_, r, rfl, h26⟩
    show f_X6_kept_l68 (f + 1) (nI d) (nI T) (nI O) (encO b) (nI (2 ^ n)) _ = _
    rw [f_X6_kept_l68, f_X6_kept_h68, wget_def, wrow_off (by decide), h0, jj_shl (show n < 7 by omega), if_pos (nI_le (Nat.le_refl _) (by omega))]) (2 ^ n) 0 none 300 (wrow u 103 r) (by omega) (by omega) (fun q hq => by cases hq) ⟨r, rfl, h26⟩
theorem sub_all : ∀ n, n < 7 → ∀ O, O < 64 → ∀ s, s < 64 → (O < 2 ^ n ∧ 2 ^ n ≤ s) → s &&& (63 ^^^ O) ≠ 0 := by decide +kernel
theorem k_same {n O : Nat} (hn : n ≤ 6) (hO : O < 2 ^ n) (g : Nat → Bool) : itr (kStep O g) 0 64 none = itr (kStep O g) 0 (2 ^ n) none := by
  have hp64 : 2 ^ n ≤ 64 := (Nat.pow_le_pow_right (by decide) hn : 2 ^ n ≤ 2 ^ 6)
  rw [show 64 = 2 ^ n + (64 - 2 ^ n) by omega, itr_add]
  refine itr_id _ _ _ (fun j h1 h2 => ?_)
  unfold kStep
  rw [if_neg]
  have := sub_all n (by omega) O (by omega) j (by omega) ⟨hO, by omega⟩
  simp [this]
theorem dry_w {u : Wd} {n : Nat} (hn : n ≤ 6) (h0 : u.1 92 0 = nI n) : f_X6_dry u = some (nI (Dr n (r0 u)), wrow u 103 (r0 u)) := by
  rw [f_X6_dry, f_X6_dry_b0, asItIs_0, jj_cal, atDepth_eq (w := wrow u 103 (r0 u)) (n := n) (by rw [wrow_off (by decide)]; exact h0) hn, jj_cal, wrow_row]
  rfl
theorem op_kept : Op2 Iv f_X5_kept f_X6_kept := by
  intro a x w hI
  obtain ⟨n, hn, hT, hS, hP, hG, hN, hX, hE⟩ := id hI
  obtain ⟨t0, t1, -⟩ := id hT
  obtain ⟨⟨s0, s1, sA, sB⟩, m, h, i0, im, i1, ih, iA⟩ := id hS
  rcases one_cases a hn with ⟨d, hd, rfl⟩ | hx
  · have u18 : w.1 18 d = w.1 96 (20 + d) := (sA d hd).2.2.2
    by_cases g1 : x < 1
    · refine ⟨-1, w, w, ?_, ?_, hI⟩
      · rw [f_X5_kept, f_X5_kept_b0, isTold_yes t1 hn hd, jj_cal, if_neg jj_ne10, if_pos g1]
      · rw [f_X6_kept, f_X6_kept_b0, isOne_yes t0 hn hd, jj_cal, if_neg jj_ne10, in_eq, if_neg (fun q => q.1 g1), jj_cal, if_pos rfl]
    · by_cases g2 : x ≤ 40
      · have hx0 : ¬ x < 0 := fun q => g1 (by
          rw [Int32.lt_iff_toInt_lt] at q ⊢
          have a0 : (0 : Int32).toInt = 0 := by decide
          have a1 : (1 : Int32).toInt = 1 := by decide
          omega)
        by_cases hdry : w.1 15 d = -9
        · by_cases hrs : w.1 18 d = -9
          · obtain ⟨T, hT31, rfl⟩ := nI_of hx0
            have hT40 : T ≤ 40 := (nI_leI (a := T) (b := 40) hT31 (by decide)).mp g2
            have hd64 : 2 ^ d < 64 := lt64 hn (Nat.pow_lt_pow_right (by decide) hd)
            have hDr : bset (fun e => decide (w.1 15 e = -9)) n = Dr n (r0 w) := bset_ext fun e => by
              by_cases l : e < n
              · rw [show w.1 15 e = w.1 96 (2 + e) from (sA e l).1]
                unfold r0
                rw [if_pos (by omega)]
              · simp [l]
            have hD : Dr n (r0 w) < 2 ^ n := bset_lt _ n
            obtain ⟨O, hOO⟩ : ∃ z, z = Dr n (r0 w) &&& (63 ^^^ 2 ^ d) := ⟨_, rfl⟩
            have hO : O < 2 ^ n := by rw [hOO]; exact Nat.lt_of_le_of_lt Nat.and_le_left hD
            have hand : nI (Dr n (r0 w)) &&& (((1 : Int32) <<< (nI d &&& 31)) ^^^ -1) = nI O := by rw [jj_shl (show d < 7 by omega), jj_andnot (lt64 hn hD) hd64, ← hOO]
            obtain ⟨v, c0, c1⟩ := kept_c (d := d) (T := T) (O := O) hn hd hT hS hT40 (lt64 hn hO) (CF.rf w)
            have e92 : v.1 92 0 = nI n := by rw [c1.2 92 (by omega)]; exact t0
            have e96 : v.1 96 = w.1 96 := c1.2 96 (by omega)
            obtain ⟨v', m0, r', rfl, m1⟩ := kept_m (d := d) (T := T) (O := O) hn hd hT hS hT40 (lt64 hn hO) c1 (T26_r0 v)
            rw [← k_same hn hO] at m0
            refine ⟨encO (itr (kStep O (fun s => rf n w d T (drR n s (r0 w)))) 0 64 none), v, wrow v 103 r', ?_, ?_, Iv_same (same_row v 103 r' (by omega)) (Iv_same c1.same hI)⟩
            · rw [f_X5_kept, f_X5_kept_b0, isTold_yes t1 hn hd, jj_cal, if_neg jj_ne10, if_neg g1, if_pos g2, isDry_eq (show d < 6 by omega), jj_cal, if_pos hdry, if_neg jj_ne10, hasRisen_eq (show d < 6 by omega), jj_cal, if_pos hrs, if_pos (show (0 : Int32) = 0 from rfl), dryOnes_eq t1 hn (fun e p1 p2 => (sB e p1 p2).1), jj_cal, jj_bnd, jj_bnd, jj_bnd, jj_bnd, hDr, hand]
              exact c0
            · rw [f_X6_kept, f_X6_kept_b0, isOne_yes (w := v) e92 hn hd, jj_cal, if_neg jj_ne10, in_eq, if_pos ⟨g1, le40 g2⟩, jj_cal, if_neg jj_ne10, jj_2, jj_grd (jj_i26 (show 2 + d < 26 by omega)), jj_tn (show 2 + d < 2 ^ 31 by omega), wget_def, if_pos (show v.1 96 (2 + d) = -9 by rw [e96, ← (sA d hd).1]; exact hdry), jj_20, jj_grd (jj_i26 (show 20 + d < 26 by omega)), jj_tn (show 20 + d < 2 ^ 31 by omega), wget_def, if_pos (show v.1 96 (20 + d) = -9 by rw [e96, ← u18]; exact hrs), dry_w hn e92, jj_cal, jj_bnd, jj_bnd, jj_bnd, CF_r0 c1, hand]
              rw [CF_r0 c1] at m0
              exact m0
          · refine ⟨-2, w, w, ?_, ?_, hI⟩
            · rw [f_X5_kept, f_X5_kept_b0, isTold_yes t1 hn hd, jj_cal, if_neg jj_ne10, if_neg g1, if_pos g2, isDry_eq (show d < 6 by omega), jj_cal, if_pos hdry, if_neg jj_ne10, hasRisen_eq (show d < 6 by omega), jj_cal, if_neg hrs, if_neg jj_ne10]
            · rw [f_X6_kept, f_X6_kept_b0, isOne_yes t0 hn hd, jj_cal, if_neg jj_ne10, in_eq, if_pos ⟨g1, le40 g2⟩, jj_cal, if_neg jj_ne10, jj_2, jj_grd (jj_i26 (show 2 + d < 26 by omega)), jj_tn (show 2 + d < 2 ^ 31 by omega), wget_def, if_pos (show w.1 96 (2 + d) = -9 by rw [← (sA d hd).1]; exact hdry), jj_20, jj_grd (jj_i26 (show 20 + d < 26 by omega)), jj_tn (show 20 + d < 2 ^ 31 by omega), wget_def, if_neg (show ¬ w.1 96 (20 + d) = -9 by rw [← u18]; exact hrs)]
        · refine ⟨-2, w, w, ?_, ?_, hI⟩
          · rw [f_X5_kept, f_X5_kept_b0, isTold_yes t1 hn hd, jj_cal, if_neg jj_ne10, if_neg g1, if_pos g2, isDry_eq (show d < 6 by omega), jj_cal, if_neg hdry, if_pos rfl]
          · rw [f_X6_kept, f_X6_kept_b0, isOne_yes t0 hn hd, jj_cal, if_neg jj_ne10, in_eq, if_pos ⟨g1, le40 g2⟩, jj_cal, if_neg jj_ne10, jj_2, jj_grd (jj_i26 (show 2 + d < 26 by omega)), jj_tn (show 2 + d < 2 ^ 31 by omega), wget_def, if_neg (show ¬ w.1 96 (2 + d) = -9 by rw [← (sA d hd).1]; exact hdry)]
      · refine ⟨-1, w, w, ?_, ?_, hI⟩
        · rw [f_X5_kept, f_X5_kept_b0, isTold_yes t1 hn hd, jj_cal, if_neg jj_ne10, if_neg g1, if_neg g2]
        · rw [f_X6_kept, f_X6_kept_b0, isOne_yes t0 hn hd, jj_cal, if_neg jj_ne10, in_eq, if_neg (fun q => q.2 (jj_nle_lt g2)), jj_cal, if_pos rfl]
  · refine ⟨-1, w, w, ?_, ?_, hI⟩
    · rw [f_X5_kept, f_X5_kept_b0, isTold_no t1 hn hx, jj_cal, if_pos rfl]
    · rw [f_X6_kept, f_X6_kept_b0, isOne_no t0 hn hx, jj_cal, if_pos rfl]
