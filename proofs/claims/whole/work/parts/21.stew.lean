/-! PURE: the class's stew at cell k -/
theorem isDry_eq {k i : Nat} (hi : i < 6) (w : Wd) : f_X4_isDry k (nI i) w = some (if w.1 (k + 1) i = -9 then 1 else 0, w) := by
  unfold f_X4_isDry f_X4_isDry_b0
  rw [jj_inb hi (by decide), jj_tn (by omega)]
  by_cases h : w.1 (k + 1) i = -9 <;> simp [grd, wget_def, h]
theorem hasRisen_eq {k i : Nat} (hi : i < 6) (w : Wd) : f_X4_hasRisen k (nI i) w = some (if w.1 (k + 4) i = -9 then 0 else 1, w) := by
  unfold f_X4_hasRisen f_X4_hasRisen_b0
  rw [jj_inb hi (by decide), jj_tn (by omega)]
  by_cases h : w.1 (k + 4) i = -9 <;> simp [grd, wget_def, h]
theorem swell_eq {k r : Nat} (hkr : r + 3 ≠ k + 2) (w : Wd) : f_X4_swell k r w = some ((), wrow w (k + 2) (fun j => if j < 6 then (if w.1 (k + 1) j = -9 then w.1 (k + 2) j else imin 30 (w.1 (k + 2) j + w.1 (r + 3) j)) else w.1 (k + 2) j)) := by
  have h := jj_loop0 (F := fun f x a => f_X4_swell_l2 k r f x (wrow w (k + 2) a)) (s := fun d a => upd a (0 + d) (if w.1 (k + 1) d = -9 then a d else imin 30 (a d + w.1 (r + 3) d))) (ex := fun a => some ((), wrow w (k + 2) a)) (N := 6) (by
    intro f i a hi
    have h6 : ¬ (6 : Int32) ≤ nI i := nI_ge hi (by decide)
    show f_X4_swell_l2 k r (f + 1) (nI i) _ = f_X4_swell_l2 k r f (nI (i + 1)) _
    rw [f_X4_swell_l2, f_X4_swell_h2, if_neg h6, isDry_eq hi]
    by_cases hd : w.1 (k + 1) i = -9
    · simp [cal, bnd, f_X4_swell_b40, wrow_off, hd, jj_upd_self, nI_1]
    · simp [cal, grd, bnd, f_X4_swell_b40, wrow_off, wrow_row, hd, nI_1, jj_inb hi, jj_tn (show i < 2 ^ 31 by omega), wget_def, hkr, wset_wrow]) (by
    intro f a
    show f_X4_swell_l2 k r (f + 1) (nI 6) _ = _
    rw [f_X4_swell_l2, f_X4_swell_h2, if_pos (by decide)]) 6 0 (w.1 (k + 2)) 300 rfl (by decide)
  rw [itr_pw (o := 0) (F := fun d a => if w.1 (k + 1) d = -9 then a d else imin 30 (a d + w.1 (r + 3) d)) (fun d a ha => by rw [ha d (by omega)])] at h
  simp only [wrow_self] at h
  unfold f_X4_swell f_X4_swell_b0 bnd
  refine h.trans ?_
  congr 3
  funext j
  simp
def liftI (sz : Nat → Int32) (ht : Int32) (wt : Nat → Int32) (set : Int32) (n : Nat) : Int32 := itr (fun d acc => if (set >>> (nI d &&& 31)) &&& 1 = 0 then acc else acc + ((sz d + ht) - wt d)) 0 n 0
def mvI (x y : Int32) : Int32 := if y ≤ 0 then (if 0 ≤ y then x else imin 10 (x + 1)) else imax 0 (x - 1)
theorem moved_eq (x y : Int32) (w : Wd) : f_X5_moved x y w = some (mvI x y, w) := by
  unfold f_X5_moved f_X5_moved_b0 mvI
  split
  · split <;> rfl
  · rfl
theorem liftOf_eq (k r : Nat) (set : Int32) (w : Wd) : f_X4_liftOf k r set w = some (liftI (w.1 (k + 2)) (w.1 k 1) (w.1 (r + 1)) set 6, w) := by
  have h := jj_loop0 (F := fun f x a => f_X4_liftOf_l5 k r f set a x w) (s := fun d acc => if (set >>> (nI d &&& 31)) &&& 1 = 0 then acc else acc + ((w.1 (k + 2) d + w.1 k 1) - w.1 (r + 1) d)) (ex := fun a => some (a, w)) (N := 6) (by
    intro f i a hi
    have h6 : ¬ (6 : Int32) ≤ nI i := nI_ge hi (by decide)
    show f_X4_liftOf_l5 k r (f + 1) set a (nI i) w = f_X4_liftOf_l5 k r f set _ (nI (i + 1)) w
    rw [f_X4_liftOf_l5, f_X4_liftOf_h5, if_neg h6]
    by_cases hd : (set >>> (nI i &&& 31)) &&& 1 = 0
    · simp [bnd, f_X4_liftOf_b44, hd, nI_1]
    · simp [grd, bnd, f_X4_liftOf_b44, hd, nI_1, jj_inb hi, jj_tn (show i < 2 ^ 31 by omega), wget_def]) (by
    intro f a
    show f_X4_liftOf_l5 k r (f + 1) set a (nI 6) w = _
    rw [f_X4_liftOf_l5, f_X4_liftOf_h5, if_pos (by decide)]) 6 0 0 300 rfl (by decide)
  exact h
theorem moveLumps_eq (k r : Nat) (hkr : r + 1 ≠ k + 1) (w : Wd) : f_X4_moveLumps k r w = some ((), wrow w (k + 1) (fun j => if j < 6 then (if w.1 (k + 1) j = -9 then w.1 (k + 1) j else mvI (w.1 (k + 1) j) (liftI (w.1 (k + 2)) (w.1 k 1) (w.1 (r + 1)) (w.1 (k + 3) j) 6)) else w.1 (k + 1) j)) := by
  have h := jj_loop0 (F := fun f x a => f_X4_moveLumps_l2 k r f x (wrow w (k + 1) a)) (s := fun d a => upd a (0 + d) (if a d = -9 then a d else mvI (a d) (liftI (w.1 (k + 2)) (w.1 k 1) (w.1 (r + 1)) (w.1 (k + 3) d) 6))) (ex := fun a => some ((), wrow w (k + 1) a)) (N := 6) (by
    intro f i a hi
    have h6 : ¬ (6 : Int32) ≤ nI i := nI_ge hi (by decide)
    show f_X4_moveLumps_l2 k r (f + 1) (nI i) _ = f_X4_moveLumps_l2 k r f (nI (i + 1)) _
    rw [f_X4_moveLumps_l2, f_X4_moveLumps_h2, if_neg h6, isDry_eq hi]
    by_cases hd : a i = -9
    · simp [cal, bnd, f_X4_moveLumps_b42, wrow_row, hd, nI_1]
      rw [← hd, jj_upd_self]
    · simp [cal, grd, bnd, f_X4_moveLumps_b42, wrow_off, wrow_row, hd, nI_1, jj_inb hi, jj_tn (show i < 2 ^ 31 by omega), wget_def, wset_wrow, liftOf_eq, moved_eq, wrow_off (w := w) (r := a) hkr, show k ≠ k + 1 by omega]) (by
    intro f a
    show f_X4_moveLumps_l2 k r (f + 1) (nI 6) _ = _
    rw [f_X4_moveLumps_l2, f_X4_moveLumps_h2, if_pos (by decide)]) 6 0 (w.1 (k + 1)) 300 rfl (by decide)
  rw [itr_pw (o := 0) (F := fun d a => if a d = -9 then a d else mvI (a d) (liftI (w.1 (k + 2)) (w.1 k 1) (w.1 (r + 1)) (w.1 (k + 3) d) 6)) (fun d a ha => by rw [ha d (by omega)])] at h
  simp only [wrow_self] at h
  unfold f_X4_moveLumps f_X4_moveLumps_b0 bnd
  refine h.trans ?_
  congr 3
  funext j
  simp
def stickP (dp sz L : Nat → Int32) (gl : Int32) (d e : Nat) : Prop := ¬ dp d < 1 ∧ ¬ 10 ≤ dp d ∧ dp e = dp d ∧ (L d >>> (nI e &&& 31)) &&& 1 = 0 ∧ ¬ gl < iabs (sz d - sz e)
theorem canStick_eq {k d e : Nat} (hd : d < 6) (he : e < 6) (gl : Int32) (w : Wd) : f_X4_canStick k (nI d) (nI e) gl w = some (@ite _ (stickP (w.1 (k + 1)) (w.1 (k + 2)) (w.1 (k + 3)) gl d e) (Classical.propDecidable _) 1 0, w) := by
  unfold f_X4_canStick f_X4_canStick_b0 f_X4_canStick_b25 stickP
  simp only [grd, bnd, jj_inb hd (show 6 < 2 ^ 31 by decide), jj_inb he (show 6 < 2 ^ 31 by decide), jj_tn (show d < 2 ^ 31 by omega), jj_tn (show e < 2 ^ 31 by omega), wget_def]
  by_cases h1 : w.1 (k + 1) d < 1
  · simp [h1]
  · by_cases h2 : 10 ≤ w.1 (k + 1) d
    · simp [h1, h2]
    · by_cases h3 : w.1 (k + 1) e = w.1 (k + 1) d
      · by_cases h4 : (w.1 (k + 3) d >>> (nI e &&& 31)) &&& 1 = 0
        · by_cases h5 : gl < iabs (w.1 (k + 2) d - w.1 (k + 2) e)
          · simp [h1, h2, h3, h4, h5]
          · simp [h1, h2, h3, h4, h5]
        · simp [h1, h2, h3, h4]
      · simp [h1, h2, h3]
def joinI (set : Int32) (L : Nat → Int32) : Nat → Int32 := fun j => if j < 6 then (if (set >>> (nI j &&& 31)) &&& 1 = 0 then L j else set) else L j
theorem join_eq (k : Nat) (set : Int32) (w : Wd) : f_X4_join k set w = some ((), wrow w (k + 3) (joinI set (w.1 (k + 3)))) := by
  have h := jj_loop0 (F := fun f x a => f_X4_join_l2 k f set x (wrow w (k + 3) a)) (s := fun d a => upd a (0 + d) (if (set >>> (nI d &&& 31)) &&& 1 = 0 then a d else set)) (ex := fun a => some ((), wrow w (k + 3) a)) (N := 6) (by
    intro f i a hi
    have h6 : ¬ (6 : Int32) ≤ nI i := nI_ge hi (by decide)
    show f_X4_join_l2 k (f + 1) set (nI i) _ = f_X4_join_l2 k f set (nI (i + 1)) _
    rw [f_X4_join_l2, f_X4_join_h2, if_neg h6]
    by_cases hd : (set >>> (nI i &&& 31)) &&& 1 = 0
    · simp [bnd, f_X4_join_b23, hd, nI_1, jj_upd_self]
    · simp [grd, bnd, f_X4_join_b23, hd, nI_1, jj_inb hi, jj_tn (show i < 2 ^ 31 by omega), wset_wrow]) (by
    intro f a
    show f_X4_join_l2 k (f + 1) set (nI 6) _ = _
    rw [f_X4_join_l2, f_X4_join_h2, if_pos (by decide)]) 6 0 (w.1 (k + 3)) 300 rfl (by decide)
  rw [itr_pw (o := 0) (F := fun d a => if (set >>> (nI d &&& 31)) &&& 1 = 0 then a d else set) (fun d a ha => by rw [ha d (by omega)])] at h
  simp only [wrow_self] at h
  unfold f_X4_join f_X4_join_b0 bnd
  refine h.trans ?_
  congr 3
  funext j
  simp [joinI]
/-- one pair -/
noncomputable def stk1 (dp sz : Nat → Int32) (gl : Int32) (d e : Nat) (L : Nat → Int32) : Nat → Int32 := @ite _ (stickP dp sz L gl d e) (Classical.propDecidable _) (joinI (L d ||| L e) L) L
noncomputable def stkC (dp sz : Nat → Int32) (gl : Int32) (L : Nat → Int32) : Nat → Int32 := itr (fun d L => itr (stk1 dp sz gl d) (d + 1) (6 - (d + 1)) L) 0 6 L
theorem stick_eq (k : Nat) (gl : Int32) (w : Wd) : f_X4_stick k gl w = some ((), wrow w (k + 3) (stkC (w.1 (k + 1)) (w.1 (k + 2)) gl (w.1 (k + 3)))) := by
  have h := jj_loop0 (F := fun f x a => f_X4_stick_l2 k f gl x (wrow w (k + 3) a)) (s := fun d L => itr (stk1 (w.1 (k + 1)) (w.1 (k + 2)) gl d) (d + 1) (6 - (d + 1)) L) (ex := fun a => some ((), wrow w (k + 3) a)) (N := 6) (by
    intro f d a hd
    have h6 : ¬ (6 : Int32) ≤ nI d := nI_ge hd (by decide)
    show f_X4_stick_l2 k (f + 1) gl (nI d) _ = f_X4_stick_l2 k f gl (nI (d + 1)) _
    rw [f_X4_stick_l2, f_X4_stick_h2, if_neg h6]
    simp only [bnd, nI_1]
    exact jj_loop0 (F := fun f2 x a => f_X4_stick_l12 k (f_X4_stick_l2 k f) f2 gl (nI d) x (wrow w (k + 3) a)) (s := stk1 (w.1 (k + 1)) (w.1 (k + 2)) gl d) (ex := fun a => f_X4_stick_l2 k f gl (nI (d + 1)) (wrow w (k + 3) a)) (N := 6) (by
      intro f2 e L he
      have h6 : ¬ (6 : Int32) ≤ nI e := nI_ge he (by decide)
      show f_X4_stick_l12 k (f_X4_stick_l2 k f) (f2 + 1) gl (nI d) (nI e) _ = f_X4_stick_l12 k (f_X4_stick_l2 k f) f2 gl (nI d) (nI (e + 1)) _
      have hc := canStick_eq (k := k) hd he gl (wrow w (k + 3) L)
      rw [wrow_off (show k + 1 ≠ k + 3 by omega), wrow_off (show k + 2 ≠ k + 3 by omega), wrow_row] at hc
      rw [f_X4_stick_l12, f_X4_stick_h12, if_neg h6, hc]
      by_cases hp : stickP (w.1 (k + 1)) (w.1 (k + 2)) L gl d e
      · simp [stk1, hp, grd, cal, bnd, f_X4_stick_b45, jj_inb hd, jj_inb he, jj_tn (show d < 2 ^ 31 by omega), jj_tn (show e < 2 ^ 31 by omega), wget_def, wrow_row, join_eq, wrow_wrow, nI_1]
      · simp [stk1, hp, cal, bnd, f_X4_stick_b45, nI_1]) (by
      intro f2 L
      show f_X4_stick_l12 k (f_X4_stick_l2 k f) (f2 + 1) gl (nI d) (nI 6) _ = _
      rw [f_X4_stick_l12, f_X4_stick_h12, if_pos (by decide)]
      simp only [bnd, nI_1]) (6 - (d + 1)) (d + 1) a 300 (by omega) (by omega)) (by
    intro f a
    show f_X4_stick_l2 k (f + 1) gl (nI 6) _ = _
    rw [f_X4_stick_l2, f_X4_stick_h2, if_pos (by decide)]) 6 0 (w.1 (k + 3)) 300 rfl (by decide)
  simp only [wrow_self] at h
  exact h
theorem rises_eq (k r : Nat) (w : Wd) : f_X4_passMinute_l30 k r 300 0 w = some ((), wrow w (k + 4) (fun j => if j < 6 then (if w.1 (k + 1) j = 0 ∧ w.1 (k + 4) j = -9 then w.1 k 0 else w.1 (k + 4) j) else w.1 (k + 4) j)) := by
  have h := jj_loop0 (F := fun f x a => f_X4_passMinute_l30 k r f x (wrow w (k + 4) a)) (s := fun d a => upd a (0 + d) (if w.1 (k + 1) d = 0 ∧ a d = -9 then w.1 k 0 else a d)) (ex := fun a => some ((), wrow w (k + 4) a)) (N := 6) (by
    intro f i a hi
    have h6 : ¬ (6 : Int32) ≤ nI i := nI_ge hi (by decide)
    show f_X4_passMinute_l30 k r (f + 1) (nI i) _ = f_X4_passMinute_l30 k r f (nI (i + 1)) _
    rw [f_X4_passMinute_l30, f_X4_passMinute_h30, if_neg h6, hasRisen_eq hi]
    by_cases hd : w.1 (k + 1) i = 0
    · by_cases h2 : a i = -9
      · simp [cal, grd, bnd, f_X4_passMinute_b63, wrow_off, wrow_row, hd, h2, nI_1, jj_inb hi, jj_tn (show i < 2 ^ 31 by omega), wget_def, wset_wrow, show k ≠ k + 4 by omega]
      · simp [cal, grd, bnd, f_X4_passMinute_b63, wrow_off, wrow_row, hd, h2, nI_1, jj_inb hi, jj_tn (show i < 2 ^ 31 by omega), wget_def, jj_upd_self]
    · simp [cal, grd, bnd, f_X4_passMinute_b63, wrow_off, wrow_row, hd, nI_1, jj_inb hi, jj_tn (show i < 2 ^ 31 by omega), wget_def, jj_upd_self]) (by
    intro f a
    show f_X4_passMinute_l30 k r (f + 1) (nI 6) _ = _
    rw [f_X4_passMinute_l30, f_X4_passMinute_h30, if_pos (by decide)]) 6 0 (w.1 (k + 4)) 300 rfl (by decide)
  rw [itr_pw (o := 0) (F := fun d a => if w.1 (k + 1) d = 0 ∧ a d = -9 then w.1 k 0 else a d) (fun d a ha => by rw [ha d (by omega)])] at h
  simp only [wrow_self] at h
  refine h.trans ?_
  congr 3
  funext j
  simp
/-- a minute of the class's stew: what each row is then -/
def nSz (dp sz sw : Nat → Int32) : Nat → Int32 := fun j => if j < 6 then (if dp j = -9 then sz j else imin 30 (sz j + sw j)) else sz j
def nDp (dp sz lp wt : Nat → Int32) (ht : Int32) : Nat → Int32 := fun j => if j < 6 then (if dp j = -9 then dp j else mvI (dp j) (liftI sz ht wt (lp j) 6)) else dp j
def nRs (dp rs : Nat → Int32) (mn : Int32) : Nat → Int32 := fun j => if j < 6 then (if dp j = 0 ∧ rs j = -9 then mn else rs j) else rs j
theorem pass_eq (k r : Nat) (h1 : r + 3 < k ∨ k + 4 < r) (w : Wd) : ∃ w', f_X4_passMinute k r w = some ((), w') ∧ w'.2 = w.2 ∧ (∀ a, a < k ∨ k + 4 < a → w'.1 a = w.1 a) ∧ w'.1 k 0 = w.1 k 0 + 1 ∧ w'.1 k 1 = w.1 k 1 ∧ w'.1 (k + 2) = nSz (w.1 (k + 1)) (w.1 (k + 2)) (w.1 (r + 3)) ∧
    w'.1 (k + 1) = nDp (w.1 (k + 1)) (w'.1 (k + 2)) (w.1 (k + 3)) (w.1 (r + 1)) (w.1 k 1) ∧ w'.1 (k + 3) = stkC (w'.1 (k + 1)) (w'.1 (k + 2)) (w.1 r 2) (w.1 (k + 3)) ∧ w'.1 (k + 4) = nRs (w'.1 (k + 1)) (w.1 (k + 4)) (w.1 k 0 + 1) := by
  obtain ⟨w1, hw1⟩ : ∃ x, x = wset w k 0 (wget w k 0 + 1) := ⟨_, rfl⟩
  have e1 : ∀ a, a ≠ k → w1.1 a = w.1 a := fun a ha => by rw [hw1]; exact (wset_off w k 0 _ a ha).1
  have e10 : w1.1 k 0 = w.1 k 0 + 1 := by rw [hw1, wset_row2, wrow_row]; rfl
  have e11 : w1.1 k 1 = w.1 k 1 := by rw [hw1, wset_row2, wrow_row]; rfl
  have e12 : w1.2 = w.2 := by rw [hw1]; rfl
  obtain ⟨w2, hw2⟩ : ∃ x, x = wrow w1 (k + 2) (nSz (w1.1 (k + 1)) (w1.1 (k + 2)) (w1.1 (r + 3))) := ⟨_, rfl⟩
  have s2 : f_X4_swell k r w1 = some ((), w2) := by rw [hw2]; exact swell_eq (by omega) w1
  obtain ⟨w3, hw3⟩ : ∃ x, x = wrow w2 (k + 1) (nDp (w2.1 (k + 1)) (w2.1 (k + 2)) (w2.1 (k + 3)) (w2.1 (r + 1)) (w2.1 k 1)) := ⟨_, rfl⟩
  have s3 : f_X4_moveLumps k r w2 = some ((), w3) := by rw [hw3]; exact moveLumps_eq k r (by omega) w2
  obtain ⟨w4, hw4⟩ : ∃ x, x = wrow w3 (k + 3) (stkC (w3.1 (k + 1)) (w3.1 (k + 2)) (w3.1 r 2) (w3.1 (k + 3))) := ⟨_, rfl⟩
  have s4 : f_X4_stick k (wget w3 r 2) w3 = some ((), w4) := by rw [hw4]; exact stick_eq k _ w3
  obtain ⟨w5, hw5⟩ : ∃ x, x = wrow w4 (k + 4) (nRs (w4.1 (k + 1)) (w4.1 (k + 4)) (w4.1 k 0)) := ⟨_, rfl⟩
  have s5 : f_X4_passMinute_l30 k r 300 0 w4 = some ((), w5) := by rw [hw5]; exact rises_eq k r w4
  have f2 : ∀ a, a ≠ k + 2 → w2.1 a = w1.1 a := fun a ha => by rw [hw2]; exact wrow_off ha
  have f3 : ∀ a, a ≠ k + 1 → w3.1 a = w2.1 a := fun a ha => by rw [hw3]; exact wrow_off ha
  have f4 : ∀ a, a ≠ k + 3 → w4.1 a = w3.1 a := fun a ha => by rw [hw4]; exact wrow_off ha
  have f5 : ∀ a, a ≠ k + 4 → w5.1 a = w4.1 a := fun a ha => by rw [hw5]; exact wrow_off ha
  have g2 : w5.1 (k + 2) = w2.1 (k + 2) := by rw [f5 _ (by omega), f4 _ (by omega), f3 _ (by omega)]
  have g1 : w5.1 (k + 1) = w3.1 (k + 1) := by rw [f5 _ (by omega), f4 _ (by omega)]
  have gk : w5.1 k = w1.1 k := by rw [f5 _ (by omega), f4 _ (by omega), f3 _ (by omega), f2 _ (by omega)]
  refine ⟨w5, ?_, ?_, ?_, ?_, ?_, ?_, ?_, ?_, ?_⟩
  · unfold f_X4_passMinute f_X4_passMinute_b0
    simp only [bnd]
    rw [← hw1, s2]
    simp only [cal]
    rw [s3]
    simp only []
    rw [s4]
    exact s5
  · rw [hw5, wrow_2, hw4, wrow_2, hw3, wrow_2, hw2, wrow_2, e12]
  · intro a ha
    rw [f5 _ (by omega), f4 _ (by omega), f3 _ (by omega), f2 _ (by omega), e1 _ (by omega)]
  · rw [gk, e10]
  · rw [gk, e11]
  · rw [g2, hw2, wrow_row, e1 _ (by omega), e1 _ (by omega), e1 _ (by omega)]
  · rw [g1, hw3, wrow_row, g2, f2 _ (show k + 1 ≠ k + 2 by omega), e1 _ (by omega), f2 _ (show k + 3 ≠ k + 2 by omega), e1 _ (by omega), f2 _ (show r + 1 ≠ k + 2 by omega), e1 (r + 1) (by omega), f2 k (by omega), e11]
  · rw [f5 _ (by omega), hw4, wrow_row, g1, g2, f3 (k + 2) (by omega), f3 r (by omega), f2 r (by omega), e1 r (by omega), f3 (k + 3) (by omega), f2 (k + 3) (by omega), e1 (k + 3) (by omega)]
  · rw [hw5, wrow_row, wrow_off (show k + 1 ≠ k + 4 by omega), f4 (k + 4) (by omega), f3 (k + 4) (by omega), f2 (k + 4) (by omega), e1 (k + 4) (by omega), f4 k (by omega), f3 k (by omega), f2 k (by omega), e10]
