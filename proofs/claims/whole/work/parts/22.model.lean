/-! PURE: the reference's row of a stew (cell 103) -/
theorem itr_pwb {o N : Nat} {F : Nat → (Nat → Int32) → Int32} {r0 : Nat → Int32} (hF : ∀ d r, d < N → (∀ j, j < o ∨ o + d ≤ j → r j = r0 j) → F d r = F d r0) : ∀ n, n ≤ N → itr (fun d r => upd r (o + d) (F d r)) 0 n r0 = fun j => if o ≤ j ∧ j < o + n then F (j - o) r0 else r0 j
  | 0, _ => by
    funext j
    rw [if_neg (by omega)]
    rfl
  | n + 1, hn => by
    rw [itr_last, itr_pwb hF n (by omega)]
    funext j
    rw [Nat.zero_add, hF n _ (by omega) (fun j hj => if_neg (by omega)), jj_upd]
    by_cases h : j = o + n
    · rw [if_pos h, if_pos (by omega), h, Nat.add_sub_cancel_left]
    · rw [if_neg h]
      by_cases h2 : o ≤ j ∧ j < o + n
      · rw [if_pos h2, if_pos (by omega)]
      · rw [if_neg h2, if_neg (by omega)]
theorem jj_2 (i : Nat) : (2 : Int32) + nI i = nI (2 + i) := nI_add 2 i
theorem jj_8 (i : Nat) : (8 : Int32) + nI i = nI (8 + i) := nI_add 8 i
theorem jj_14 (i : Nat) : (14 : Int32) + nI i = nI (14 + i) := nI_add 14 i
theorem jj_20 (i : Nat) : (20 : Int32) + nI i = nI (20 + i) := nI_add 20 i
theorem jj_26 (i : Nat) : (26 : Int32) + nI i = nI (26 + i) := nI_add 26 i
theorem jj_bit1 (x y : Int32) : (x >>> y) &&& 1 = 0 ∨ (x >>> y) &&& 1 = 1 := by
  generalize x >>> y = z
  rcases BitVec.eq_zero_or_eq_one (z.toBitVec.extractLsb' 0 1) with h | h
  · left
    apply Int32.toBitVec_inj.1
    show z.toBitVec &&& 1#32 = 0#32
    apply BitVec.eq_of_getLsbD_eq
    intro i hi
    have h0 : z.toBitVec.getLsbD 0 = false := by
      have := congrArg (fun b => b.getLsbD 0) h
      simpa using this
    rw [BitVec.getLsbD_eq_getElem (by omega)] at h0
    by_cases hi0 : i = 0
    · subst hi0; simp [h0]
    · simp [hi0]
  · right
    apply Int32.toBitVec_inj.1
    show z.toBitVec &&& 1#32 = 1#32
    apply BitVec.eq_of_getLsbD_eq
    intro i hi
    have h0 : z.toBitVec.getLsbD 0 = true := by
      have := congrArg (fun b => b.getLsbD 0) h
      simpa using this
    rw [BitVec.getLsbD_eq_getElem (by omega)] at h0
    by_cases hi0 : i = 0
    · subst hi0; simp [h0]
    · simp [hi0]
theorem has_eq (set i : Int32) (w : Wd) : f_X6_has set i w = some (if (set >>> (i &&& 31)) &&& 1 = 0 then 0 else 1, w) := by
  unfold f_X6_has f_X6_has_b0
  rcases jj_bit1 set (i &&& 31) with h | h <;> simp [h]
theorem in_eq (v a b : Int32) (w : Wd) : f_X6_in v a b w = some (if ¬ v < a ∧ ¬ b < v then 1 else 0, w) := by
  unfold f_X6_in f_X6_in_b0
  by_cases h1 : v < a
  · simp [h1]
  · by_cases h2 : b < v
    · simp [h1, h2]
    · simp [h1, h2]
def mSw (n : Nat) (sw r : Nat → Int32) : Nat → Int32 := fun j => if 8 ≤ j ∧ j < 8 + n then (if r (2 + (j - 8)) = -9 then r (8 + (j - 8)) else if r (8 + (j - 8)) + sw (j - 8) ≤ 30 then r (8 + (j - 8)) + sw (j - 8) else 30) else r j
def mvM (x y : Int32) : Int32 := if 0 ≤ (if y ≤ 0 then (if 0 ≤ y then x - 0 else x - (-1)) else x - 1) then (if (if y ≤ 0 then (if 0 ≤ y then x - 0 else x - (-1)) else x - 1) ≤ 10 then (if y ≤ 0 then (if 0 ≤ y then x - 0 else x - (-1)) else x - 1) else 10) else 0
def mFl (n : Nat) (wt r : Nat → Int32) : Nat → Int32 := fun j => if 2 ≤ j ∧ j < 2 + n then (if r (2 + (j - 2)) = -9 then r (2 + (j - 2)) else mvM (r (2 + (j - 2))) (liftI (fun d => r (8 + d)) (r 1) wt (r (14 + (j - 2))) n)) else r j
def mLay (n : Nat) (set : Int32) (r : Nat → Int32) : Nat → Int32 := fun j => if 14 ≤ j ∧ j < 14 + n then (if (set >>> (nI (j - 14) &&& 31)) &&& 1 = 0 then r (14 + (j - 14)) else set) else r j
def stickM (r : Nat → Int32) (gl : Int32) (d e : Nat) : Prop := r (2 + d) = r (2 + e) ∧ (¬ r (2 + d) < 1 ∧ ¬ 9 < r (2 + d)) ∧ (¬ r (8 + d) - r (8 + e) < -gl ∧ ¬ gl < r (8 + d) - r (8 + e)) ∧ (r (14 + d) >>> (nI e &&& 31)) &&& 1 = 0
noncomputable def mSt1 (n : Nat) (gl : Int32) (d e : Nat) (r : Nat → Int32) : Nat → Int32 := @ite _ (stickM r gl d e) (Classical.propDecidable _) (mLay n (r (14 + d) ||| r (14 + e)) r) r
noncomputable def mSt (n : Nat) (gl : Int32) (r : Nat → Int32) : Nat → Int32 := itr (fun d r => itr (mSt1 n gl d) (d + 1) (n - (d + 1)) r) 0 n r
def mRs (n : Nat) (r : Nat → Int32) : Nat → Int32 := fun j => if 20 ≤ j ∧ j < 20 + n then (if r (2 + (j - 20)) = 0 ∧ r (20 + (j - 20)) = -9 then r 0 else r (20 + (j - 20))) else r j
noncomputable def minM (n : Nat) (gl : Int32) (wt sw r : Nat → Int32) : Nat → Int32 := mRs n (mSt n gl (mFl n wt (mSw n sw (upd r 0 (r 0 + 1)))))
section MD
variable {w : Wd} {n : Nat} (hn : w.1 92 0 = nI n) (hn6 : n ≤ 6)
theorem mswell_eq (hn : w.1 92 0 = nI n) (hn6 : n ≤ 6) : f_X6_swell w = some ((), wrow w 103 (mSw n (w.1 94) (w.1 103))) := by
  have h := jj_loop0 (F := fun f x a => f_X6_swell_l2 f x (wrow w 103 a)) (s := fun d a => upd a (8 + d) (if a (2 + d) = -9 then a (8 + d) else if a (8 + d) + w.1 94 d ≤ 30 then a (8 + d) + w.1 94 d else 30)) (ex := fun a => some ((), wrow w 103 a)) (N := n) (by
    intro f i a hi
    have h6 : ¬ nI n ≤ nI i := nI_ge hi (by omega)
    show f_X6_swell_l2 (f + 1) (nI i) _ = f_X6_swell_l2 f (nI (i + 1)) _
    rw [f_X6_swell_l2, f_X6_swell_h2, wget_def, wrow_off (by decide), hn, if_neg h6]
    simp only [jj_8, jj_2, jj_inb (show 8 + i < 26 by omega) (show 26 < 2 ^ 31 by decide), jj_inb (show 2 + i < 26 by omega) (show 26 < 2 ^ 31 by decide), jj_inb (show i < 6 by omega) (show 6 < 2 ^ 31 by decide), jj_tn (show 8 + i < 2 ^ 31 by omega), jj_tn (show 2 + i < 2 ^ 31 by omega), jj_tn (show i < 2 ^ 31 by omega), grd, bnd, wget_def, wrow_row, wrow_off (w := w) (r := a) (show 94 ≠ 103 by decide), wset_wrow, nI_1]
    by_cases hd : a (2 + i) = -9
    · simp [hd]
    · by_cases h3 : a (8 + i) + w.1 94 i ≤ 30
      · simp [hd, h3]
      · simp [hd, h3]) (by
    intro f a
    show f_X6_swell_l2 (f + 1) (nI n) _ = _
    rw [f_X6_swell_l2, f_X6_swell_h2, wget_def, wrow_off (by decide), hn, if_pos (nI_le (Nat.le_refl n) (by omega))]) n 0 (w.1 103) 300 (by omega) (by omega)
  rw [itr_pwb (o := 8) (N := 6) (F := fun d a => if a (2 + d) = -9 then a (8 + d) else if a (8 + d) + w.1 94 d ≤ 30 then a (8 + d) + w.1 94 d else 30) (fun d a hd ha => by rw [ha (2 + d) (by omega), ha (8 + d) (by omega)]) n hn6] at h
  simp only [wrow_self] at h
  exact h
theorem lift_eq (hn : w.1 92 0 = nI n) (hn6 : n ≤ 6) (set : Int32) : f_X6_lift set w = some (liftI (fun d => w.1 103 (8 + d)) (w.1 103 1) (w.1 93) set n, w) := by
  have h := jj_loop0 (F := fun f x a => f_X6_lift_l4 f set a x w) (s := fun d acc => if (set >>> (nI d &&& 31)) &&& 1 = 0 then acc else acc + ((w.1 103 (8 + d) + w.1 103 1) - w.1 93 d)) (ex := fun a => some (a, w)) (N := n) (by
    intro f i a hi
    have h6 : ¬ nI n ≤ nI i := nI_ge hi (by omega)
    show f_X6_lift_l4 (f + 1) set a (nI i) _ = f_X6_lift_l4 f set _ (nI (i + 1)) _
    rw [f_X6_lift_l4, f_X6_lift_h4, wget_def, hn, if_neg h6, has_eq]
    simp only [cal, jj_8, jj_inb (show 8 + i < 26 by omega) (show 26 < 2 ^ 31 by decide), jj_inb (show i < 6 by omega) (show 6 < 2 ^ 31 by decide), jj_tn (show 8 + i < 2 ^ 31 by omega), jj_tn (show i < 2 ^ 31 by omega), grd, bnd, wget_def, nI_1]
    by_cases hd : (set >>> (nI i &&& 31)) &&& 1 = 0
    · simp [hd]
    · simp [hd]) (by
    intro f a
    show f_X6_lift_l4 (f + 1) set a (nI n) _ = _
    rw [f_X6_lift_l4, f_X6_lift_h4, wget_def, hn, if_pos (nI_le (Nat.le_refl n) (by omega))]) n 0 0 300 (by omega) (by omega)
  exact h
theorem floats_eq (hn : w.1 92 0 = nI n) (hn6 : n ≤ 6) : f_X6_floats w = some ((), wrow w 103 (mFl n (w.1 93) (w.1 103))) := by
  have h := jj_loop0 (F := fun f x a => f_X6_floats_l2 f x (wrow w 103 a)) (s := fun d a => upd a (2 + d) (if a (2 + d) = -9 then a (2 + d) else mvM (a (2 + d)) (liftI (fun j => a (8 + j)) (a 1) (w.1 93) (a (14 + d)) n))) (ex := fun a => some ((), wrow w 103 a)) (N := n) (by
    intro f i a hi
    have h6 : ¬ nI n ≤ nI i := nI_ge hi (by omega)
    have hl := lift_eq (w := wrow w 103 a) (n := n) (by rw [wrow_off (by decide)]; exact hn) hn6 (a (14 + i))
    rw [wrow_row, wrow_off (show 93 ≠ 103 by decide)] at hl
    show f_X6_floats_l2 (f + 1) (nI i) _ = f_X6_floats_l2 f (nI (i + 1)) _
    rw [f_X6_floats_l2, f_X6_floats_h2, wget_def, wrow_off (by decide), hn, if_neg h6]
    simp only [jj_14, jj_2, jj_inb (show 14 + i < 26 by omega) (show 26 < 2 ^ 31 by decide), jj_inb (show 2 + i < 26 by omega) (show 26 < 2 ^ 31 by decide), jj_tn (show 14 + i < 2 ^ 31 by omega), jj_tn (show 2 + i < 2 ^ 31 by omega), grd, bnd, wget_def, wrow_row, hl, cal, wset_wrow, f_X6_floats_b92, nI_1]
    generalize liftI (fun j => a (8 + j)) (a 1) (w.1 93) (a (14 + i)) n = y
    by_cases hd : a (2 + i) = -9
    · simp only [hd, if_true]
      rw [← hd, jj_upd_self]
    · unfold mvM
      by_cases h1 : y ≤ 0
      · by_cases h2 : 0 ≤ y
        · by_cases h3 : 0 ≤ a (2 + i) - 0
          · by_cases h4 : a (2 + i) - 0 ≤ 10
            · simp only [hd, h1, h2, h3, h4, if_true, if_false]
            · simp only [hd, h1, h2, h3, h4, if_true, if_false]
          · simp only [hd, h1, h2, h3, if_true, if_false]
        · by_cases h3 : 0 ≤ a (2 + i) - (-1)
          · by_cases h4 : a (2 + i) - (-1) ≤ 10
            · simp only [hd, h1, h2, h3, h4, if_true, if_false]
            · simp only [hd, h1, h2, h3, h4, if_true, if_false]
          · simp only [hd, h1, h2, h3, if_true, if_false]
      · by_cases h3 : 0 ≤ a (2 + i) - 1
        · by_cases h4 : a (2 + i) - 1 ≤ 10
          · simp only [hd, h1, h3, h4, if_true, if_false]
          · simp only [hd, h1, h3, h4, if_true, if_false]
        · simp only [hd, h1, h3, if_true, if_false]) (by
    intro f a
    show f_X6_floats_l2 (f + 1) (nI n) _ = _
    rw [f_X6_floats_l2, f_X6_floats_h2, wget_def, wrow_off (by decide), hn, if_pos (nI_le (Nat.le_refl n) (by omega))]) n 0 (w.1 103) 300 (by omega) (by omega)
  rw [itr_pwb (o := 2) (N := 6) (F := fun d a => if a (2 + d) = -9 then a (2 + d) else mvM (a (2 + d)) (liftI (fun j => a (8 + j)) (a 1) (w.1 93) (a (14 + d)) n)) (fun d a hd ha => by
    have e : (fun j => a (8 + j)) = fun j => w.1 103 (8 + j) := funext fun j => ha (8 + j) (by omega)
    rw [ha (2 + d) (by omega), ha 1 (by omega), ha (14 + d) (by omega), e]) n hn6] at h
  simp only [wrow_self] at h
  exact h
theorem lays_eq (hn : w.1 92 0 = nI n) (hn6 : n ≤ 6) (set : Int32) : f_X6_lays set w = some ((), wrow w 103 (mLay n set (w.1 103))) := by
  have h := jj_loop0 (F := fun f x a => f_X6_lays_l2 f set x (wrow w 103 a)) (s := fun d a => upd a (14 + d) (if (set >>> (nI d &&& 31)) &&& 1 = 0 then a (14 + d) else set)) (ex := fun a => some ((), wrow w 103 a)) (N := n) (by
    intro f i a hi
    have h6 : ¬ nI n ≤ nI i := nI_ge hi (by omega)
    show f_X6_lays_l2 (f + 1) set (nI i) _ = f_X6_lays_l2 f set (nI (i + 1)) _
    rw [f_X6_lays_l2, f_X6_lays_h2, wget_def, wrow_off (by decide), hn, if_neg h6, has_eq]
    simp only [cal, jj_14, jj_inb (show 14 + i < 26 by omega) (show 26 < 2 ^ 31 by decide), jj_tn (show 14 + i < 2 ^ 31 by omega), grd, bnd, wget_def, wrow_row, wset_wrow, nI_1]
    by_cases hd : (set >>> (nI i &&& 31)) &&& 1 = 0
    · simp [hd]
    · simp [hd]) (by
    intro f a
    show f_X6_lays_l2 (f + 1) set (nI n) _ = _
    rw [f_X6_lays_l2, f_X6_lays_h2, wget_def, wrow_off (by decide), hn, if_pos (nI_le (Nat.le_refl n) (by omega))]) n 0 (w.1 103) 300 (by omega) (by omega)
  rw [itr_pwb (o := 14) (N := 6) (F := fun d a => if (set >>> (nI d &&& 31)) &&& 1 = 0 then a (14 + d) else set) (fun d a hd ha => by rw [ha (14 + d) (by omega)]) n hn6] at h
  simp only [wrow_self] at h
  exact h
theorem mstick_eq (hn : w.1 92 0 = nI n) (hn6 : n ≤ 6) : f_X6_stick w = some ((), wrow w 103 (mSt n (w.1 92 5) (w.1 103))) := by
  have h := jj_loop0 (F := fun f x a => f_X6_stick_l2 f x (wrow w 103 a)) (s := fun d r => itr (mSt1 n (w.1 92 5) d) (d + 1) (n - (d + 1)) r) (ex := fun a => some ((), wrow w 103 a)) (N := n) (by
    intro f d a hd
    have h6 : ¬ nI n ≤ nI d := nI_ge hd (by omega)
    show f_X6_stick_l2 (f + 1) (nI d) _ = f_X6_stick_l2 f (nI (d + 1)) _
    rw [f_X6_stick_l2, f_X6_stick_h2, wget_def, wrow_off (by decide), hn, if_neg h6]
    simp only [bnd, nI_1]
    exact jj_loop0 (F := fun f2 x a => f_X6_stick_l14 (f_X6_stick_l2 f) f2 (nI d) x (wrow w 103 a)) (s := mSt1 n (w.1 92 5) d) (ex := fun a => f_X6_stick_l2 f (nI (d + 1)) (wrow w 103 a)) (N := n) (by
      intro f2 e a he
      have h6 : ¬ nI n ≤ nI e := nI_ge he (by omega)
      have hl : ∀ set, f_X6_lays set (wrow w 103 a) = some ((), wrow w 103 (mLay n set a)) := fun set => by
        rw [lays_eq (w := wrow w 103 a) (n := n) (by rw [wrow_off (by decide)]; exact hn) hn6 set, wrow_row, wrow_wrow]
      show f_X6_stick_l14 (f_X6_stick_l2 f) (f2 + 1) (nI d) (nI e) _ = f_X6_stick_l14 (f_X6_stick_l2 f) f2 (nI d) (nI (e + 1)) _
      rw [f_X6_stick_l14, f_X6_stick_h14, wget_def, wrow_off (by decide), hn, if_neg h6]
      simp only [jj_8, jj_2, jj_14, jj_inb (show 8 + d < 26 by omega) (show 26 < 2 ^ 31 by decide), jj_inb (show 8 + e < 26 by omega) (show 26 < 2 ^ 31 by decide), jj_inb (show 2 + d < 26 by omega) (show 26 < 2 ^ 31 by decide), jj_inb (show 2 + e < 26 by omega) (show 26 < 2 ^ 31 by decide), jj_inb (show 14 + d < 26 by omega) (show 26 < 2 ^ 31 by decide), jj_inb (show 14 + e < 26 by omega) (show 26 < 2 ^ 31 by decide), jj_tn (show 8 + d < 2 ^ 31 by omega), jj_tn (show 2 + d < 2 ^ 31 by omega), jj_tn (show 14 + d < 2 ^ 31 by omega), jj_tn (show 8 + e < 2 ^ 31 by omega), jj_tn (show 2 + e < 2 ^ 31 by omega), jj_tn (show 14 + e < 2 ^ 31 by omega), grd, bnd, wget_def, wrow_row, wrow_off (w := w) (r := a) (show 92 ≠ 103 by decide), in_eq, has_eq, hl, cal, f_X6_stick_b114, f_X6_stick_b145, nI_1, if_true]
      by_cases h1 : a (2 + d) = a (2 + e)
      · by_cases h2 : ¬ a (2 + d) < 1 ∧ ¬ 9 < a (2 + d)
        · by_cases h3 : ¬ a (8 + d) - a (8 + e) < -w.1 92 5 ∧ ¬ w.1 92 5 < a (8 + d) - a (8 + e)
          · by_cases h4 : (a (14 + d) >>> (nI e &&& 31)) &&& 1 = 0
            · have hp : stickM a (w.1 92 5) d e := ⟨h1, h2, h3, h4⟩
              rw [if_pos h1, if_pos h2, if_neg (by decide), if_pos h3, if_neg (by decide), if_pos h4]
              simp [mSt1, hp]
            · have hp : ¬ stickM a (w.1 92 5) d e := fun q => h4 q.2.2.2
              rw [if_pos h1, if_pos h2, if_neg (by decide), if_pos h3, if_neg (by decide), if_neg h4]
              simp [mSt1, hp]
          · have hp : ¬ stickM a (w.1 92 5) d e := fun q => h3 q.2.2.1
            rw [if_pos h1, if_pos h2, if_neg (by decide), if_neg h3]
            simp [mSt1, hp]
        · have hp : ¬ stickM a (w.1 92 5) d e := fun q => h2 q.2.1
          rw [if_pos h1, if_neg h2]
          simp [mSt1, hp]
      · have hp : ¬ stickM a (w.1 92 5) d e := fun q => h1 q.1
        rw [if_neg h1]
        simp [mSt1, hp]) (by
      intro f2 a
      show f_X6_stick_l14 (f_X6_stick_l2 f) (f2 + 1) (nI d) (nI n) _ = _
      rw [f_X6_stick_l14, f_X6_stick_h14, wget_def, wrow_off (by decide), hn, if_pos (nI_le (Nat.le_refl n) (by omega))]
      simp only [bnd, nI_1]) (n - (d + 1)) (d + 1) a 300 (by omega) (by omega)) (by
    intro f a
    show f_X6_stick_l2 (f + 1) (nI n) _ = _
    rw [f_X6_stick_l2, f_X6_stick_h2, wget_def, wrow_off (by decide), hn, if_pos (nI_le (Nat.le_refl n) (by omega))]) n 0 (w.1 103) 300 (by omega) (by omega)
  simp only [wrow_self] at h
  exact h
theorem mrises_eq (hn : w.1 92 0 = nI n) (hn6 : n ≤ 6) : f_X6_goesBy_l24 300 0 w = some ((), wrow w 103 (mRs n (w.1 103))) := by
  have h := jj_loop0 (F := fun f x a => f_X6_goesBy_l24 f x (wrow w 103 a)) (s := fun d a => upd a (20 + d) (if a (2 + d) = 0 ∧ a (20 + d) = -9 then a 0 else a (20 + d))) (ex := fun a => some ((), wrow w 103 a)) (N := n) (by
    intro f i a hi
    have h6 : ¬ nI n ≤ nI i := nI_ge hi (by omega)
    show f_X6_goesBy_l24 (f + 1) (nI i) _ = f_X6_goesBy_l24 f (nI (i + 1)) _
    rw [f_X6_goesBy_l24, f_X6_goesBy_h24, wget_def, wrow_off (by decide), hn, if_neg h6]
    simp only [jj_20, jj_2, jj_inb (show 20 + i < 26 by omega) (show 26 < 2 ^ 31 by decide), jj_inb (show 2 + i < 26 by omega) (show 26 < 2 ^ 31 by decide), jj_tn (show 20 + i < 2 ^ 31 by omega), jj_tn (show 2 + i < 2 ^ 31 by omega), grd, bnd, wget_def, wrow_row, wset_wrow, nI_1]
    by_cases hd : a (2 + i) = 0
    · by_cases h2 : a (20 + i) = -9
      · simp [hd, h2]
      · simp [hd, h2]
    · simp [hd]) (by
    intro f a
    show f_X6_goesBy_l24 (f + 1) (nI n) _ = _
    rw [f_X6_goesBy_l24, f_X6_goesBy_h24, wget_def, wrow_off (by decide), hn, if_pos (nI_le (Nat.le_refl n) (by omega))]) n 0 (w.1 103) 300 (by omega) (by omega)
  rw [itr_pwb (o := 20) (N := 6) (F := fun d a => if a (2 + d) = 0 ∧ a (20 + d) = -9 then a 0 else a (20 + d)) (fun d a hd ha => by rw [ha (2 + d) (by omega), ha (20 + d) (by omega), ha 0 (by omega)]) n hn6] at h
  simp only [wrow_self] at h
  exact h
theorem goesBy_eq (hn : w.1 92 0 = nI n) (hn6 : n ≤ 6) : f_X6_goesBy w = some ((), wrow w 103 (minM n (w.1 92 5) (w.1 93) (w.1 94) (w.1 103))) := by
  have c92 : ∀ r, (wrow w 103 r).1 92 = w.1 92 := fun r => wrow_off (by decide)
  have c93 : ∀ r, (wrow w 103 r).1 93 = w.1 93 := fun r => wrow_off (by decide)
  have c94 : ∀ r, (wrow w 103 r).1 94 = w.1 94 := fun r => wrow_off (by decide)
  have s1 : ∀ r, f_X6_swell (wrow w 103 r) = some ((), wrow w 103 (mSw n (w.1 94) r)) := fun r => by
    rw [mswell_eq (n := n) (by rw [c92]; exact hn) hn6, wrow_row, wrow_wrow, c94]
  have s2 : ∀ r, f_X6_floats (wrow w 103 r) = some ((), wrow w 103 (mFl n (w.1 93) r)) := fun r => by
    rw [floats_eq (n := n) (by rw [c92]; exact hn) hn6, wrow_row, wrow_wrow, c93]
  have s3 : ∀ r, f_X6_stick (wrow w 103 r) = some ((), wrow w 103 (mSt n (w.1 92 5) r)) := fun r => by
    rw [mstick_eq (n := n) (by rw [c92]; exact hn) hn6, wrow_row, wrow_wrow, c92]
  have s4 : ∀ r, f_X6_goesBy_l24 300 0 (wrow w 103 r) = some ((), wrow w 103 (mRs n r)) := fun r => by
    rw [mrises_eq (n := n) (by rw [c92]; exact hn) hn6, wrow_row, wrow_wrow]
  unfold f_X6_goesBy f_X6_goesBy_b0
  simp only [bnd, wset_row2, wget_def, s1, cal, s2, s3, s4]
  rfl
end MD
