/-! PURE: the fewest pots -/
theorem size_c (set : Int32) (v : Wd) : f_X4_sizeOf 14 set v = some (sumI (v.1 16) set 6, v) := by
  rw [f_X4_sizeOf, f_X4_sizeOf_b0, jj_bnd, jj_bnd]
  exact jj_loop0 (F := fun f x a => f_X4_sizeOf_l4 14 f set a x v) (s := fun d acc => if (set >>> (nI d &&& 31)) &&& 1 = 0 then acc else acc + v.1 16 d) (ex := fun a => some (a, v)) (N := 6) (by
    intro f i a hi
    have h6 : ¬ (6 : Int32) ≤ nI i := nI_ge hi (by decide)
    show f_X4_sizeOf_l4 14 (f + 1) set a (nI i) v = f_X4_sizeOf_l4 14 f set _ (nI (i + 1)) v
    rw [f_X4_sizeOf_l4, f_X4_sizeOf_h4, if_neg h6]
    by_cases hb : (set >>> (nI i &&& 31)) &&& 1 = 0
    · rw [if_pos hb, if_pos hb, f_X4_sizeOf_b27, jj_bnd, nI_1]
    · rw [if_neg hb, if_neg hb, jj_grd (jj_i6 hi), jj_bnd, f_X4_sizeOf_b27, jj_bnd, nI_1, jj_tn (show i < 2 ^ 31 by omega), wget_def]) (by
    intro f a
    show f_X4_sizeOf_l4 14 (f + 1) set a (nI 6) v = _
    rw [f_X4_sizeOf_l4, f_X4_sizeOf_h4, if_pos (by decide)]) 6 0 0 300 rfl (by decide)
theorem size_m {n : Nat} {u : Wd} (hn : n ≤ 6) (h0 : u.1 92 0 = nI n) (set : Int32) : f_X6_sizeOf set u = some (sumI (fun d => u.1 96 (8 + d)) set n, u) := by
  rw [f_X6_sizeOf, f_X6_sizeOf_b0, jj_bnd, jj_bnd]
  exact jj_loop0 (F := fun f x a => f_X6_sizeOf_l4 f set a x u) (s := fun d acc => if (set >>> (nI d &&& 31)) &&& 1 = 0 then acc else acc + u.1 96 (8 + d)) (ex := fun a => some (a, u)) (N := n) (by
    intro f i a hi
    show f_X6_sizeOf_l4 (f + 1) set a (nI i) u = f_X6_sizeOf_l4 f set _ (nI (i + 1)) u
    rw [f_X6_sizeOf_l4, f_X6_sizeOf_h4, wget_def, h0, if_neg (nI_ge hi (by omega)), has_eq, jj_cal]
    by_cases hb : (set >>> (nI i &&& 31)) &&& 1 = 0
    · rw [if_pos hb, if_pos hb, if_pos (show (0 : Int32) = 0 from rfl), jj_bnd, jj_bnd, nI_1, Int32.add_zero]
    · rw [if_neg hb, if_neg hb, if_neg jj_ne10, jj_8, jj_grd (jj_i26 (show 8 + i < 26 by omega)), jj_bnd, jj_bnd, nI_1, jj_tn (show 8 + i < 2 ^ 31 by omega), wget_def]) (by
    intro f a
    show f_X6_sizeOf_l4 (f + 1) set a (nI n) u = _
    rw [f_X6_sizeOf_l4, f_X6_sizeOf_h4, wget_def, h0, if_pos (nI_le (Nat.le_refl n) (by omega))]) n 0 0 300 (by omega) (by omega)
/-- f is a first pot of x -/
def okF (fit : Nat → Bool) (x f : Nat) : Prop := 1 ≤ f ∧ f ≤ x ∧ f &&& x = f ∧ fit f = true
def cvS (fit : Nat → Bool) (T : Nat → Nat) (x f b : Nat) : Nat := if (decide (f &&& x = f) && fit f) = true then min b (1 + T (x - f)) else b
def cv (fit : Nat → Bool) (T : Nat → Nat) (x : Nat) : Nat := itr (cvS fit T x) 1 x 6
def tb (fit : Nat → Bool) : Nat → Nat → Nat
  | 0 => fun _ => 0
  | x + 1 => fun j => if j = x + 1 then cv fit (tb fit x) (x + 1) else tb fit x j
def TC (fit : Nat → Bool) (j : Nat) : Nat := tb fit j j
theorem tb_le (fit : Nat → Bool) : ∀ x j, j ≤ x → tb fit x j = TC fit j
  | 0, j, h => by
    obtain rfl : j = 0 := by omega
    rfl
  | x + 1, j, h => by
    by_cases e : j = x + 1
    · subst e; rfl
    · show (if j = x + 1 then cv fit (tb fit x) (x + 1) else tb fit x j) = _
      rw [if_neg e]; exact tb_le fit x j (by omega)
theorem cv_cong (fit : Nat → Bool) {T U : Nat → Nat} {x : Nat} (h : ∀ j, j < x → T j = U j) : cv fit T x = cv fit U x := by
  unfold cv
  refine itr_cong x 1 6 (fun f b h1 h2 => ?_)
  unfold cvS
  rw [h (x - f) (by omega)]
theorem TC_s (fit : Nat → Bool) (x : Nat) : TC fit (x + 1) = cv fit (TC fit) (x + 1) := by
  show (if x + 1 = x + 1 then cv fit (tb fit x) (x + 1) else tb fit x (x + 1)) = _
  rw [if_pos rfl]
  exact cv_cong fit (fun j hj => tb_le fit x j (by omega))
def minP (fit : Nat → Bool) (T : Nat → Nat) (x c b v : Nat) : Prop := v ≤ b ∧ (∀ f, okF fit x f → f ≤ c → v ≤ 1 + T (x - f)) ∧ (v = b ∨ ∃ f, okF fit x f ∧ v = 1 + T (x - f))
theorem cv_min (fit : Nat → Bool) (T : Nat → Nat) (x : Nat) : minP fit T x x 6 (cv fit T x) := by
  have h : minP fit T x (1 + x - 1) 6 (itr (cvS fit T x) 1 x 6) := itr_inv (P := fun i v => minP fit T x (i - 1) 6 v) x 1 6 ⟨Nat.le_refl _, fun f h1 h2 => by have := h1.1; omega, Or.inl rfl⟩ (fun f b h1 h2 hP => by
    obtain ⟨a1, a2, a3⟩ := hP
    have e : f + 1 - 1 = f := by omega
    rw [e]
    unfold cvS
    by_cases q : (decide (f &&& x = f) && fit f) = true
    · rw [if_pos q]
      have hq : f &&& x = f ∧ fit f = true := by simpa using q
      have hok : okF fit x f := ⟨h1, by omega, hq.1, hq.2⟩
      refine ⟨by omega, fun g g1 g2 => ?_, ?_⟩
      · by_cases z : g = f
        · subst z; omega
        · have := a2 g g1 (by omega); omega
      · by_cases z : b ≤ 1 + T (x - f)
        · rw [Nat.min_eq_left z]; exact a3
        · rw [Nat.min_eq_right (by omega)]; exact Or.inr ⟨f, hok, rfl⟩
    · rw [if_neg q]
      refine ⟨a1, fun g g1 g2 => ?_, a3⟩
      by_cases z : g = f
      · subst z
        exact absurd (by simp [g1.2.2.1, g1.2.2.2]) q
      · exact a2 g g1 (by omega))
  rw [show 1 + x - 1 = x by omega] at h
  exact h
theorem one_all : ∀ x, x < 64 → 1 ≤ x → ∃ e, e < 6 ∧ (2 ^ e &&& x = 2 ^ e ∧ 2 ^ e ≤ x ∧ popc (x - 2 ^ e) + 1 = popc x) := by decide +kernel
theorem min_same {fit : Nat → Bool} {T : Nat → Nat} {n x v : Nat} (hn : n ≤ 6) (hx1 : 1 ≤ x) (hx : x < 2 ^ n) (h1 : ∀ e, e < n → fit (2 ^ e) = true) (hT : ∀ j, j < x → T j ≤ popc j) (hv : minP fit T x x 99 v) : v = cv fit T x ∧ v ≤ popc x := by
  have hx64 : x < 64 := lt64 hn hx
  obtain ⟨c1, c2, c3⟩ := cv_min fit T x
  obtain ⟨v1, v2, v3⟩ := hv
  obtain ⟨e, e1, e2, e3, e4⟩ := one_all x hx64 hx1
  have hen : e < n := by
    rcases Nat.lt_or_ge e n with q | q
    · exact q
    · have := Nat.pow_le_pow_right (show 0 < 2 by decide) q; omega
  have hok : okF fit x (2 ^ e) := ⟨Nat.one_le_two_pow, e3, e2, h1 e hen⟩
  have hp : 0 < 2 ^ e := Nat.pow_pos (by decide)
  have hTe := hT (x - 2 ^ e) (by omega)
  have hc := c2 _ hok e3
  have hvv := v2 _ hok e3
  have h6 := popc_le x hx64
  refine ⟨?_, by omega⟩
  have le1 : cv fit T x ≤ v := by
    rcases v3 with q | ⟨f, q1, q2⟩
    · omega
    · have := c2 f q1 q1.2.1; omega
  have le2 : v ≤ cv fit T x := by
    rcases c3 with q | ⟨f, q1, q2⟩
    · omega
    · have := v2 f q1 q1.2.1; omega
  omega
theorem TC_le {fit : Nat → Bool} {n : Nat} (hn : n ≤ 6) (h1 : ∀ e, e < n → fit (2 ^ e) = true) : ∀ x, x < 2 ^ n → TC fit x ≤ popc x := by
  intro x
  induction x using Nat.strongRecOn with
  | ind x ih =>
    intro hx
    cases x with
    | zero => exact Nat.le_refl _
    | succ x =>
      rw [TC_s]
      obtain ⟨c1, c2, c3⟩ := cv_min fit (TC fit) (x + 1)
      obtain ⟨e, e1, e2, e3, e4⟩ := one_all (x + 1) (lt64 hn hx) (by omega)
      have hen : e < n := by
        rcases Nat.lt_or_ge e n with q | q
        · exact q
        · have := Nat.pow_le_pow_right (show 0 < 2 by decide) q; omega
      have hp : 0 < 2 ^ e := Nat.pow_pos (by decide)
      have := c2 _ ⟨Nat.one_le_two_pow, e3, e2, h1 e hen⟩ e3
      have := ih (x + 1 - 2 ^ e) (by omega) (by omega)
      omega
theorem sub_facts : ∀ x, x < 64 → ∀ f, f < 64 → ((f &&& (63 ^^^ x) = 0) ↔ f &&& x = f) ∧ (f &&& x = f → x &&& (63 ^^^ f) = x - f ∧ f ≤ x) := by decide +kernel
theorem next_a : ∀ x, x < 64 → ∀ c, c < 64 → (c &&& x = c ∧ 1 ≤ c) → ((c - 1) &&& x < c ∧ ((c - 1) &&& x) &&& x = (c - 1) &&& x) := by decide +kernel
def nextChk : Bool := (List.range 64).all fun x => (List.range 64).all fun c => if c &&& x = c then (List.range c).all fun f => if f &&& x = f then decide (f ≤ (c - 1) &&& x) else true else true
theorem nextChk_ok : nextChk = true := by decide +kernel
theorem next_b (x : Nat) (hx : x < 64) (c : Nat) (hc : c < 64) (f : Nat) (_ : f < 64) (h : f < c ∧ c &&& x = c ∧ f &&& x = f) : f ≤ (c - 1) &&& x := by
  have h1 := List.all_eq_true.mp (List.all_eq_true.mp nextChk_ok x (List.mem_range.mpr hx)) c (List.mem_range.mpr hc)
  rw [if_pos h.2.1] at h1
  have h2 := List.all_eq_true.mp h1 f (List.mem_range.mpr h.1)
  rw [if_pos h.2.2] at h2
  exact of_decide_eq_true h2
theorem imin_nI {a b : Nat} (ha : a < 2 ^ 31) (hb : b < 2 ^ 31) : imin (nI a) (nI b) = nI (min a b) := by
  unfold imin
  by_cases h : b < a
  · first
      | rw [if_pos (nI_lt h ha), Nat.min_eq_right (by omega)]
      | rw [if_neg (jj_le_nlt (nI_le (show b ≤ a by omega) ha)), Nat.min_eq_right (by omega)]
  · by_cases e : a = b
    · subst e
      rw [Nat.min_self]
      split <;> rfl
    · first
        | rw [if_neg (jj_le_nlt (nI_le (show a ≤ b by omega) hb)), Nat.min_eq_left (by omega)]
        | rw [if_pos (nI_lt (show a < b by omega) hb), Nat.min_eq_left (by omega)]
theorem potsOf_c {n x : Nat} {w : Wd} {fit : Nat → Bool} {T : Nat → Nat} (hn : n ≤ 6) (hx1 : 1 ≤ x) (hx : x < 2 ^ n) (hfit : ∀ s, s < 2 ^ n → (w.1 4 3 < sumI (w.1 16) (nI s) 6 ↔ fit s = false)) (hr : ∀ j, j < x → w.1 90 j = nI (T j)) (hT : ∀ j, j < x → T j ≤ 99) : f_X5_fewestPotsOf (nI x) w = some (nI (cv fit T x), w) := by
  have hx64 : x < 64 := lt64 hn hx
  rw [f_X5_fewestPotsOf, f_X5_fewestPotsOf_b0, jj_bnd, jj_bnd]
  exact jj_loop (F := fun f y b => f_X5_fewestPotsOf_l5 f (nI x) (nI b) y w) (s := cvS fit T x) (ex := fun b => some (nI b, w)) (N := 1 + x) (fun i b => 1 ≤ i ∧ b ≤ 6) (by
    intro f i b hi hb0
    obtain ⟨hi1, hb⟩ := hb0
    have hstep : cvS fit T x i b ≤ 6 := by unfold cvS; split <;> omega
    refine ⟨?_, by omega, hstep⟩
    show f_X5_fewestPotsOf_l5 (f + 1) (nI x) (nI b) (nI i) w = f_X5_fewestPotsOf_l5 f (nI x) (nI (cvS fit T x i b)) (nI (i + 1)) w
    have hnext : ∀ c, f_X5_fewestPotsOf_b53 (f_X5_fewestPotsOf_l5 f) (nI x) c (nI i) w = f_X5_fewestPotsOf_l5 f (nI x) c (nI (i + 1)) w := fun c => by rw [f_X5_fewestPotsOf_b53, jj_bnd, nI_1]
    obtain ⟨s1, s2⟩ := sub_facts x hx64 i (by omega)
    rw [f_X5_fewestPotsOf_l5, f_X5_fewestPotsOf_h5, if_neg (jj_le_nlt (nI_le (show i ≤ x by omega) (by omega)))]
    unfold cvS
    by_cases q : i &&& x = i
    · obtain ⟨s3, s4⟩ := s2 q
      rw [if_pos ((and_zero (by omega) hx64).mpr (s1.mpr q)), size_c, jj_cal, wget_def]
      cases hf : fit i with
      | false => rw [if_pos ((hfit i (by omega)).mpr hf), hnext, if_neg (by simp)]
      | true =>
        rw [if_neg (fun z => by rw [(hfit i (by omega)).mp z] at hf; cases hf), jj_andnot hx64 (by omega), s3]
        rw [jj_grd (jj_inb (show x - i < 64 by omega) (by decide)), jj_bnd, jj_tn (show x - i < 2 ^ 31 by omega), wget_def, hr (x - i) (by omega), show (1 : Int32) + nI (T (x - i)) = nI (1 + T (x - i)) from nI_add 1 _, imin_nI (by omega) (by have := hT (x - i) (by omega); omega), hnext, if_pos (by simp [q])]
    · rw [if_neg (fun z => q (s1.mp ((and_zero (by omega) hx64).mp z))), hnext, if_neg (by simp [q])]) (by
    intro f b hb
    show f_X5_fewestPotsOf_l5 (f + 1) (nI x) (nI b) (nI (1 + x)) w = _
    rw [f_X5_fewestPotsOf_l5, f_X5_fewestPotsOf_h5, if_pos (nI_lt (show x < 1 + x by omega) (by omega))]) x 1 6 300 (by omega) (by omega) ⟨by omega, by omega⟩
theorem pots_c {n : Nat} {w : Wd} {fit : Nat → Bool} (hn : n ≤ 6) (hfit : ∀ s, s < 2 ^ n → (w.1 4 3 < sumI (w.1 16) (nI s) 6 ↔ fit s = false)) (h1 : ∀ e, e < n → fit (2 ^ e) = true) (h0 : w.1 90 0 = 0) : ∀ (k x f : Nat) (r : Nat → Int32) (b : Int32), x + k = 2 ^ n → 1 ≤ x → k < f → b = nI (TC fit (x - 1)) → (∀ j, j < x → r j = nI (TC fit j)) → r 0 = 0 → ∃ r', f_X5_fewestPots_l56 f (nI (2 ^ n - 1)) b (nI x) (wrow w 90 r) = some (nI (TC fit (2 ^ n - 1)), wrow w 90 r') ∧ r' 0 = 0
  | 0, x, f, r, b, hx, hx1, hf, hb, hr, hr0 => by
    obtain ⟨f, rfl⟩ : ∃ k, f = k + 1 := ⟨f - 1, by omega⟩
    have hp64 : 2 ^ n ≤ 64 := (Nat.pow_le_pow_right (by decide) hn : 2 ^ n ≤ 2 ^ 6)
    refine ⟨r, ?_, hr0⟩
    rw [f_X5_fewestPots_l56, f_X5_fewestPots_h56]
    have e : x - 1 = 2 ^ n - 1 := by omega
    by_cases q : (64 : Int32) ≤ nI x
    · rw [if_pos q, f_X5_fewestPots_b86, hb, e]
    · rw [if_neg q, if_pos (nI_lt (show 2 ^ n - 1 < x by omega) (by omega)), f_X5_fewestPots_b86, hb, e]
  | k + 1, x, f, r, b, hx, hx1, hf, hb, hr, hr0 => by
    obtain ⟨f, rfl⟩ : ∃ k, f = k + 1 := ⟨f - 1, by omega⟩
    have hp64 : 2 ^ n ≤ 64 := (Nat.pow_le_pow_right (by decide) hn : 2 ^ n ≤ 2 ^ 6)
    have hTC : cv fit (TC fit) x = TC fit x := by
      obtain ⟨y, rfl⟩ : ∃ y, x = y + 1 := ⟨x - 1, by omega⟩
      exact (TC_s fit y).symm
    have ho := potsOf_c (n := n) (x := x) (w := wrow w 90 r) (fit := fit) (T := TC fit) hn hx1 (by omega) (fun s hs => by rw [wrow_off (by decide), wrow_off (by decide)]; exact hfit s hs) (fun j hj => by rw [wrow_row]; exact hr j hj) (fun j hj => by
      have := TC_le hn h1 j (by omega)
      have := popc_le j (by omega)
      omega)
    obtain ⟨r', h2, h3⟩ := pots_c hn hfit h1 h0 k (x + 1) f (upd r x (nI (TC fit x))) (nI (TC fit x)) (by omega) (by omega) (by omega) (by rw [Nat.add_sub_cancel]) (fun j hj => by
      rw [jj_upd]
      by_cases z : j = x
      · rw [if_pos z, z]
      · rw [if_neg z]; exact hr j (by omega)) (by rw [jj_upd, if_neg (by omega)]; exact hr0)
    refine ⟨r', ?_, h3⟩
    rw [f_X5_fewestPots_l56, f_X5_fewestPots_h56, if_neg (show ¬ (64 : Int32) ≤ nI x from nI_ge (b := 64) (by omega) (by decide)), if_neg (jj_le_nlt (nI_le (show x ≤ 2 ^ n - 1 by omega) (by omega))), ho, jj_cal, jj_bnd, jj_grd (jj_inb (show x < 64 by omega) (by decide)), jj_bnd, jj_bnd, nI_1, jj_tn (show x < 2 ^ 31 by omega), wset_wrow, hTC]
    exact h2
/-- the first loop of the class: is there a told one that no pot holds -/
theorem single_c {n : Nat} {w : Wd} (hn : n ≤ 6) : ∀ (k e f : Nat), e + k = 6 → k < f → (f_X5_fewestPots_l10 f (nI (2 ^ n - 1)) (nI e) w = f_X5_fewestPots_l56 300 (nI (2 ^ n - 1)) 0 1 w ∧ ∀ j, e ≤ j → j < n → w.1 16 j ≤ w.1 4 3) ∨ (f_X5_fewestPots_l10 f (nI (2 ^ n - 1)) (nI e) w = some (-9, w) ∧ ∃ j, j < n ∧ ¬ w.1 16 j ≤ w.1 4 3)
  | 0, e, f, he, hf => by
    obtain ⟨f, rfl⟩ : ∃ k, f = k + 1 := ⟨f - 1, by omega⟩
    obtain rfl : e = 6 := by omega
    left
    refine ⟨?_, fun j h1 h2 => by omega⟩
    rw [f_X5_fewestPots_l10, f_X5_fewestPots_h10, if_pos (by decide), jj_bnd, jj_bnd]
  | k + 1, e, f, he, hf => by
    obtain ⟨f, rfl⟩ : ∃ k, f = k + 1 := ⟨f - 1, by omega⟩
    have h6 : ¬ (6 : Int32) ≤ nI e := nI_ge (b := 6) (show e < 6 by omega) (by decide)
    have hall : 2 ^ n - 1 < 64 := by
      have := (Nat.pow_le_pow_right (by decide) hn : 2 ^ n ≤ 2 ^ 6)
      have := Nat.one_le_two_pow (n := n)
      omega
    have hbit := jj_bit0 (s := 2 ^ n - 1) (i := e) hall (by omega)
    rw [Nat.testBit_two_pow_sub_one] at hbit
    have hnext : f_X5_fewestPots_b46 (f_X5_fewestPots_l10 f) (nI (2 ^ n - 1)) (nI e) w = f_X5_fewestPots_l10 f (nI (2 ^ n - 1)) (nI (e + 1)) w := by rw [f_X5_fewestPots_b46, jj_bnd, nI_1]
    have ih := single_c hn k (e + 1) f (by omega) (by omega) (w := w)
    rw [f_X5_fewestPots_l10, f_X5_fewestPots_h10, if_neg h6]
    by_cases l : e < n
    · rw [if_neg (fun z => by have := hbit.mp z; simp [l] at this), jj_grd (jj_i6 (show e < 6 by omega)), jj_tn (show e < 2 ^ 31 by omega), wget_def, wget_def]
      by_cases q : w.1 16 e ≤ w.1 4 3
      · rw [if_pos q, hnext]
        rcases ih with ⟨i1, i2⟩ | i
        · left
          refine ⟨i1, fun j h1 h2 => ?_⟩
          by_cases z : j = e
          · rw [z]; exact q
          · exact i2 j (by omega) h2
        · exact Or.inr i
      · rw [if_neg q]
        exact Or.inr ⟨rfl, e, l, q⟩
    · rw [if_pos (hbit.mpr (by simp [l])), hnext]
      rcases ih with ⟨i1, i2⟩ | i
      · exact Or.inl ⟨i1, fun j h1 h2 => by omega⟩
      · exact Or.inr i
/-- the reference's loop over the first pots of x -/
theorem in_m {n x : Nat} {u : Wd} {fit : Nat → Bool} {T : Nat → Nat} (hn : n ≤ 6) (h0 : u.1 92 0 = nI n) (hx1 : 1 ≤ x) (hx : x < 2 ^ n) (hfit : ∀ s, s < 2 ^ n → (u.1 92 6 < sumI (fun d => u.1 96 (8 + d)) (nI s) n ↔ fit s = false)) (hT : ∀ j, j < x → T j ≤ 99) (a : Int32) (K : Int32 → Int32 → Wd → Option (Int32 × Wd)) : ∀ (c f b : Nat) (r : Nat → Int32), c &&& x = c → c ≤ x → c < f → (∀ j, j < x → r j = nI (T j)) → r x = nI b → b ≤ 99 → ∃ r' v, f_X6_pots_l33 K f a (nI x) (nI c) (wrow u 104 r) = K a (nI (x + 1)) (wrow u 104 r') ∧ (∀ j, j < x → r' j = nI (T j)) ∧ r' x = nI v ∧ v ≤ 99 ∧ minP fit T x c b v := by
  intro c
  have hx64 : x < 64 := lt64 hn hx
  induction c using Nat.strongRecOn with
  | ind c ih =>
    intro f b r hc hcx hf hr hrx hb
    obtain ⟨f, rfl⟩ : ∃ k, f = k + 1 := ⟨f - 1, by omega⟩
    by_cases c0 : c = 0
    · subst c0
      refine ⟨r, b, ?_, hr, hrx, hb, Nat.le_refl _, fun g g1 g2 => by have := g1.1; omega, Or.inl rfl⟩
      rw [f_X6_pots_l33, f_X6_pots_h33, if_pos (show nI 0 ≤ 0 by decide), jj_bnd, nI_1]
    · obtain ⟨n1, n2⟩ := next_a x hx64 c (by omega) ⟨hc, by omega⟩
      have hcn : (nI c - (1 : Int32)) &&& nI x = nI ((c - 1) &&& x) := by rw [show nI c - (1 : Int32) = nI (c - 1) from nI_sub (b := 1) (by omega), jj_and]
      have hskip : ∀ r2, f_X6_pots_b72 K (f_X6_pots_l33 K f) a (nI x) (nI c) (wrow u 104 r2) = f_X6_pots_l33 K f a (nI x) (nI ((c - 1) &&& x)) (wrow u 104 r2) := fun r2 => by
        rw [f_X6_pots_b72, jj_bnd, if_pos (show (0 : Int32) = 0 from rfl), jj_grd (jj_inb hx64 (by decide)), jj_grd (jj_inb hx64 (by decide)), jj_bnd, jj_bnd, hcn, jj_tn (show x < 2 ^ 31 by omega), wget_def, wrow_row, wset_wrow, jj_upd_self]
      have hsz := size_m (u := wrow u 104 r) (n := n) hn (by rw [wrow_off (by decide)]; exact h0) (nI c)
      rw [wrow_off (show 96 ≠ 104 by decide)] at hsz
      have hsub : nI x - nI c = nI (x - c) := nI_sub hcx
      -- the rest of the loop from here with b2
      have rest : ∀ b2 r2, b2 ≤ b → (∀ j, j < x → r2 j = nI (T j)) → r2 x = nI b2 → b2 ≤ 99 → (fit c = true → b2 ≤ 1 + T (x - c)) → (b2 = b ∨ (okF fit x c ∧ b2 = 1 + T (x - c))) → ∃ r' v, f_X6_pots_l33 K f a (nI x) (nI ((c - 1) &&& x)) (wrow u 104 r2) = K a (nI (x + 1)) (wrow u 104 r') ∧ (∀ j, j < x → r' j = nI (T j)) ∧ r' x = nI v ∧ v ≤ 99 ∧ minP fit T x c b v := by
        intro b2 r2 k1 k2 k3 k4 k5 k6
        obtain ⟨r', v, a1, a2, a3, a4, a5, a6, a7⟩ := ih ((c - 1) &&& x) n1 f b2 r2 n2 (by omega) (by omega) k2 k3 k4
        refine ⟨r', v, a1, a2, a3, a4, by omega, fun g g1 g2 => ?_, ?_⟩
        · by_cases z : g = c
          · subst z
            have := k5 g1.2.2.2; omega
          · have hg : g ≤ (c - 1) &&& x := next_b x hx64 c (by omega) g (by omega) ⟨by omega, hc, g1.2.2.1⟩
            exact a6 g g1 hg
        · rcases a7 with z | z
          · rcases k6 with q | ⟨q1, q2⟩
            · exact Or.inl (by omega)
            · exact Or.inr ⟨c, q1, by omega⟩
          · exact Or.inr z
      cases hfc : fit c with
      | false =>
        obtain ⟨r', v, a1, a2⟩ := rest b r (Nat.le_refl _) hr hrx hb (fun z => by rw [hfc] at z; cases z) (Or.inl rfl)
        refine ⟨r', v, ?_, a2⟩
        rw [f_X6_pots_l33, f_X6_pots_h33, if_neg (show ¬ nI c ≤ 0 from nI_ge (a := 0) (b := c) (by omega) (by omega)), hsz, jj_cal, wget_def, wrow_off (show 92 ≠ 104 by decide), if_pos ((hfit c (by omega)).mpr hfc), hskip, a1]
      | true =>
        have hTc := hT (x - c) (by omega)
        have hrc := hr (x - c) (by omega)
        have hnf : ¬ u.1 92 6 < sumI (fun d => u.1 96 (8 + d)) (nI c) n := fun z => by rw [(hfit c (by omega)).mp z] at hfc; cases hfc
        by_cases hle : b ≤ T (x - c) + 1
        · obtain ⟨r', v, a1, a2⟩ := rest b r (Nat.le_refl _) hr hrx hb (fun _ => by omega) (Or.inl rfl)
          refine ⟨r', v, ?_, a2⟩
          rw [f_X6_pots_l33, f_X6_pots_h33, if_neg (show ¬ nI c ≤ 0 from nI_ge (a := 0) (b := c) (by omega) (by omega)), hsz, jj_cal, wget_def, wrow_off (show 92 ≠ 104 by decide), if_neg hnf, hsub, jj_grd (jj_inb (show x - c < 64 by omega) (by decide)), jj_grd (jj_inb hx64 (by decide)), jj_tn (show x < 2 ^ 31 by omega), jj_tn (show x - c < 2 ^ 31 by omega), wget_def, wget_def, wrow_row, hrx, hrc, nI_1, if_pos (nI_le hle (by omega)), hskip, a1]
        · obtain ⟨r', v, a1, a2⟩ := rest (T (x - c) + 1) (upd r x (nI (T (x - c) + 1))) (by omega) (fun j hj => by rw [jj_upd, if_neg (by omega)]; exact hr j hj) (by rw [jj_upd, if_pos rfl]) (by omega) (fun _ => by omega) (Or.inr ⟨⟨by omega, hcx, hc, hfc⟩, by omega⟩)
          refine ⟨r', v, ?_, a2⟩
          rw [f_X6_pots_l33, f_X6_pots_h33, if_neg (show ¬ nI c ≤ 0 from nI_ge (a := 0) (b := c) (by omega) (by omega)), hsz, jj_cal, wget_def, wrow_off (show 92 ≠ 104 by decide), if_neg hnf, hsub, jj_grd (jj_inb (show x - c < 64 by omega) (by decide)), jj_grd (jj_inb hx64 (by decide)), jj_tn (show x < 2 ^ 31 by omega), jj_tn (show x - c < 2 ^ 31 by omega), wget_def, wget_def, wrow_row, hrx, hrc, nI_1, if_neg (nI_ge (show T (x - c) + 1 < b by omega) (by omega)), jj_bnd, if_neg jj_ne10, jj_grd (jj_inb (show x - c < 64 by omega) (by decide)), jj_grd (jj_inb hx64 (by decide)), jj_bnd, jj_bnd, hcn, wset_wrow, a1]
/-- the reference's table, with a fact Q about each of its places -/
theorem pots_m {n : Nat} {u : Wd} {fit : Nat → Bool} (hn : n ≤ 6) (h0 : u.1 92 0 = nI n) (hfit : ∀ s, s < 2 ^ n → (u.1 92 6 < sumI (fun d => u.1 96 (8 + d)) (nI s) n ↔ fit s = false)) (Q : Nat → Nat → Prop) (hQ : ∀ (x : Nat) (T : Nat → Nat) (v : Nat), 1 ≤ x → x < 2 ^ n → (∀ j, j < x → T j ≤ 99 ∧ Q j (T j)) → v ≤ 99 → minP fit T x x 99 v → Q x v) : ∀ (k x f : Nat) (r : Nat → Int32), x + k = 2 ^ n → 1 ≤ x → k < f → (∃ T : Nat → Nat, ∀ j, j < x → r j = nI (T j) ∧ T j ≤ 99 ∧ Q j (T j)) → ∃ r' t, f_X6_pots_l18 f (nI (2 ^ n - 1)) (nI x) (wrow u 104 r) = some (if t = 99 then -9 else nI t, wrow u 104 r') ∧ t ≤ 99 ∧ Q (2 ^ n - 1) t
  | 0, x, f, r, hx, hx1, hf, hT => by
    obtain ⟨f, rfl⟩ : ∃ k, f = k + 1 := ⟨f - 1, by omega⟩
    obtain ⟨T, hT⟩ := hT
    have hp64 : 2 ^ n ≤ 64 := (Nat.pow_le_pow_right (by decide) hn : 2 ^ n ≤ 2 ^ 6)
    obtain ⟨a1, a2, a3⟩ := hT (2 ^ n - 1) (by omega)
    refine ⟨r, T (2 ^ n - 1), ?_, a2, a3⟩
    rw [f_X6_pots_l18, f_X6_pots_h18, if_pos (nI_lt (show 2 ^ n - 1 < x by omega) (by omega)), jj_grd (jj_inb (show 2 ^ n - 1 < 64 by omega) (by decide)), jj_grd (jj_inb (show 2 ^ n - 1 < 64 by omega) (by decide)), jj_tn (show 2 ^ n - 1 < 2 ^ 31 by omega), wget_def, wrow_row, a1]
    by_cases q : T (2 ^ n - 1) = 99
    · rw [if_pos (show nI (T (2 ^ n - 1)) = 99 by rw [q]; rfl), if_pos q]
    · rw [if_neg (show ¬ nI (T (2 ^ n - 1)) = 99 from fun z => q ((nI_eq (b := 99) (by omega) (by decide)).mp z)), if_neg q]
  | k + 1, x, f, r, hx, hx1, hf, hT => by
    obtain ⟨f, rfl⟩ : ∃ k, f = k + 1 := ⟨f - 1, by omega⟩
    obtain ⟨T, hT⟩ := hT
    have hp64 : 2 ^ n ≤ 64 := (Nat.pow_le_pow_right (by decide) hn : 2 ^ n ≤ 2 ^ 6)
    obtain ⟨r1, v, b1, b2, b3, b4, b5⟩ := in_m (x := x) (u := u) (fit := fit) (T := T) hn h0 hx1 (by omega) hfit (fun j hj => (hT j hj).2.1) (nI (2 ^ n - 1)) (f_X6_pots_l18 f) x 300 99 (upd r x (nI 99)) (Nat.and_self x) (Nat.le_refl x) (by omega) (fun j hj => by rw [jj_upd, if_neg (by omega)]; exact (hT j hj).1) (by rw [jj_upd, if_pos rfl]) (by omega)
    obtain ⟨r2, t, d1, d2, d3⟩ := pots_m hn h0 hfit Q hQ k (x + 1) f r1 (by omega) (by omega) (by omega) ⟨fun j => if j = x then v else T j, fun j hj => by
      by_cases z : j = x
      · simp only [z, if_true]
        exact ⟨b3, b4, hQ x T v hx1 (by omega) (fun j hj => (hT j hj).2) b4 b5⟩
      · simp only [z, if_false]
        exact ⟨b2 j (by omega), (hT j (by omega)).2⟩⟩
    refine ⟨r2, t, ?_, d2, d3⟩
    rw [f_X6_pots_l18, f_X6_pots_h18, if_neg (jj_le_nlt (nI_le (show x ≤ 2 ^ n - 1 by omega) (by omega))), jj_grd (jj_inb (show x < 64 by omega) (by decide)), jj_bnd, jj_bnd, jj_tn (show x < 2 ^ 31 by omega), wset_wrow]
    exact b1.trans d1
