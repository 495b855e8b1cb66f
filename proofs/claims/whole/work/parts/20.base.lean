/-! PURE: numbers, loops, rows of the world -/
theorem jj_lit (n : Nat) : (OfNat.ofNat n : Int32) = nI n := rfl
theorem jj_inb {i n : Nat} (h : i < n) (hn : n < 2 ^ 31) : inb (nI i) n = true := by
  unfold inb
  rw [nI_clamp (by omega)]
  have h1 : ¬ nI i < 0 := nI_pos (by omega)
  simp [h1]
  omega
theorem jj_tn {i : Nat} (h : i < 2 ^ 31) : (nI i).toNatClampNeg = i := nI_clamp h
def wrow (w : Wd) (a : Nat) (r : Nat → Int32) : Wd := (fun b => if b = a then r else w.1 b, w.2)
theorem wrow_row (w : Wd) (a : Nat) (r : Nat → Int32) : (wrow w a r).1 a = r := if_pos rfl
theorem wrow_off {w : Wd} {a b : Nat} {r : Nat → Int32} (h : b ≠ a) : (wrow w a r).1 b = w.1 b := if_neg h
theorem wrow_1 (w : Wd) (a b : Nat) (r : Nat → Int32) : (wrow w a r).1 b = if b = a then r else w.1 b := rfl
theorem wrow_2 (w : Wd) (a : Nat) (r : Nat → Int32) : (wrow w a r).2 = w.2 := rfl
theorem wget_def (w : Wd) (a j : Nat) : wget w a j = w.1 a j := rfl
theorem wset_row2 (w : Wd) (a j : Nat) (v : Int32) : wset w a j v = wrow w a (upd (w.1 a) j v) := by
  refine Prod.ext ?_ rfl
  funext b
  by_cases h : b = a
  · subst h
    rw [wrow_row]
    exact wset_row w b j v
  · rw [wrow_off h]
    exact (wset_off w a j v b h).1
theorem wrow_wrow (w : Wd) (a : Nat) (r r2 : Nat → Int32) : wrow (wrow w a r) a r2 = wrow w a r2 := by
  refine Prod.ext ?_ rfl
  funext b
  by_cases h : b = a
  · subst h; rw [wrow_row, wrow_row]
  · rw [wrow_off h, wrow_off h, wrow_off h]
theorem wrow_self (w : Wd) (a : Nat) : wrow w a (w.1 a) = w := by
  refine Prod.ext ?_ rfl
  funext b
  by_cases h : b = a
  · subst h; rw [wrow_row]
  · rw [wrow_off h]
theorem wset_wrow (w : Wd) (a j : Nat) (r : Nat → Int32) (v : Int32) : wset (wrow w a r) a j v = wrow w a (upd r j v) := by
  rw [wset_row2, wrow_row, wrow_wrow]
theorem jj_upd_self (r : Nat → Int32) (j : Nat) : upd r j (r j) = r := by
  funext i
  unfold upd
  split
  · rename_i h; rw [h]
  · rfl
theorem jj_upd (r : Nat → Int32) (j i : Nat) (v : Int32) : upd r j v i = if i = j then v else r i := rfl
/-- n steps from i on -/
def itr {α : Type} (s : Nat → α → α) : Nat → Nat → α → α
  | _, 0, a => a
  | i, n + 1, a => itr s (i + 1) n (s i a)
theorem itr_last {α : Type} (s : Nat → α → α) : ∀ (n i : Nat) (a : α), itr s i (n + 1) a = s (i + n) (itr s i n a)
  | 0, i, a => rfl
  | n + 1, i, a => by
    rw [itr, itr_last s n (i + 1) (s i a), itr]
    congr 1
    omega
theorem itr_add {α : Type} (s : Nat → α → α) (m : Nat) : ∀ (n i : Nat) (a : α), itr s i (m + n) a = itr s (i + m) n (itr s i m a)
  | 0, i, a => rfl
  | n + 1, i, a => by rw [← Nat.add_assoc, itr_last, itr_last, itr_add s m n i a, Nat.add_assoc]
theorem itr_inv {α : Type} {s : Nat → α → α} {P : Nat → α → Prop} : ∀ (n i : Nat) (a : α), P i a → (∀ j b, i ≤ j → j < i + n → P j b → P (j + 1) (s j b)) → P (i + n) (itr s i n a)
  | 0, i, a, h, _ => h
  | n + 1, i, a, h, hs => by
    rw [itr_last]
    exact hs (i + n) _ (by omega) (by omega) (itr_inv n i a h (fun j b h1 h2 => hs j b h1 (by omega)))
theorem itr_cong {α : Type} {s t : Nat → α → α} : ∀ (n i : Nat) (a : α), (∀ j b, i ≤ j → j < i + n → s j b = t j b) → itr s i n a = itr t i n a
  | 0, _, _, _ => rfl
  | n + 1, i, a, h => by
    rw [itr_last, itr_last, itr_cong n i a (fun j b h1 h2 => h j b h1 (by omega))]
    exact h (i + n) _ (by omega) (by omega)
theorem itr_id {α : Type} {s : Nat → α → α} (n i : Nat) (a : α) (h : ∀ j, i ≤ j → j < i + n → s j a = a) : itr s i n a = a :=
  itr_inv (P := fun _ b => b = a) n i a rfl (fun j b h1 h2 e => by rw [e]; exact h j h1 h2)
/-- the class's loop over N against the reference's over n of them -/
theorem itr_sim {α β : Type} {R : α → β → Prop} {s : Nat → α → α} {t : Nat → β → β} {n N : Nat} (hnN : n ≤ N) (i : Nat) (hin : i ≤ n) (a : α) (b : β) (h0 : R a b)
    (h : ∀ j a b, i ≤ j → j < n → R a b → R (s j a) (t j b)) (hn : ∀ j a b, n ≤ j → j < N → R a b → R (s j a) b) : R (itr s i (N - i) a) (itr t i (n - i) b) := by
  obtain ⟨m, rfl⟩ : ∃ m, n = i + m := ⟨n - i, by omega⟩
  obtain ⟨k, rfl⟩ : ∃ k, N = i + m + k := ⟨N - (i + m), by omega⟩
  rw [show i + m + k - i = m + k by omega, show i + m - i = m by omega, itr_add]
  have h1 : R (itr s i m a) (itr t i m b) := by
    clear hn hnN hin
    induction m with
    | zero => exact h0
    | succ m ih =>
      rw [itr_last, itr_last]
      exact h (i + m) _ _ (by omega) (by omega) (ih (fun j a b h1 h2 => h j a b h1 (by omega)))
  exact itr_inv (P := fun _ a2 => R a2 (itr t i m b)) k (i + m) _ h1 (fun j a2 h2 h3 h4 => hn j a2 _ (by omega) (by omega) h4)
theorem jj_loop {α β : Type} {F : Nat → Int32 → α → Option β} {s : Nat → α → α} {ex : α → Option β} {N : Nat} (P : Nat → α → Prop)
    (hb : ∀ f i a, i < N → P i a → F (f + 1) (nI i) a = F f (nI (i + 1)) (s i a) ∧ P (i + 1) (s i a))
    (he : ∀ f a, P N a → F (f + 1) (nI N) a = ex a) : ∀ (n i : Nat) (a : α) (f : Nat), i + n = N → n < f → P i a → F f (nI i) a = ex (itr s i n a)
  | 0, i, a, f, hi, hf, hP => by
    obtain ⟨f, rfl⟩ : ∃ k, f = k + 1 := ⟨f - 1, by omega⟩
    obtain rfl : i = N := by omega
    exact he f a hP
  | n + 1, i, a, f, hi, hf, hP => by
    obtain ⟨f, rfl⟩ : ∃ k, f = k + 1 := ⟨f - 1, by omega⟩
    obtain ⟨h1, h2⟩ := hb f i a (by omega) hP
    rw [h1, itr]
    exact jj_loop P hb he n (i + 1) (s i a) f (by omega) (by omega) h2
/-- the same, no invariant -/
theorem jj_loop0 {α β : Type} {F : Nat → Int32 → α → Option β} {s : Nat → α → α} {ex : α → Option β} {N : Nat}
    (hb : ∀ f i a, i < N → F (f + 1) (nI i) a = F f (nI (i + 1)) (s i a))
    (he : ∀ f a, F (f + 1) (nI N) a = ex a) (n i : Nat) (a : α) (f : Nat) (hi : i + n = N) (hf : n < f) : F f (nI i) a = ex (itr s i n a) :=
  jj_loop (fun _ _ => True) (fun f i a h _ => ⟨hb f i a h, trivial⟩) (fun f a _ => he f a) n i a f hi hf trivial
/-- a loop that writes place o + d of a row, out of places that it has not written -/
theorem itr_pw {o : Nat} {F : Nat → (Nat → Int32) → Int32} {r0 : Nat → Int32} (hF : ∀ d r, (∀ j, j < o ∨ o + d ≤ j → r j = r0 j) → F d r = F d r0) : ∀ n, itr (fun d r => upd r (o + d) (F d r)) 0 n r0 = fun j => if o ≤ j ∧ j < o + n then F (j - o) r0 else r0 j
  | 0 => by
    funext j
    rw [if_neg (by omega)]
    rfl
  | n + 1 => by
    rw [itr_last, itr_pw hF n]
    funext j
    rw [Nat.zero_add, hF n _ (fun j hj => if_neg (by omega)), jj_upd]
    by_cases h : j = o + n
    · rw [if_pos h, if_pos (by omega), h, Nat.add_sub_cancel_left]
    · rw [if_neg h]
      by_cases h2 : o ≤ j ∧ j < o + n
      · rw [if_pos h2, if_pos (by omega)]
      · rw [if_neg h2, if_neg (by omega)]
/-! bits of small sets -/
theorem jj_bit_all : ∀ s, s < 64 → ∀ i, i < 6 → (nI s >>> (nI i &&& 31)) &&& 1 = if s.testBit i then 1 else 0 := by decide +kernel
theorem jj_bit {s i : Nat} (hs : s < 64) (hi : i < 6) : (nI s >>> (nI i &&& 31)) &&& 1 = if s.testBit i then 1 else 0 := jj_bit_all s hs i hi
theorem jj_bit0 {s i : Nat} (hs : s < 64) (hi : i < 6) : ((nI s >>> (nI i &&& 31)) &&& 1 = 0) ↔ s.testBit i = false := by
  rw [jj_bit hs hi]
  cases s.testBit i <;> decide
theorem jj_shl_all : ∀ i, i < 7 → (1 : Int32) <<< (nI i &&& 31) = nI (2 ^ i) := by decide +kernel
theorem jj_shl {i : Nat} (hi : i < 7) : (1 : Int32) <<< (nI i &&& 31) = nI (2 ^ i) := jj_shl_all i hi
theorem jj_and (a b : Nat) : nI a &&& nI b = nI (a &&& b) := by
  apply Int32.toBitVec_inj.1
  show BitVec.ofNat 32 a &&& BitVec.ofNat 32 b = BitVec.ofNat 32 (a &&& b)
  apply BitVec.eq_of_getLsbD_eq
  intro i hi
  simp [hi]
theorem jj_or (a b : Nat) : nI a ||| nI b = nI (a ||| b) := by
  apply Int32.toBitVec_inj.1
  show BitVec.ofNat 32 a ||| BitVec.ofNat 32 b = BitVec.ofNat 32 (a ||| b)
  apply BitVec.eq_of_getLsbD_eq
  intro i hi
  simp [hi]
theorem jj_not_all : ∀ b, b < 64 → nI 63 &&& (nI b ^^^ -1) = nI (63 ^^^ b) := by decide +kernel
theorem jj_andnot {a b : Nat} (ha : a < 64) (hb : b < 64) : nI a &&& (nI b ^^^ -1) = nI (a &&& (63 ^^^ b)) := by
  have h1 : nI a = nI a &&& nI 63 := by rw [jj_and, show a &&& 63 = a from by rw [show (63 : Nat) = 2 ^ 6 - 1 from rfl, Nat.and_two_pow_sub_one_eq_mod]; exact Nat.mod_eq_of_lt ha]
  rw [← jj_and, ← jj_not_all b hb]
  rw [show nI a &&& (nI 63 &&& (nI b ^^^ -1)) = (nI a &&& nI 63) &&& (nI b ^^^ -1) from (Int32.and_assoc _ _ _).symm, ← h1]
