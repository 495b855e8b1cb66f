/-! PURE: both read the next word -/
theorem lx_le {tn p : Nat} {L : Nat → Nat} (hp : p ≤ tn) : lxS tn L p ≤ tn ∧ p ≤ lxE tn L p ∧ lxE tn L p ≤ tn ∧ (lxT tn L p ≠ 0 → p < lxE tn L p) ∧ (lxT tn L p = 0 ∨ lxT tn L p = 1 ∨ lxT tn L p = 2 ∨ isSg (lxT tn L p)) := by
  have hsk := skp_le tn L (tn - p) p
  obtain ⟨S, hS⟩ : ∃ x, x = lxS tn L p := ⟨_, rfl⟩
  have hS1 : p ≤ S ∧ S ≤ tn := by rw [hS]; unfold lxS; omega
  unfold lxT lxE
  rw [← hS]
  by_cases l : S < tn
  · by_cases q : isD (L S)
    · have h1 := dgE_le tn L (tn - S) S
      have h2 : S < dgE tn L (tn - S) S := by
        obtain ⟨k, hk⟩ : ∃ k, tn - S = k + 1 := ⟨tn - S - 1, by omega⟩
        rw [hk, dgE, if_pos ⟨l, q⟩]
        have := dgE_le tn L k (S + 1)
        omega
      simp only [if_pos l, if_pos q]
      refine ⟨by omega, by omega, by omega, fun _ => by omega, ?_⟩
      split
      · exact Or.inr (Or.inr (Or.inl rfl))
      · split
        · exact Or.inr (Or.inr (Or.inl rfl))
        · exact Or.inr (Or.inl rfl)
    · simp only [if_pos l, if_neg q]
      refine ⟨by omega, by omega, by omega, fun _ => by omega, ?_⟩
      split
      · rename_i z
        exact Or.inr (Or.inr (Or.inr z))
      · exact Or.inr (Or.inr (Or.inl rfl))
  · simp only [if_neg l]
    exact ⟨by omega, by omega, by omega, fun z => by omega, Or.inl trivial⟩
/-- both have read the same word: it begins at s, p is behind it, t what it is, m its value -/
def Tk (tn : Nat) (L : Nat → Nat) (u v : Wd) (p s t m : Nat) : Prop := TxC tn L u ∧ TxM tn L v ∧ p ≤ tn ∧ s ≤ tn ∧ u.1 1 3 = nI p ∧ v.1 92 17 = nI p ∧ u.1 1 4 = nI s ∧ v.1 92 18 = nI s ∧ u.1 1 5 = nI t ∧ v.1 92 19 = nI (mT t) ∧ (t = 0 ∨ t = 1 ∨ t = 2 ∨ isSg t) ∧ (t = 1 → u.1 1 6 = nI m ∧ v.1 92 20 = nI m ∧ m ≤ 99) ∧ (2 < t → v.1 92 20 = nI t)
theorem TxC_cong {tn : Nat} {L : Nat → Nat} {u u' : Wd} (h : TxC tn L u) (h1 : u'.1 1 2 = u.1 1 2) (h2 : ∀ j, u'.1 2 j = u.1 2 j) : TxC tn L u' := by
  obtain ⟨a, b, c⟩ := h
  exact ⟨a, h1.trans b, fun j hj => ⟨(h2 j).trans (c j hj).1, (c j hj).2⟩⟩
theorem TxM_cong {tn : Nat} {L : Nat → Nat} {u u' : Wd} (h : TxM tn L u) (h1 : u'.1 92 16 = u.1 92 16) (h2 : ∀ j, u'.1 101 j = u.1 101 j) : TxM tn L u' := by
  obtain ⟨a, b, c⟩ := h
  exact ⟨a, h1.trans b, fun j hj => ⟨(h2 j).trans (c j hj).1, (c j hj).2⟩⟩
theorem Tk_cong {tn : Nat} {L : Nat → Nat} {u v u' v' : Wd} {p s t m : Nat} (h : Tk tn L u v p s t m) (hu : ∀ a j, (a = 1 ∧ 2 ≤ j ∧ j ≤ 6) ∨ a = 2 → u'.1 a j = u.1 a j) (hv : ∀ a j, (a = 92 ∧ 16 ≤ j ∧ j ≤ 20) ∨ a = 101 → v'.1 a j = v.1 a j) : Tk tn L u' v' p s t m := by
  obtain ⟨h1, h2, h3, h4, h5, h6, h7, h8, h9, h10, h11, h12, h13⟩ := h
  exact ⟨TxC_cong h1 (hu 1 2 (by omega)) (fun j => hu 2 j (by omega)), TxM_cong h2 (hv 92 16 (by omega)) (fun j => hv 101 j (by omega)), h3, h4, (hu 1 3 (by omega)).trans h5, (hv 92 17 (by omega)).trans h6, (hu 1 4 (by omega)).trans h7, (hv 92 18 (by omega)).trans h8, (hu 1 5 (by omega)).trans h9, (hv 92 19 (by omega)).trans h10, h11,
    fun z => ⟨(hu 1 6 (by omega)).trans (h12 z).1, (hv 92 20 (by omega)).trans (h12 z).2.1, (h12 z).2.2⟩, fun z => (hv 92 20 (by omega)).trans (h13 z)⟩
def fqC (u u' : Wd) : Prop := u'.2 = u.2 ∧ ∀ a j, ¬ (a = 1 ∧ 3 ≤ j ∧ j ≤ 6) → u'.1 a j = u.1 a j
def fqM (v v' : Wd) : Prop := v'.2 = v.2 ∧ ∀ a j, ¬ (a = 92 ∧ 17 ≤ j ∧ j ≤ 20) → v'.1 a j = v.1 a j
def frC (u u' : Wd) : Prop := u'.2 = u.2 ∧ ∀ a j, ¬ (a = 1 ∧ 3 ≤ j ∧ j ≤ 9) → a ≠ 3 → ¬ (9 ≤ a ∧ a ≤ 13) → u'.1 a j = u.1 a j
def frM (v v' : Wd) : Prop := v'.2 = v.2 ∧ ∀ a j, ¬ (a = 92 ∧ 17 ≤ j ∧ j ≤ 27) → a ≠ 102 → v'.1 a j = v.1 a j
theorem frC.rf (u : Wd) : frC u u := ⟨rfl, fun _ _ _ _ _ => rfl⟩
theorem frM.rf (u : Wd) : frM u u := ⟨rfl, fun _ _ _ _ => rfl⟩
theorem frC.tr {u v w : Wd} (h : frC u v) (g : frC v w) : frC u w := ⟨g.1.trans h.1, fun a j x y z => (g.2 a j x y z).trans (h.2 a j x y z)⟩
theorem frM.tr {u v w : Wd} (h : frM u v) (g : frM v w) : frM u w := ⟨g.1.trans h.1, fun a j x y => (g.2 a j x y).trans (h.2 a j x y)⟩
theorem fqC.fr {u v : Wd} (h : fqC u v) : frC u v := ⟨h.1, fun a j x _ _ => h.2 a j (by omega)⟩
theorem fqM.fr {u v : Wd} (h : fqM u v) : frM u v := ⟨h.1, fun a j x _ => h.2 a j (by omega)⟩
theorem frC_wset (u : Wd) {a j : Nat} (v : Int32) (h : (a = 1 ∧ 3 ≤ j ∧ j ≤ 9) ∨ a = 3 ∨ (9 ≤ a ∧ a ≤ 13)) : frC u (wset u a j v) := ⟨rfl, fun b i x y z => by rw [wset_v, if_neg (by omega)]⟩
theorem frM_wset (u : Wd) {a j : Nat} (v : Int32) (h : (a = 92 ∧ 17 ≤ j ∧ j ≤ 27) ∨ a = 102) : frM u (wset u a j v) := ⟨rfl, fun b i x y => by rw [wset_v, if_neg (by omega)]⟩
theorem adv2 {tn p : Nat} {L : Nat → Nat} {u v : Wd} (hu : TxC tn L u) (hv : TxM tn L v) (hp : p ≤ tn) (h3 : u.1 1 3 = nI p) (h7 : v.1 92 17 = nI p) : ∃ u' v' p' s' t' m', f_X1_advance u = some ((), u') ∧ f_X6_next v = some ((), v') ∧ fqC u u' ∧ fqM v v' ∧ Tk tn L u' v' p' s' t' m' ∧ p ≤ p' ∧ (t' ≠ 0 → p < p') := by
  obtain ⟨u', a1, a2, a3, a4, a5, a6, a7⟩ := adv_c hu hp h3
  obtain ⟨v', b1, b2, b3, b4, b5, b6, b7, b8⟩ := adv_m hv hp h7
  obtain ⟨l1, l2, l3, l4, l5⟩ := lx_le (L := L) hp
  exact ⟨u', v', lxE tn L p, lxS tn L p, lxT tn L p, lxM tn L p, a1, b1, ⟨a2, a3⟩, ⟨b2, b3⟩,
    ⟨TxC_cong hu (a3 1 2 (by omega)) (fun j => a3 2 j (by omega)), TxM_cong hv (b3 92 16 (by omega)) (fun j => b3 101 j (by omega)), l3, l1, a4, b4, a5, b5, a6, b6, l5, fun z => ⟨(a7 z).1, b7 z, (a7 z).2⟩, b8⟩, l2, l4⟩
