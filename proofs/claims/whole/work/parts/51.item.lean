/-! PURE: an item on both sides, its end -/
def finM (w_11 : Wd) : Option (Unit × Wd) := if (wget w_11 92 21) = 0 then (if (wget w_11 92 19) = (3 : Int32) then (bnd (wset w_11 92 21 (0 : Int32)) (fun w_22 => if (wget w_22 92 21) = 0 then (cal (f_X6_next w_22) (fun _ w_25 => some ((), w_25))) else (some ((), w_22)))) else (bnd (wset w_11 92 21 (1 : Int32)) (fun w_28 => if (wget w_28 92 21) = 0 then (cal (f_X6_next w_28) (fun _ w_31 => some ((), w_31))) else (some ((), w_28))))) else (bnd (wset w_11 92 21 (1 : Int32)) (fun w_15 => if (wget w_15 92 21) = 0 then (cal (f_X6_next w_15) (fun _ w_18 => some ((), w_18))) else (some ((), w_15))))
theorem finM_bad {v : Wd} (h : v.1 92 21 = 1) : finM v = some ((), v) := by
  unfold finM
  rw [wget_def v 92 21, h, if_neg jj_ne10, jj_bnd, wset_self h, wget_def v 92 21, h, if_neg jj_ne10]
theorem finM_no {v : Wd} (h : v.1 92 21 = 0) (h2 : ¬ v.1 92 19 = 3) : finM v = some ((), wset v 92 21 1) := by
  unfold finM
  rw [wget_def v 92 21, h, if_pos (show (0 : Int32) = 0 from rfl), wget_def v 92 19, if_neg h2, jj_bnd, wget_def, show (wset v 92 21 1).1 92 21 = 1 from rfl, if_neg jj_ne10]
theorem finM_yes {v v' : Wd} (h : v.1 92 21 = 0) (h2 : v.1 92 19 = 3) (hn : f_X6_next v = some ((), v')) : finM v = some ((), v') := by
  unfold finM
  rw [wget_def v 92 21, h, if_pos (show (0 : Int32) = 0 from rfl), wget_def v 92 19, if_pos h2, jj_bnd, wset_self h, wget_def v 92 21, h, if_pos (show (0 : Int32) = 0 from rfl), hn, jj_cal]
/-- what an item comes to: the same fault on both sides, or both have told it, and have read the word behind it -/
def Res (tn : Nat) (L : Nat → Nat) (u v : Wd) (q : Nat) (A : Option (Int32 × Wd)) (B : Option (Unit × Wd)) : Prop :=
  (∃ u' v' s', A = some (0, u') ∧ B = some ((), v') ∧ frC u u' ∧ frM v v' ∧ s' ≤ tn ∧ u'.1 1 4 = nI s' ∧ v'.1 92 18 = nI s' ∧ v'.1 92 21 = 1) ∨
  ∃ u1 u' v' p' s' t' m' n', A = some (1, u1) ∧ f_X1_advance u1 = some ((), u') ∧ B = some ((), v') ∧ frC u u' ∧ frM v v' ∧ Tk tn L u' v' p' s' t' m' ∧ Tl n' u' v' ∧ v'.1 92 21 = 0 ∧ v'.1 92 22 = v.1 92 22 ∧ q ≤ p' ∧ (t' ≠ 0 → q < p')
theorem Res_mono {tn : Nat} {L : Nat → Nat} {u v u0 v0 : Wd} {q q0 : Nat} {A : Option (Int32 × Wd)} {B : Option (Unit × Wd)} (h : Res tn L u v q A B) (hu : frC u0 u) (hv : frM v0 v) (h22 : v.1 92 22 = v0.1 92 22) (hq : q0 ≤ q) : Res tn L u0 v0 q0 A B := by
  rcases h with ⟨u', v', s', a1, a2, a3, a4, a5, a6, a7, a8⟩ | ⟨u1, u', v', p', s', t', m', n', a1, a2, a3, a4, a5, a6, a7, a8, a9, a10, a11⟩
  · exact Or.inl ⟨u', v', s', a1, a2, hu.tr a3, hv.tr a4, a5, a6, a7, a8⟩
  · exact Or.inr ⟨u1, u', v', p', s', t', m', n', a1, a2, a3, hu.tr a4, hv.tr a5, a6, a7, a8, a9.trans h22, by omega, fun z => by have := a11 z; omega⟩
theorem Res_no {tn p s t m q : Nat} {L : Nat → Nat} {u v : Wd} {A : Option (Int32 × Wd)} {B : Option (Unit × Wd)} (hT : Tk tn L u v p s t m) (hA : A = some (0, u)) (hB : B = some ((), wset v 92 21 1)) : Res tn L u v q A B := by
  obtain ⟨h1, h2, h3, h4, h5, h6, h7, h8, h9, h10, h11, h12, h13⟩ := hT
  exact Or.inl ⟨u, wset v 92 21 1, s, hA, hB, frC.rf u, frM_wset v _ (by omega), h4, h7, by rw [wset_v, if_neg (by omega), h8], by rw [wset_v, if_pos ⟨rfl, rfl⟩]⟩
theorem mT3 {t : Nat} (h11 : t = 0 ∨ t = 1 ∨ t = 2 ∨ isSg t) (h : ¬ t = 59) : ¬ mT t = 3 := by
  unfold mT
  rcases h11 with z | z | z | z | z | z | z | z <;> subst z <;> first | decide | exact absurd rfl h
theorem fin_res {tn p s t m n : Nat} {L : Nat → Nat} {u v u1 : Wd} {sg : Int32} (hT : Tk tn L u v p s t m) (h21 : v.1 92 21 = 0) (ht : f_X1_tell 9 sg u = some ((), u1)) (hl : Tl n u1 v) (hf : frC u u1) (hj : ∀ j, j ≤ 6 → u1.1 1 j = u.1 1 j) : Res tn L u v p (ckE sg u) (finM v) := by
  obtain ⟨h1, h2, h3, h4, h5, h6, h7, h8, h9, h10, h11, h12, h13⟩ := id hT
  have hti : t < 2 ^ 31 := by
    rcases h11 with z | z | z | z <;> omega
  by_cases h59 : t = 59
  · obtain ⟨u', v', p', s', t', m', a1, a2, a3, a4, a5, a6, a7⟩ := adv2 (u := u1) (TxC_cong h1 (hj 2 (by omega)) (fun j => hf.2 2 j (by omega) (by omega) (by omega))) h2 h3 ((hj 3 (by omega)).trans h5) h6
    refine Or.inr ⟨u1, u', v', p', s', t', m', n, ?_, a1, finM_yes h21 (by rw [h10, h59]; rfl) a2, hf.tr a3.fr, a4.fr, a5, Tl_cong hl (fun a j z => a3.2 a j (by omega)) (fun a j z => a4.2 a j (by omega)), (a4.2 92 21 (by omega)).trans h21, a4.2 92 22 (by omega), a6, a7⟩
    unfold ckE
    rw [wget_def u 1 5, h9, if_pos (show nI t = 59 by rw [h59]; rfl), ht, jj_cal]
  · refine Res_no hT ?_ (finM_no h21 (fun z => mT3 h11 h59 ((nI_eq (b := 3) (by have := mT_le t; omega) (by decide)).mp (h10.symm.trans z))))
    unfold ckE
    rw [wget_def u 1 5, h9, if_neg (show ¬ nI t = 59 from fun z => h59 ((nI_eq (b := 59) hti (by decide)).mp z))]
/-- an item of one number -/
theorem num_res {tn p s t m n lo hi c f q : Nat} {L : Nat → Nat} {u v : Wd} {sg : Int32} (hT : Tk tn L u v p s t m) (hl : Tl n u v) (h21 : v.1 92 21 = 0) (hlo : ∀ w, f_X1_leastOf sg (nI 0) w = some (nI lo, w)) (hhi : ∀ w, f_X1_greatestOf sg (nI 0) w = some (nI hi, w)) (hlo2 : lo ≤ 40) (hhi2 : hi ≤ 40) (hc : c = 25 ∨ c = 26 ∨ c = 27)
    (htell : ∀ u v m, Tl n u v → lo ≤ m → m ≤ hi → u.1 3 0 = nI m → ∃ u1, f_X1_tell 9 sg u = some ((), u1) ∧ Tl n u1 (wset v 92 c (nI m)) ∧ frC u u1 ∧ ∀ j, j ≤ 6 → u1.1 1 j = u.1 1 j) (hq : t = 1 → q ≤ p) :
    Res tn L u v q (ckC (f + 1) sg 1 (nI 0) u) (cal (cal (f_X6_takesNumber (nI lo) (nI hi) v) (fun r w => bnd (wset w 92 c r) (fun w2 => some ((), w2)))) (fun _ w => finM w)) := by
  obtain ⟨h1, h2, h3, h4, h5, h6, h7, h8, h9, h10, h11, h12, h13⟩ := id hT
  rcases num2 (f := f + 1) (mn := 1) hT (i := 0) (by omega) hlo hhi hlo2 hhi2 h21 with ⟨a, b⟩ | ⟨e, e1, e2, a, b⟩
  · have z : (wset (wset v 92 21 1) 92 c 0).1 92 21 = 1 := by rw [wset_v, if_neg (by omega), wset_v, if_pos ⟨rfl, rfl⟩]
    refine Or.inl ⟨u, wset (wset v 92 21 1) 92 c 0, s, a, ?_, frC.rf u, (frM_wset v _ (by omega)).tr (frM_wset _ _ (by omega)), h4, h7, ?_, z⟩
    · rw [b, jj_cal, jj_bnd, jj_cal, finM_bad z]
    · rw [wset_v, if_neg (by omega), wset_v, if_neg (by omega), h8]
  · obtain ⟨u2, hu2⟩ : ∃ x, x = wset u 3 0 (nI m) := ⟨_, rfl⟩
    have o : ∀ a j, a ≠ 3 → u2.1 a j = u.1 a j := fun a j x => by rw [hu2, wset_v, if_neg (by omega)]
    rw [← hu2] at a
    obtain ⟨u', v', p', s', t', m', a1, a2, a3, a4, a5, a6, a7⟩ := adv2 (u := u2) (TxC_cong h1 (o 1 2 (by omega)) (fun j => o 2 j (by omega))) h2 h3 ((o 1 3 (by omega)).trans h5) h6
    have hl' : Tl n u' v' := Tl_cong hl (fun a j z => (a3.2 a j (by omega)).trans (o a j (by omega))) (fun a j z => a4.2 a j (by omega))
    have h30 : u'.1 3 0 = nI m := by rw [a3.2 3 0 (by omega), hu2, wset_v, if_pos ⟨rfl, rfl⟩]
    obtain ⟨u1, b1, b2, b3, b4⟩ := htell u' v' m hl' e1 e2 h30
    have hR := fin_res (sg := sg) (Tk_cong a5 (fun _ _ _ => rfl) (fun a j z => by rw [wset_v, if_neg (by omega)]) : Tk tn L u' (wset v' 92 c (nI m)) p' s' t' m') (by rw [wset_v, if_neg (by omega), a4.2 92 21 (by omega), h21]) b1 b2 b3 b4
    rw [a, l31_end (show (1 : Int32) ≤ nI (0 + 1) from nI_le (a := 1) (by omega) (by decide)) a1, b v' a2, jj_cal, jj_bnd, jj_cal]
    refine Res_mono hR ((hu2 ▸ frC_wset u _ (by omega) : frC u u2).tr a3.fr) (a4.fr.tr (frM_wset _ _ (by omega))) ?_ (by have := hq e; omega)
    rw [wset_v, if_neg (by omega), a4.2 92 22 (by omega)]
