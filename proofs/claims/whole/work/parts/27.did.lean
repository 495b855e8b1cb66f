/-! PURE: a thing done, on both sides -/
theorem jj_cal {α β : Type} (r : α) (w : Wd) (f : α → Wd → Option β) : cal (some (r, w)) f = f r w := rfl
theorem jj_grd {β : Type} {b : Bool} (h : b = true) (x : Option β) : grd b x = x := by rw [h]; rfl
theorem jj_i6 {d : Nat} (h : d < 6) : inb (nI d) 6 = true := jj_inb h (by decide)
theorem jj_i26 {d : Nat} (h : d < 26) : inb (nI d) 26 = true := jj_inb h (by decide)
theorem jj_ne10 : ¬ (1 : Int32) = 0 := by decide
theorem bset6 {n : Nat} (hn : n ≤ 6) {p q : Nat → Bool} (h1 : ∀ d, d < n → p d = q d) (h2 : ∀ d, n ≤ d → d < 6 → p d = false) : bset p 6 = bset q n := bset_ext fun i => by
  by_cases l : i < n
  · have l6 : i < 6 := by omega
    simp [l, l6, h1 i l]
  · by_cases l6 : i < 6
    · simp [l, l6, h2 i (by omega) l6]
    · simp [l, l6]
theorem wet_dry {n : Nat} (hn : n ≤ 6) {p q : Nat → Bool} (h1 : ∀ d, d < n → q d = !p d) (h2 : ∀ d, n ≤ d → d < 6 → p d = false) : popc (bset p 6) = n - popc (bset q n) ∧ popc (bset q n) ≤ n := by
  have e1 : bset p 6 = bset p n := bset6 hn (fun _ _ => rfl) h2
  have h := popc_co n hn (bset p 6) (bset_lt p 6) (by rw [e1]; exact bset_lt p n)
  have e2 : bset (fun d => !p d) n = bset q n := bset_ext fun i => by
    by_cases l : i < n
    · simp [h1 i l]
    · simp [l]
  rw [jj_dry hn h2, e2] at h
  omega
def RemC (n kn nx : Nat) (w w1 : Wd) : Prop := w1.2 = w.2 ∧ (∀ a, a ≠ 24 → (a < 26 + 5 * nx ∨ 26 + 5 * nx + 4 < a) → w1.1 a = w.1 a) ∧ w1.1 24 1 = nI ((nx + 1) % 10) ∧ w1.1 24 2 = nI (min 10 (kn + 1)) ∧ SRel n w1 (26 + 5 * nx) (w.1 96)
def RemM (kn : Nat) (w w' : Wd) : Prop := w'.2 = w.2 ∧ (∀ a, a ≠ 97 → a ≠ 92 → w'.1 a = w.1 a) ∧ (∀ j, j ≠ 9 → w'.1 92 j = w.1 92 j) ∧ w'.1 92 9 = nI (min 10 (kn + 1)) ∧ (∀ i, i < 26 → w'.1 97 (26 * (min 10 (kn + 1) - 1) + i) = w.1 96 i) ∧ ∀ j i, j < min 10 (kn + 1) - 1 → i < 26 → w'.1 97 (26 * j + i) = w.1 97 (26 * (j + (kn + 1 - min 10 (kn + 1))) + i)
theorem rem_c {n kn nx : Nat} {w : Wd} (hn : n ≤ 6) (hS : IvS n w) (p1 : w.1 24 1 = nI nx) (px : nx < 10) (p2 : w.1 24 2 = nI kn) (pk : kn ≤ 10) : ∃ w1, f_X0_remember 14 w = some ((), w1) ∧ RemC n kn nx w w1 := by
  obtain ⟨w1, h0, h1, h2, h3, h4, h5⟩ := remC p1 px p2 pk
  exact ⟨w1, h0, h1, h2, h3, h4, h5 n _ hn hS.1⟩
theorem Iv_did {n kn nx : Nat} {w w1 w2 w3 v : Wd} (hn : n ≤ 6) (hT : IvT n w) (hS : IvS n w) (pk : kn ≤ 10) (px : nx < 10) (pold : ∀ j, j < kn → SRel n w (26 + 5 * ((nx + 10 - kn + j) % 10)) (fun i => w.1 97 (26 * j + i)) ∧ RInv n 99 (fun i => w.1 97 (26 * j + i)))
    (hG : IvG n w) (hN : IvN w) (hX : IvX w) (hE : IvE w) (hC : RemC n kn nx w w1) (d1 : w2.2 = w1.2) (d2 : ∀ a, a < 14 ∨ 18 < a → w2.1 a = w1.1 a) (hM : RemM kn w2 w3) (f1 : v.2 = w3.2) (f2 : ∀ a, a ≠ 96 → a ≠ 103 → v.1 a = w3.1 a) (s : SRel n v 14 (v.1 96)) (r : RInv n 99 (v.1 96)) : Iv v := by
  obtain ⟨c1, c2, c3, c4, c5⟩ := hC
  obtain ⟨m1, m2, m3, m4, m5, m6⟩ := hM
  have g : ∀ a, a ≠ 24 → a ≠ 92 → a ≠ 96 → a ≠ 97 → a ≠ 103 → (a < 14 ∨ 18 < a) → (a < 26 + 5 * nx ∨ 26 + 5 * nx + 4 < a) → v.1 a = w.1 a := fun a q1 q2 q3 q4 q5 q6 q7 => by
    rw [f2 a q3 q5, m2 a q4 q2, d2 a q6, c2 a q1 q7]
  have g92 : ∀ j, j ≠ 9 → v.1 92 j = w.1 92 j := fun j hj => by rw [f2 92 (by decide) (by decide), m3 j hj, d2 92 (by omega), c2 92 (by omega) (by omega)]
  have g24 : v.1 24 = w1.1 24 := by rw [f2 24 (by decide) (by decide), m2 24 (by decide) (by decide), d2 24 (by omega)]
  have g97 : v.1 97 = w3.1 97 := f2 97 (by decide) (by decide)
  have e96 : w2.1 96 = w.1 96 := by rw [d2 96 (by omega), c2 96 (by omega) (by omega)]
  have e97 : w2.1 97 = w.1 97 := by rw [d2 97 (by omega), c2 97 (by omega) (by omega)]
  refine ⟨n, hn, IvT_cong hT (fun j hj => g92 j (by omega)) (fun a ha => g a (by omega) (by omega) (by omega) (by omega) (by omega) (by omega) (by omega)), ⟨s, r⟩, ?_,
    IvG_cong hG (by rw [g 0 (by omega) (by omega) (by omega) (by omega) (by omega) (by omega) (by omega)]) (fun a h1 h2 => g a (by omega) (by omega) (by omega) (by omega) (by omega) (by omega) (by omega)) (g 98 (by omega) (by omega) (by omega) (by omega) (by omega) (by omega) (by omega)) (g 99 (by omega) (by omega) (by omega) (by omega) (by omega) (by omega) (by omega)),
    IvN_cong hN (by rw [g 86 (by omega) (by omega) (by omega) (by omega) (by omega) (by omega) (by omega)]) (g92 12 (by decide)) (fun a ha => g a (by omega) (by omega) (by omega) (by omega) (by omega) (by omega) (by omega)),
    IvX_cong hX (by rw [g 1 (by omega) (by omega) (by omega) (by omega) (by omega) (by omega) (by omega)]) (g92 16 (by decide)) (g 2 (by omega) (by omega) (by omega) (by omega) (by omega) (by omega) (by omega)) (g 101 (by omega) (by omega) (by omega) (by omega) (by omega) (by omega) (by omega)),
    IvE_cong hE (by rw [f1, m1, d1, c1]) (by rw [g 90 (by omega) (by omega) (by omega) (by omega) (by omega) (by omega) (by omega)])⟩
  refine IvP_push hn pk px pold (SRel_cong c5 (fun a h1 h2 => ?_)) hS.2 (by rw [g24]; exact c3) (by rw [g24]; exact c4) (by rw [f2 92 (by decide) (by decide)]; exact m4) (fun a h1 h2 h3 => g a (by omega) (by omega) (by omega) (by omega) (by omega) (by omega) h3) (fun i hi => ?_) (fun j i hj hi => ?_)
  · rw [f2 a (by omega) (by omega), m2 a (by omega) (by omega), d2 a (by omega)]
  · rw [g97, m5 i hi, e96]
  · rw [g97, m6 j i hj hi, e97]
theorem op_drops : Op1 Iv f_X5_drops f_X6_drops := by
  intro a w hI
  obtain ⟨n, hn, hT, hS, hP, hG, hN, hX, hE⟩ := id hI
  obtain ⟨t0, t1, -⟩ := id hT
  obtain ⟨kn, nx, pk, px, p2, p9, p1, pold⟩ := id hP
  obtain ⟨⟨s0, s1, sA, sB⟩, m, h, i0, im, i1, ih, iA⟩ := id hS
  rcases one_cases a hn with ⟨d, hd, rfl⟩ | hx
  · by_cases hdry : w.1 15 d = -9
    · obtain ⟨w1, c0, hC⟩ := rem_c hn hS p1 px p2 pk
      obtain ⟨c1, c2, -⟩ := id hC
      obtain ⟨w2, hw2⟩ : ∃ x, x = wset w1 15 d 10 := ⟨_, rfl⟩
      have d2 : ∀ a, a < 14 ∨ 18 < a → w2.1 a = w1.1 a := fun a ha => by rw [hw2]; exact (wset_off w1 15 d 10 a (by omega)).1
      have e92 : w2.1 92 = w.1 92 := by rw [d2 92 (by omega), c2 92 (by omega) (by omega)]
      have e96 : w2.1 96 = w.1 96 := by rw [d2 96 (by omega), c2 96 (by omega) (by omega)]
      obtain ⟨w3, m0, hM⟩ := remM (w := w2) (kn := kn) (by rw [e92]; exact p9) pk
      obtain ⟨m1, m2, m3, -⟩ := id hM
      obtain ⟨w4, hw4⟩ : ∃ x, x = wset w3 96 (2 + d) 10 := ⟨_, rfl⟩
      have e4 : w4.1 92 0 = nI n := by rw [hw4, (wset_off w3 96 (2 + d) 10 92 (by decide)).1, m3 0 (by decide), e92]; exact t0
      obtain ⟨v, v0, v1⟩ := dry_eq (w := w4) e4 hn
      have vo : ∀ a, a ≠ 103 → v.1 a = w4.1 a := fun a ha => by rw [v1]; exact wrow_off ha
      have v96 : ∀ j, v.1 96 j = if j = 2 + d then 10 else w.1 96 j := fun j => by
        rw [vo 96 (by decide), hw4, wset_v, m2 96 (by decide) (by decide), e96]
        simp only [true_and]
      have vS : ∀ a, 14 ≤ a → a ≤ 18 → v.1 a = w2.1 a := fun a h1 h2 => by rw [vo a (by omega), hw4, (wset_off w3 96 (2 + d) 10 a (by omega)).1, m2 a (by omega) (by omega)]
      have z15 : ∀ j, w2.1 15 j = if j = d then 10 else w.1 15 j := fun j => by rw [hw2, wset_v, c2 15 (by omega) (by omega)]; simp only [true_and]
      have zo : ∀ a, 14 ≤ a → a ≤ 18 → a ≠ 15 → w2.1 a = w.1 a := fun a h1 h2 h3 => by rw [hw2, (wset_off w1 15 d 10 a h3).1, c2 a (by omega) (by omega)]
      have hSv : SRel n v 14 (v.1 96) := by
        refine ⟨?_, ?_, fun e he => ⟨?_, ?_, ?_, ?_⟩, fun e h1 h2 => ⟨?_, ?_⟩⟩
        · rw [vS 14 (by omega) (by omega), zo 14 (by omega) (by omega) (by omega), v96, if_neg (by omega)]; exact s0
        · rw [vS 14 (by omega) (by omega), zo 14 (by omega) (by omega) (by omega), v96, if_neg (by omega)]; exact s1
        · rw [vS 15 (by omega) (by omega), z15, v96]
          by_cases q : e = d
          · rw [if_pos q, if_pos (by omega)]
          · rw [if_neg q, if_neg (by omega)]; exact (sA e he).1
        · rw [vS 16 (by omega) (by omega), zo 16 (by omega) (by omega) (by omega), v96, if_neg (by omega)]; exact (sA e he).2.1
        · rw [vS 17 (by omega) (by omega), zo 17 (by omega) (by omega) (by omega), v96, if_neg (by omega)]; exact (sA e he).2.2.1
        · rw [vS 18 (by omega) (by omega), zo 18 (by omega) (by omega) (by omega), v96, if_neg (by omega)]; exact (sA e he).2.2.2
        · rw [vS 15 (by omega) (by omega), z15, if_neg (by omega)]; exact (sB e h1 h2).1
        · rw [vS 18 (by omega) (by omega), zo 18 (by omega) (by omega) (by omega)]; exact (sB e h1 h2).2
      have hRv : RInv n 99 (v.1 96) := by
        refine ⟨m, h, ?_, im, ?_, ih, fun e he => ⟨?_, ?_, ?_, ?_⟩⟩
        · rw [v96, if_neg (by omega)]; exact i0
        · rw [v96, if_neg (by omega)]; exact i1
        · rw [v96]
          by_cases q : 2 + e = 2 + d
          · rw [if_pos q]; exact Or.inr ⟨10, by decide, rfl⟩
          · rw [if_neg q]; exact (iA e he).1
        · rw [v96, if_neg (by omega)]; exact (iA e he).2.1
        · rw [v96, if_neg (by omega)]; exact (iA e he).2.2.1
        · rw [v96, if_neg (by omega)]; exact (iA e he).2.2.2
      obtain ⟨k1, k2⟩ := wet_dry hn (p := fun e => !decide (w2.1 15 e = -9)) (q := fun e => decide (w4.1 96 (2 + e) = -9)) (fun e he => by
        rw [Bool.not_not]
        have := (hSv.2.2.1 e he).1
        rw [vS 15 (by omega) (by omega), vo 96 (by decide)] at this
        show decide _ = decide _
        rw [this]) (fun e h1 h2 => by
        have := (hSv.2.2.2 e h1 h2).1
        rw [vS 15 (by omega) (by omega)] at this
        show (!decide _) = false
        rw [this]; rfl)
      refine ⟨nI (popc (bset (fun e => !decide (w2.1 15 e = -9)) 6)), w2, v, ?_, ?_, ?_⟩
      · rw [f_X5_drops, f_X5_drops_b0, isTold_yes t1 hn hd, jj_cal, if_neg jj_ne10, isDry_eq (show d < 6 by omega), jj_cal, if_pos hdry, if_neg jj_ne10, c0, jj_cal, f_X4_drop, f_X4_drop_b0, jj_grd (jj_i6 (show d < 6 by omega)), jj_bnd, jj_tn (show d < 2 ^ 31 by omega), ← hw2, jj_cal, wetOnes_eq, jj_cal, bc_eq (bset_lt _ 6), jj_cal]
      · rw [f_X6_drops, f_X6_drops_b0, isOne_yes (w := w2) (by rw [e92]; exact t0) hn hd, jj_cal, if_neg jj_ne10, jj_2, jj_grd (jj_i26 (show 2 + d < 26 by omega)), jj_tn (show 2 + d < 2 ^ 31 by omega), wget_def, if_pos (show w2.1 96 (2 + d) = -9 by rw [e96, ← (sA d hd).1]; exact hdry), m0, jj_cal, jj_grd (jj_i26 (show 2 + d < 26 by omega)), jj_bnd, ← hw4, v0, jj_cal, bits_eq (lt64 hn (bset_lt _ n)), jj_cal, wget_def, e4, nI_sub k2, k1]
      · exact Iv_did hn hT hS pk px pold hG hN hX hE hC (by rw [hw2]; rfl) d2 hM (by rw [v1, hw4]; rfl) (fun a h1 h2 => by rw [vo a h2, hw4, (wset_off w3 96 (2 + d) 10 a h1).1]) hSv hRv
    · refine ⟨-2, w, w, ?_, ?_, hI⟩
      · rw [f_X5_drops, f_X5_drops_b0, isTold_yes t1 hn hd, jj_cal, if_neg jj_ne10, isDry_eq (show d < 6 by omega), jj_cal, if_neg hdry, if_pos rfl]
      · rw [f_X6_drops, f_X6_drops_b0, isOne_yes t0 hn hd, jj_cal, if_neg jj_ne10, jj_2, jj_grd (jj_i26 (show 2 + d < 26 by omega)), jj_tn (show 2 + d < 2 ^ 31 by omega), wget_def, if_neg (show ¬ w.1 96 (2 + d) = -9 by rw [← (sA d hd).1]; exact hdry)]
  · refine ⟨-1, w, w, ?_, ?_, hI⟩
    · rw [f_X5_drops, f_X5_drops_b0, isTold_no t1 hn hx, jj_cal, if_pos rfl]
    · rw [f_X6_drops, f_X6_drops_b0, isOne_no t0 hn hx, jj_cal, if_pos rfl]
