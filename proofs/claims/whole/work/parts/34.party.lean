/-! PURE: party, power -/
def sumI (g : Nat → Int32) (set : Int32) (n : Nat) : Int32 := itr (fun d acc => if (set >>> (nI d &&& 31)) &&& 1 = 0 then acc else acc + g d) 0 n 0
theorem sum_same {n : Nat} (hn : n ≤ 6) {f g : Nat → Int32} {s : Nat} (hs : s < 2 ^ n) (h : ∀ d, d < n → f d = g d) : sumI f (nI s) 6 = sumI g (nI s) n := by
  unfold sumI
  obtain ⟨k, hk⟩ : ∃ k, 6 = n + k := ⟨6 - n, by omega⟩
  rw [hk, itr_add, itr_id k (0 + n) _ (fun j h3 h4 => by rw [if_pos (jj_high hn hs (by omega) (by omega))])]
  exact itr_cong n 0 0 (fun j b _ h4 => by rw [h j (by omega)])
theorem seats_c (set : Int32) (v : Wd) : f_X2_seatsOf 4 set v = some (sumI (v.1 8) set 6, v) := by
  rw [f_X2_seatsOf, f_X2_seatsOf_b0, jj_bnd, jj_bnd]
  exact jj_loop0 (F := fun f x a => f_X2_seatsOf_l4 4 f set a x v) (s := fun d acc => if (set >>> (nI d &&& 31)) &&& 1 = 0 then acc else acc + v.1 8 d) (ex := fun a => some (a, v)) (N := 6) (by
    intro f i a hi
    have h6 : ¬ (6 : Int32) ≤ nI i := nI_ge hi (by decide)
    show f_X2_seatsOf_l4 4 (f + 1) set a (nI i) v = f_X2_seatsOf_l4 4 f set _ (nI (i + 1)) v
    rw [f_X2_seatsOf_l4, f_X2_seatsOf_h4, if_neg h6]
    by_cases hb : (set >>> (nI i &&& 31)) &&& 1 = 0
    · rw [if_pos hb, if_pos hb, f_X2_seatsOf_b27, jj_bnd, nI_1]
    · rw [if_neg hb, if_neg hb, jj_grd (jj_i6 hi), jj_bnd, f_X2_seatsOf_b27, jj_bnd, nI_1, jj_tn (show i < 2 ^ 31 by omega), wget_def]) (by
    intro f a
    show f_X2_seatsOf_l4 4 (f + 1) set a (nI 6) v = _
    rw [f_X2_seatsOf_l4, f_X2_seatsOf_h4, if_pos (by decide)]) 6 0 0 300 rfl (by decide)
theorem seats_m {n : Nat} {u : Wd} (hn : n ≤ 6) (h0 : u.1 92 0 = nI n) (set : Int32) : f_X6_seatsOf set u = some (sumI (u.1 95) set n, u) := by
  rw [f_X6_seatsOf, f_X6_seatsOf_b0, jj_bnd, jj_bnd]
  exact jj_loop0 (F := fun f x a => f_X6_seatsOf_l4 f set a x u) (s := fun d acc => if (set >>> (nI d &&& 31)) &&& 1 = 0 then acc else acc + u.1 95 d) (ex := fun a => some (a, u)) (N := n) (by
    intro f i a hi
    show f_X6_seatsOf_l4 (f + 1) set a (nI i) u = f_X6_seatsOf_l4 f set _ (nI (i + 1)) u
    rw [f_X6_seatsOf_l4, f_X6_seatsOf_h4, wget_def, h0, if_neg (nI_ge hi (by omega)), has_eq, jj_cal]
    by_cases hb : (set >>> (nI i &&& 31)) &&& 1 = 0
    · rw [if_pos hb, if_pos hb, if_pos (show (0 : Int32) = 0 from rfl), jj_bnd, jj_bnd, nI_1, Int32.add_zero]
    · rw [if_neg hb, if_neg hb, if_neg jj_ne10, jj_grd (jj_i6 (show i < 6 by omega)), jj_bnd, jj_bnd, nI_1, jj_tn (show i < 2 ^ 31 by omega), wget_def]) (by
    intro f a
    show f_X6_seatsOf_l4 (f + 1) set a (nI n) u = _
    rw [f_X6_seatsOf_l4, f_X6_seatsOf_h4, wget_def, h0, if_pos (nI_le (Nat.le_refl n) (by omega))]) n 0 0 300 (by omega) (by omega)
def pStep (x : Int32) (g : Nat → Int32) (s : Nat) (b : Option Nat) : Option Nat := if (fewB s b && !decide (g s < x)) = true then some s else b
theorem small_p {x : Int32} {g : Nat → Int32} {s : Nat} {b : Option Nat} (hs : s < 64) (hb : small b) : small (pStep x g s b) := by
  unfold pStep
  split
  · intro q hq; injection hq with hq; omega
  · exact hb
theorem not1 {x : Int32} (g1 : ¬ x < 1) : ¬ x < 0 := fun q => g1 (by
  rw [Int32.lt_iff_toInt_lt] at q ⊢
  have a0 : (0 : Int32).toInt = 0 := by decide
  have a1 : (1 : Int32).toInt = 1 := by decide
  omega)
theorem op_party : Op1 Iv f_X5_party f_X6_party := by
  intro x w hI
  obtain ⟨n, hn, hT, hS, hP, hG, hN, hX, hE⟩ := id hI
  obtain ⟨t0, t1, -, -, -, -, -, -, tA⟩ := id hT
  by_cases g1 : x < 1
  · refine ⟨-1, w, w, ?_, ?_, hI⟩
    · rw [f_X5_party, f_X5_party_b0, if_pos g1]
    · rw [f_X6_party, f_X6_party_b0, in_eq, if_neg (fun q => q.1 g1), jj_cal, if_pos rfl]
  · by_cases g2 : x ≤ 54
    · have hp64 : 2 ^ n ≤ 64 := (Nat.pow_le_pow_right (by decide) hn : 2 ^ n ≤ 2 ^ 6)
      have hp1 : 1 ≤ 2 ^ n := Nat.one_le_two_pow
      obtain ⟨g, hg⟩ : ∃ g : Nat → Int32, g = fun s => sumI (w.1 95) (nI s) n := ⟨_, rfl⟩
      have hc : f_X5_party x w = some (encO (itr (pStep x g) 0 (2 ^ n) none), w) := by
        rw [f_X5_party, f_X5_party_b0, if_neg g1, if_pos g2, all_eq t1 hn, jj_cal, jj_bnd, jj_bnd, jj_bnd]
        exact jj_loop (F := fun f y b => f_X5_party_l27 f x (nI (2 ^ n - 1)) (encO b) y w) (s := pStep x g) (ex := fun b => some (encO b, w)) (N := 2 ^ n) (fun _ b => small b) (by
          intro f i b hi hb
          refine ⟨?_, small_p (by omega) hb⟩
          show f_X5_party_l27 (f + 1) x (nI (2 ^ n - 1)) (encO b) (nI i) w = f_X5_party_l27 f x (nI (2 ^ n - 1)) (encO (pStep x g i b)) (nI (i + 1)) w
          have hnext : ∀ c, f_X5_party_b58 (f_X5_party_l27 f) x (nI (2 ^ n - 1)) c (nI i) w = f_X5_party_l27 f x (nI (2 ^ n - 1)) c (nI (i + 1)) w := fun c => by rw [f_X5_party_b58, jj_bnd, nI_1]
          rw [f_X5_party_l27, f_X5_party_h27, if_neg (jj_le_nlt (nI_le (show i ≤ 2 ^ n - 1 by omega) (by omega))), isFewer_eq (show i < 64 by omega) hb, jj_cal]
          unfold pStep
          have hgi : sumI (w.1 8) (nI i) 6 = g i := by rw [hg]; exact sum_same hn hi (fun d hd => (tA d hd).2.2.1)
          cases hf : fewB i b with
          | false => rw [if_neg (show ¬ false = true by decide), if_pos (show (0 : Int32) = 0 from rfl), hnext, if_neg (by simp)]
          | true =>
            rw [if_pos (show true = true from rfl), if_neg jj_ne10, seats_c, jj_cal, hgi]
            by_cases hl : g i < x
            · rw [if_pos hl, hnext, if_neg (by simp [hl])]
            · rw [if_neg hl, jj_bnd, hnext, if_pos (by simp [hl])]
              rfl) (by
          intro f b hb
          show f_X5_party_l27 (f + 1) x (nI (2 ^ n - 1)) (encO b) (nI (2 ^ n)) w = _
          rw [f_X5_party_l27, f_X5_party_h27, if_pos (nI_lt (show 2 ^ n - 1 < 2 ^ n by omega) (by omega))]) (2 ^ n) 0 none 300 (by omega) (by omega) (fun q hq => by cases hq)
      have hm : f_X6_party x w = some (encO (itr (pStep x g) 0 (2 ^ n) none), w) := by
        rw [f_X6_party, f_X6_party_b0, in_eq, if_pos ⟨g1, jj_le_nlt g2⟩, jj_cal, if_neg jj_ne10, jj_bnd, jj_bnd]
        exact jj_loop (F := fun f y b => f_X6_party_l17 f x (encO b) y w) (s := pStep x g) (ex := fun b => some (encO b, w)) (N := 2 ^ n) (fun _ b => small b) (by
          intro f i b hi hb
          refine ⟨?_, small_p (by omega) hb⟩
          show f_X6_party_l17 (f + 1) x (encO b) (nI i) w = f_X6_party_l17 f x (encO (pStep x g i b)) (nI (i + 1)) w
          rw [f_X6_party_l17, f_X6_party_h17, wget_def, t0, jj_shl (show n < 7 by omega), if_neg (nI_ge hi (by omega)), seats_m hn t0, jj_cal, show sumI (w.1 95) (nI i) n = g i by rw [hg]]
          unfold pStep
          by_cases hl : g i < x
          · rw [if_pos hl, f_X6_party_b55, jj_bnd, jj_bnd, nI_1, if_neg (by simp [hl])]
          · rw [if_neg hl]
            cases b with
            | none =>
              rw [if_pos (show encO none < 0 by decide), f_X6_party_b51, jj_bnd, jj_bnd, nI_1, if_pos (by simp [hl, fewB])]
              rfl
            | some q =>
              have hq := hb q rfl
              have p1 := popc_le i (by omega)
              have p2 := popc_le q hq
              rw [if_neg (show ¬ encO (some q) < 0 from nI_pos (show q < 2 ^ 31 by omega)), bits_eq (show i < 64 by omega), jj_cal, show encO (some q) = nI q from rfl, bits_eq hq, jj_cal]
              by_cases hlt : popc i < popc q
              · rw [if_neg (nI_ge hlt (by omega)), f_X6_party_b51, jj_bnd, jj_bnd, nI_1, if_pos (by simp [hl, fewB, hlt])]
                rfl
              · rw [if_pos (nI_le (show popc q ≤ popc i by omega) (by omega)), f_X6_party_b55, jj_bnd, jj_bnd, nI_1, if_neg (by simp [fewB, hlt])]
                rfl) (by
          intro f b hb
          show f_X6_party_l17 (f + 1) x (encO b) (nI (2 ^ n)) w = _
          rw [f_X6_party_l17, f_X6_party_h17, wget_def, t0, jj_shl (show n < 7 by omega), if_pos (nI_le (Nat.le_refl _) (by omega))]) (2 ^ n) 0 none 300 (by omega) (by omega) (fun q hq => by cases hq)
      exact ⟨_, w, w, hc, hm, hI⟩
    · refine ⟨-1, w, w, ?_, ?_, hI⟩
      · rw [f_X5_party, f_X5_party_b0, if_neg g1, if_neg g2]
      · rw [f_X6_party, f_X6_party_b0, in_eq, if_neg (fun q => q.2 (jj_nle_lt g2)), jj_cal, if_pos rfl]
def wStep (x sd : Int32) (d : Nat) (g : Nat → Int32) (s : Nat) (c : Int32) : Int32 := if (nI s >>> (nI d &&& 31)) &&& 1 = 0 then (if x ≤ g s then c else if g s + sd < x then c else c + 1) else c
theorem op_power : Op2 Iv f_X5_power f_X6_power := by
  intro a x w hI
  obtain ⟨n, hn, hT, hS, hP, hG, hN, hX, hE⟩ := id hI
  obtain ⟨t0, t1, -, -, -, -, -, -, tA⟩ := id hT
  rcases one_cases a hn with ⟨d, hd, rfl⟩ | hx
  · by_cases g1 : x < 1
    · refine ⟨-1, w, w, ?_, ?_, hI⟩
      · rw [f_X5_power, f_X5_power_b0, isTold_yes t1 hn hd, jj_cal, if_neg jj_ne10, if_pos g1]
      · rw [f_X6_power, f_X6_power_b0, isOne_yes t0 hn hd, jj_cal, if_neg jj_ne10, in_eq, if_neg (fun q => q.1 g1), jj_cal, if_pos rfl]
    · by_cases g2 : x ≤ 54
      · have hp64 : 2 ^ n ≤ 64 := (Nat.pow_le_pow_right (by decide) hn : 2 ^ n ≤ 2 ^ 6)
        have hp1 : 1 ≤ 2 ^ n := Nat.one_le_two_pow
        have hd8 : w.1 8 d = w.1 95 d := (tA d hd).2.2.1
        obtain ⟨g, hg⟩ : ∃ g : Nat → Int32, g = fun s => sumI (w.1 95) (nI s) n := ⟨_, rfl⟩
        have hc : f_X5_power (nI d) x w = some (itr (wStep x (w.1 95 d) d g) 0 (2 ^ n) 0, w) := by
          rw [f_X5_power, f_X5_power_b0, isTold_yes t1 hn hd, jj_cal, if_neg jj_ne10, if_neg g1, if_pos g2, all_eq t1 hn, jj_cal, jj_bnd, jj_grd (jj_i6 (show d < 6 by omega)), jj_bnd, jj_bnd, jj_bnd, jj_tn (show d < 2 ^ 31 by omega), wget_def, hd8]
          exact jj_loop0 (F := fun f y c => f_X5_power_l46 f (nI d) x (nI (2 ^ n - 1)) (w.1 95 d) c y w) (s := wStep x (w.1 95 d) d g) (ex := fun c => some (c, w)) (N := 2 ^ n) (by
            intro f i c hi
            show f_X5_power_l46 (f + 1) (nI d) x (nI (2 ^ n - 1)) (w.1 95 d) c (nI i) w = f_X5_power_l46 f (nI d) x (nI (2 ^ n - 1)) (w.1 95 d) (wStep x (w.1 95 d) d g i c) (nI (i + 1)) w
            have hnext : ∀ c, f_X5_power_b90 (f_X5_power_l46 f) (nI d) x (nI (2 ^ n - 1)) (w.1 95 d) c (nI i) w = f_X5_power_l46 f (nI d) x (nI (2 ^ n - 1)) (w.1 95 d) c (nI (i + 1)) w := fun c => by rw [f_X5_power_b90, jj_bnd, nI_1]
            have hgi : sumI (w.1 8) (nI i) 6 = g i := by rw [hg]; exact sum_same hn hi (fun d hd => (tA d hd).2.2.1)
            rw [f_X5_power_l46, f_X5_power_h46, if_neg (jj_le_nlt (nI_le (show i ≤ 2 ^ n - 1 by omega) (by omega))), seats_c, jj_cal, hgi, jj_bnd]
            unfold wStep
            by_cases hb : (nI i >>> (nI d &&& 31)) &&& 1 = 0
            · rw [if_pos hb, if_pos hb]
              by_cases h1 : x ≤ g i
              · rw [if_pos h1, if_pos h1, hnext]
              · rw [if_neg h1, if_neg h1]
                by_cases h2 : g i + w.1 95 d < x
                · rw [if_pos h2, if_pos h2, hnext]
                · rw [if_neg h2, if_neg h2, jj_bnd, hnext]
            · rw [if_neg hb, if_neg hb, hnext]) (by
            intro f c
            show f_X5_power_l46 (f + 1) (nI d) x (nI (2 ^ n - 1)) (w.1 95 d) c (nI (2 ^ n)) w = _
            rw [f_X5_power_l46, f_X5_power_h46, if_pos (nI_lt (show 2 ^ n - 1 < 2 ^ n by omega) (by omega))]) (2 ^ n) 0 0 300 (by omega) (by omega)
        have hm : f_X6_power (nI d) x w = some (itr (wStep x (w.1 95 d) d g) 0 (2 ^ n) 0, w) := by
          rw [f_X6_power, f_X6_power_b0, isOne_yes t0 hn hd, jj_cal, if_neg jj_ne10, in_eq, if_pos ⟨g1, jj_le_nlt g2⟩, jj_cal, if_neg jj_ne10, jj_bnd, jj_bnd]
          exact jj_loop0 (F := fun f y c => f_X6_power_l25 f (nI d) x c y w) (s := wStep x (w.1 95 d) d g) (ex := fun c => some (c, w)) (N := 2 ^ n) (by
            intro f i c hi
            show f_X6_power_l25 (f + 1) (nI d) x c (nI i) w = f_X6_power_l25 f (nI d) x (wStep x (w.1 95 d) d g i c) (nI (i + 1)) w
            rw [f_X6_power_l25, f_X6_power_h25, wget_def, t0, jj_shl (show n < 7 by omega), if_neg (nI_ge hi (by omega)), has_eq, jj_cal]
            unfold wStep
            by_cases hb : (nI i >>> (nI d &&& 31)) &&& 1 = 0
            · rw [if_pos hb, if_pos hb, if_pos (show (0 : Int32) = 0 from rfl), seats_m hn t0, jj_cal, show sumI (w.1 95) (nI i) n = g i by rw [hg]]
              by_cases h1 : x ≤ g i
              · rw [if_pos h1, if_pos h1, jj_bnd, jj_bnd, nI_1, Int32.add_zero]
              · rw [if_neg h1, if_neg h1, seats_m hn t0, jj_cal, jj_grd (jj_i6 (show d < 6 by omega)), jj_tn (show d < 2 ^ 31 by omega), wget_def, show sumI (w.1 95) (nI i) n = g i by rw [hg]]
                by_cases h2 : g i + w.1 95 d < x
                · rw [if_pos h2, if_pos h2, jj_bnd, jj_bnd, nI_1, Int32.add_zero]
                · rw [if_neg h2, if_neg h2, jj_bnd, jj_bnd, nI_1]
            · rw [if_neg hb, if_neg hb, if_neg jj_ne10, jj_bnd, jj_bnd, nI_1, Int32.add_zero]) (by
            intro f c
            show f_X6_power_l25 (f + 1) (nI d) x c (nI (2 ^ n)) w = _
            rw [f_X6_power_l25, f_X6_power_h25, wget_def, t0, jj_shl (show n < 7 by omega), if_pos (nI_le (Nat.le_refl _) (by omega))]) (2 ^ n) 0 0 300 (by omega) (by omega)
        exact ⟨_, w, w, hc, hm, hI⟩
      · refine ⟨-1, w, w, ?_, ?_, hI⟩
        · rw [f_X5_power, f_X5_power_b0, isTold_yes t1 hn hd, jj_cal, if_neg jj_ne10, if_neg g1, if_neg g2]
        · rw [f_X6_power, f_X6_power_b0, isOne_yes t0 hn hd, jj_cal, if_neg jj_ne10, in_eq, if_neg (fun q => q.2 (jj_nle_lt g2)), jj_cal, if_pos rfl]
  · refine ⟨-1, w, w, ?_, ?_, hI⟩
    · rw [f_X5_power, f_X5_power_b0, isTold_no t1 hn hx, jj_cal, if_pos rfl]
    · rw [f_X6_power, f_X6_power_b0, isOne_no t0 hn hx, jj_cal, if_pos rfl]
