abbrev rm_X4_skewer : Room := { frames := 1, cells := 0, slots := 0, locals := 15 }
set_option maxHeartbeats 1000000 in
set_option maxRecDepth 20000 in
theorem o_X4_skewer_b32 {E : Ex} {g : Gx} (C : Ctx E RX4 cX4_skewer rm_X4_skewer 4 g) {rr : Unit} {wr : Wd} (hR : Rets E g none none wr) {k0 : Nat} (hk0 : kindOf k0 = 4) {kh9 : (Int32 → Int32 → Int32 → Wd → Option (Unit × Wd))} (Hh9 : ∀ (x1 : Int32) (x2 : Int32) (x3 : Int32) (w : Wd), kh9 x1 x2 x3 w = some (rr, wr) → Xx E 4 g 9 [(0, .ref (ad g k0)), (1, .int x1), (2, .int x2), (3, .int x3)] [] w) (x1 : Int32) (x2 : Int32) (x3 : Int32) (w : Wd) (hM : f_X4_skewer_b32 k0 kh9 x1 x2 x3 w = some (rr, wr)) : Xx E 4 g 32 [(0, .ref (ad g k0)), (1, .int x1), (2, .int x2), (3, .int x3)] [] w := by
  unfold f_X4_skewer_b32 at hM
  obtain ⟨x3_1, e_2, hM⟩ := bd hM
  refine x_iinc (L' := [(3, .int x3_1), (0, .ref (ad g k0)), (1, .int x1), (2, .int x2)]) C dX4_skewer_32 3 rfl (v := x3_1) (by rw [e_2]; first | rfl | decide) (by decide) rfl ?_
  refine x_goto (tgt := 9) C dX4_skewer_35 (by decide) ?_
  refine x_sub (L' := [(0, .ref (ad g k0)), (1, .int x1), (2, .int x2), (3, .int x3_1)]) [1, 2, 3, 0] rfl ?_
  exact Hh9 x1 x2 x3_1 w hM
set_option maxHeartbeats 1000000 in
set_option maxRecDepth 20000 in
theorem o_X4_skewer_h9 {E : Ex} {g : Gx} (C : Ctx E RX4 cX4_skewer rm_X4_skewer 4 g) {rr : Unit} {wr : Wd} (hR : Rets E g none none wr) {k0 : Nat} (hk0 : kindOf k0 = 4) {kh9 : (Int32 → Int32 → Int32 → Wd → Option (Unit × Wd))} (Hh9 : ∀ (x1 : Int32) (x2 : Int32) (x3 : Int32) (w : Wd), kh9 x1 x2 x3 w = some (rr, wr) → Xx E 4 g 9 [(0, .ref (ad g k0)), (1, .int x1), (2, .int x2), (3, .int x3)] [] w) (x1 : Int32) (x2 : Int32) (x3 : Int32) (w : Wd) (hM : f_X4_skewer_h9 k0 kh9 x1 x2 x3 w = some (rr, wr)) : Xx E 4 g 9 [(0, .ref (ad g k0)), (1, .int x1), (2, .int x2), (3, .int x3)] [] w := by
  unfold f_X4_skewer_h9 at hM
  refine x_iload_n C dX4_skewer_9 3 rfl rfl ?_
  refine x_bipush (v := 6) C dX4_skewer_10 (by decide) ?_
  refine x_icmp_ge (tgt := 38) C dX4_skewer_12 (by decide) (fun c_1 => ?_) (fun c_1 => ?_)
  · have hM := ip c_1 hM
    refine x_aload_n C dX4_skewer_38 0 rfl rfl ?_
    refine xg_4_3 C hk0 gw_200 dX4_skewer_39 ?_
    refine x_iload_n C dX4_skewer_42 1 rfl rfl ?_
    refine x_iconst (v := 1) C dX4_skewer_43 (by decide) ?_
    refine x_aload_n C dX4_skewer_44 0 rfl rfl ?_
    refine xg_4_3 C hk0 gw_200 dX4_skewer_45 ?_
    refine x_iload_n C dX4_skewer_48 1 rfl rfl ?_
    obtain ⟨q_2, hM⟩ := gd hM
    refine x_iald C (kA4_2 hk0) (lA4_2 hk0) q_2 rfl dX4_skewer_49 ?_
    refine x_iconst (v := 2) C dX4_skewer_50 (by decide) ?_
    refine x_idiv C dX4_skewer_51 (by decide) ?_
    refine x_mmax C gw_529 gw_500 gw_90 mc_max (Nat.le_of_ble_eq_true rfl) (Nat.le_of_ble_eq_true rfl) dX4_skewer_52 ?_
    obtain ⟨q_3, hM⟩ := gd hM
    obtain ⟨w_4, e_5, hM⟩ := bd hM
    refine x_iast C (kA4_2 hk0) (lA4_2 hk0) q_3 rfl dX4_skewer_55 ?_
    refine x_w e_5 ?_
    obtain ⟨rfl, rfl⟩ := rt hM
    exact x_vret C hR rfl dX4_skewer_56
  · have hM := iq c_1 hM
    refine x_iload_n C dX4_skewer_15 2 rfl rfl ?_
    refine x_iload_n C dX4_skewer_16 3 rfl rfl ?_
    refine x_ishr C dX4_skewer_17 ?_
    refine x_iconst (v := 1) C dX4_skewer_18 (by decide) ?_
    refine x_iand C dX4_skewer_19 ?_
    refine x_if_eq (tgt := 32) C dX4_skewer_20 (by decide) (fun c_6 => ?_) (fun c_6 => ?_)
    · have hM := ip c_6 hM
      refine x_sub (L' := [(0, .ref (ad g k0)), (1, .int x1), (2, .int x2), (3, .int x3)]) [0, 1, 2, 3] rfl ?_
      exact o_X4_skewer_b32 C hR hk0 Hh9 x1 x2 x3 w hM
    · have hM := iq c_6 hM
      refine x_aload_n C dX4_skewer_23 0 rfl rfl ?_
      refine xg_4_4 C hk0 gw_202 dX4_skewer_24 ?_
      refine x_iload_n C dX4_skewer_27 3 rfl rfl ?_
      refine x_iconst (v := 1) C dX4_skewer_28 (by decide) ?_
      refine x_iload_n C dX4_skewer_29 3 rfl rfl ?_
      refine x_ishl C dX4_skewer_30 ?_
      obtain ⟨q_7, hM⟩ := gd hM
      obtain ⟨w_8, e_9, hM⟩ := bd hM
      refine x_iast C (kA4_3 hk0) (lA4_3 hk0) q_7 rfl dX4_skewer_31 ?_
      refine x_w e_9 ?_
      refine x_sub (L' := [(0, .ref (ad g k0)), (1, .int x1), (2, .int x2), (3, .int x3)]) [0, 1, 2, 3] rfl ?_
      exact o_X4_skewer_b32 C hR hk0 Hh9 x1 x2 x3 w_8 hM
theorem o_X4_skewer_l9 {E : Ex} {g : Gx} (C : Ctx E RX4 cX4_skewer rm_X4_skewer 4 g) {rr : Unit} {wr : Wd} (hR : Rets E g none none wr) {k0 : Nat} (hk0 : kindOf k0 = 4) : ∀ (n : Nat) (x1 : Int32) (x2 : Int32) (x3 : Int32) (w : Wd), f_X4_skewer_l9 k0 n x1 x2 x3 w = some (rr, wr) → Xx E 4 g 9 [(0, .ref (ad g k0)), (1, .int x1), (2, .int x2), (3, .int x3)] [] w := by
  intro n
  induction n with
  | zero =>
    intro x1 x2 x3 w hM
    rw [f_X4_skewer_l9] at hM
    cases hM
  | succ n ih =>
    intro x1 x2 x3 w hM
    rw [f_X4_skewer_l9] at hM
    exact o_X4_skewer_h9 C hR hk0 ih x1 x2 x3 w hM
set_option maxHeartbeats 1000000 in
set_option maxRecDepth 20000 in
theorem o_X4_skewer_b0 {E : Ex} {g : Gx} (C : Ctx E RX4 cX4_skewer rm_X4_skewer 4 g) {rr : Unit} {wr : Wd} (hR : Rets E g none none wr) {k0 : Nat} (hk0 : kindOf k0 = 4) (x1 : Int32) (w : Wd) (hM : f_X4_skewer_b0 k0 x1 w = some (rr, wr)) : Xx E 4 g 0 [(0, .ref (ad g k0)), (1, .int x1)] [] w := by
  unfold f_X4_skewer_b0 at hM
  refine x_aload_n C dX4_skewer_0 0 rfl rfl ?_
  refine xg_4_4 C hk0 gw_202 dX4_skewer_1 ?_
  refine x_iload_n C dX4_skewer_4 1 rfl rfl ?_
  obtain ⟨q_1, hM⟩ := gd hM
  refine x_iald C (kA4_3 hk0) (lA4_3 hk0) q_1 rfl dX4_skewer_5 ?_
  obtain ⟨x2_2, e_3, hM⟩ := bd hM
  refine x_top e_3 ?_
  refine x_istore_n (L' := [(2, .int x2_2), (0, .ref (ad g k0)), (1, .int x1)]) C dX4_skewer_6 rfl (by decide) rfl ?_
  refine x_iconst (v := 0) C dX4_skewer_7 (by decide) ?_
  obtain ⟨x3_4, e_5, hM⟩ := bd hM
  refine x_top e_5 ?_
  refine x_istore_n (L' := [(3, .int x3_4), (2, .int x2_2), (0, .ref (ad g k0)), (1, .int x1)]) C dX4_skewer_8 rfl (by decide) rfl ?_
  refine x_sub (L' := [(0, .ref (ad g k0)), (1, .int x1), (2, .int x2_2), (3, .int x3_4)]) [2, 3, 1, 0] rfl ?_
  exact o_X4_skewer_l9 C hR hk0 300 x1 x2_2 x3_4 w hM
theorem c_X4_skewer (l : Launch) (g : Gx) (k0 : Nat) (x1 : Int32) (hk0 : kindOf k0 = 4) (w : Wd) {rr : Unit} {wr : Wd} (hM : f_X4_skewer k0 x1 w = some (rr, wr)) : MetM l yX4_skewer cX4_skewer 4 none rm_X4_skewer g [.ref (ad g k0), .int x1] w none wr := by
  refine met_of (by decide) (Nat.le_of_ble_eq_true rfl) (fun E hl C hR => ?_)
  refine x_sub (L' := [(0, .ref (ad g k0)), (1, .int x1)]) [0, 1] rfl ?_
  exact o_X4_skewer_b0 C hR hk0 x1 w hM
abbrev rm_X5_skewers : Room := { frames := 4, cells := 0, slots := 0, locals := 81 }
set_option maxHeartbeats 1000000 in
set_option maxRecDepth 20000 in
theorem o_X5_skewers_b0 {E : Ex} {g : Gx} (C : Ctx E RX5 cX5_skewers rm_X5_skewers 2 g) {rr : Int32} {wr : Wd} (hR : Rets E g (some .int) (some (.int rr)) wr) (x1 : Int32) (w : Wd) (hM : f_X5_skewers_b0 x1 w = some (rr, wr)) : Xx E 2 g 0 [(0, .ref (ad g 0)), (1, .int x1)] [] w := by
  unfold f_X5_skewers_b0 at hM
  refine x_aload_n C dX5_skewers_0 0 rfl rfl ?_
  refine x_iload_n C dX5_skewers_1 1 rfl rfl ?_
  obtain ⟨r_2, w_1, h_3, hM⟩ := cl hM
  refine x_callV (As := [.int x1]) C (c_X5_isTold E.l g x1 w h_3) k_X5_isTold kd_0 (by decide) rfl rfl gw_385 rfl rfl ⟨Nat.le_of_ble_eq_true rfl, Nat.le_of_ble_eq_true rfl⟩ rfl rfl (Nat.le_of_ble_eq_true rfl) dX5_skewers_2 ?_
  refine x_if_ne (tgt := 10) C dX5_skewers_5 (by decide) (fun c_4 => ?_) (fun c_4 => ?_)
  · have hM := iq c_4 hM
    refine x_aload_n C dX5_skewers_10 0 rfl rfl ?_
    refine xg_5_3 C kd_0 gw_273 dX5_skewers_11 ?_
    refine x_iload_n C dX5_skewers_14 1 rfl rfl ?_
    obtain ⟨r_6, w_5, h_7, hM⟩ := cl hM
    refine x_callVN (As := [.int x1]) C (c_X4_isDry E.l g 14 x1 kd_14 w_1 h_7) k_X4_isDry kd_14 (by decide) rfl rfl nw_453 rfl rfl ⟨Nat.le_of_ble_eq_true rfl, Nat.le_of_ble_eq_true rfl⟩ rfl rfl (Nat.le_of_ble_eq_true rfl) dX5_skewers_15 ?_
    refine x_if_eq (tgt := 24) C dX5_skewers_18 (by decide) (fun c_8 => ?_) (fun c_8 => ?_)
    · have hM := ip c_8 hM
      refine x_aload_n C dX5_skewers_24 0 rfl rfl ?_
      refine xg_5_5 C kd_0 gw_275 dX5_skewers_25 ?_
      refine x_aload_n C dX5_skewers_28 0 rfl rfl ?_
      refine xg_5_3 C kd_0 gw_273 dX5_skewers_29 ?_
      obtain ⟨r_10, w_9, h_11, hM⟩ := cl hM
      refine x_callVNv (As := [.ref (ad g 14)]) C (c_X0_remember E.l g 14 kd_14 w_5 h_11) k_X0_remember kd_24 (by decide) rfl rfl nw_454 rfl rfl ⟨Nat.le_of_ble_eq_true rfl, Nat.le_of_ble_eq_true rfl⟩ rfl rfl (Nat.le_of_ble_eq_true rfl) dX5_skewers_32 ?_
      refine x_aload_n C dX5_skewers_35 0 rfl rfl ?_
      refine xg_5_3 C kd_0 gw_273 dX5_skewers_36 ?_
      refine x_iload_n C dX5_skewers_39 1 rfl rfl ?_
      obtain ⟨r_13, w_12, h_14, hM⟩ := cl hM
      refine x_callVNv (As := [.int x1]) C (c_X4_skewer E.l g 14 x1 kd_14 w_9 h_14) k_X4_skewer kd_14 (by decide) rfl rfl nw_525 rfl rfl ⟨Nat.le_of_ble_eq_true rfl, Nat.le_of_ble_eq_true rfl⟩ rfl rfl (Nat.le_of_ble_eq_true rfl) dX5_skewers_40 ?_
      refine x_aload_n C dX5_skewers_43 0 rfl rfl ?_
      refine xg_5_3 C kd_0 gw_273 dX5_skewers_44 ?_
      refine xgN_4_3 C kd_14 nw_201 dX5_skewers_47 ?_
      refine x_iload_n C dX5_skewers_50 1 rfl rfl ?_
      obtain ⟨q_15, hM⟩ := gd hM
      refine x_iald C kd_16 ln_16 q_15 rfl dX5_skewers_51 ?_
      obtain ⟨rfl, rfl⟩ := rt hM
      exact x_iret C hR rfl dX5_skewers_52
    · have hM := iq c_8 hM
      refine x_bipush (v := -2) C dX5_skewers_21 (by decide) ?_
      obtain ⟨rfl, rfl⟩ := rt hM
      exact x_iret C hR rfl dX5_skewers_23
  · have hM := ip c_4 hM
    refine x_iconst (v := -1) C dX5_skewers_8 (by decide) ?_
    obtain ⟨rfl, rfl⟩ := rt hM
    exact x_iret C hR rfl dX5_skewers_9
theorem c_X5_skewers (l : Launch) (g : Gx) (x1 : Int32) (w : Wd) {rr : Int32} {wr : Wd} (hM : f_X5_skewers x1 w = some (rr, wr)) : MetM l yX5_skewers cX5_skewers 2 (some .int) rm_X5_skewers g [.ref (ad g 0), .int x1] w (some (.int rr)) wr := by
  refine met_of (by decide) (Nat.le_of_ble_eq_true rfl) (fun E hl C hR => ?_)
  refine x_sub (L' := [(0, .ref (ad g 0)), (1, .int x1)]) [0, 1] rfl ?_
  exact o_X5_skewers_b0 C hR x1 w hM
abbrev rm_X4_dip : Room := { frames := 0, cells := 0, slots := 0, locals := 0 }
set_option maxHeartbeats 1000000 in
set_option maxRecDepth 20000 in
theorem o_X4_dip_h2 {E : Ex} {g : Gx} (C : Ctx E RX4 cX4_dip rm_X4_dip 3 g) {rr : Unit} {wr : Wd} (hR : Rets E g none none wr) {k0 : Nat} (hk0 : kindOf k0 = 4) {kh2 : (Int32 → Int32 → Wd → Option (Unit × Wd))} (Hh2 : ∀ (x1 : Int32) (x2 : Int32) (w : Wd), kh2 x1 x2 w = some (rr, wr) → Xx E 3 g 2 [(0, .ref (ad g k0)), (1, .int x1), (2, .int x2)] [] w) (x1 : Int32) (x2 : Int32) (w : Wd) (hM : f_X4_dip_h2 k0 kh2 x1 x2 w = some (rr, wr)) : Xx E 3 g 2 [(0, .ref (ad g k0)), (1, .int x1), (2, .int x2)] [] w := by
  unfold f_X4_dip_h2 at hM
  refine x_iload_n C dX4_dip_2 2 rfl rfl ?_
  refine x_bipush (v := 6) C dX4_dip_3 (by decide) ?_
  refine x_icmp_ge (tgt := 28) C dX4_dip_5 (by decide) (fun c_1 => ?_) (fun c_1 => ?_)
  · have hM := ip c_1 hM
    refine x_aload_n C dX4_dip_28 0 rfl rfl ?_
    refine xg_4_4 C hk0 gw_202 dX4_dip_29 ?_
    refine x_iload_n C dX4_dip_32 1 rfl rfl ?_
    refine x_iconst (v := 1) C dX4_dip_33 (by decide) ?_
    refine x_iload_n C dX4_dip_34 1 rfl rfl ?_
    refine x_ishl C dX4_dip_35 ?_
    obtain ⟨q_2, hM⟩ := gd hM
    obtain ⟨w_3, e_4, hM⟩ := bd hM
    refine x_iast C (kA4_3 hk0) (lA4_3 hk0) q_2 rfl dX4_dip_36 ?_
    refine x_w e_4 ?_
    refine x_aload_n C dX4_dip_37 0 rfl rfl ?_
    refine xg_4_2 C hk0 gw_198 dX4_dip_38 ?_
    refine x_iload_n C dX4_dip_41 1 rfl rfl ?_
    refine x_bipush (v := -9) C dX4_dip_42 (by decide) ?_
    obtain ⟨q_5, hM⟩ := gd hM
    obtain ⟨w_6, e_7, hM⟩ := bd hM
    refine x_iast C (kA4_1 hk0) (lA4_1 hk0) q_5 rfl dX4_dip_44 ?_
    refine x_w e_7 ?_
    obtain ⟨rfl, rfl⟩ := rt hM
    exact x_vret C hR rfl dX4_dip_45
  · have hM := iq c_1 hM
    refine x_aload_n C dX4_dip_8 0 rfl rfl ?_
    refine xg_4_4 C hk0 gw_202 dX4_dip_9 ?_
    refine x_iload_n C dX4_dip_12 2 rfl rfl ?_
    refine x_dup2 C dX4_dip_13 rfl rfl ?_
    obtain ⟨q_8, hM⟩ := gd hM
    refine x_iald C (kA4_3 hk0) (lA4_3 hk0) q_8 rfl dX4_dip_14 ?_
    refine x_iconst (v := 1) C dX4_dip_15 (by decide) ?_
    refine x_iload_n C dX4_dip_16 1 rfl rfl ?_
    refine x_ishl C dX4_dip_17 ?_
    refine x_iconst (v := -1) C dX4_dip_18 (by decide) ?_
    refine x_ixor C dX4_dip_19 ?_
    refine x_iand C dX4_dip_20 ?_
    obtain ⟨q_9, hM⟩ := gd hM
    obtain ⟨w_10, e_11, hM⟩ := bd hM
    refine x_iast C (kA4_3 hk0) (lA4_3 hk0) q_9 rfl dX4_dip_21 ?_
    refine x_w e_11 ?_
    obtain ⟨x2_12, e_13, hM⟩ := bd hM
    refine x_iinc (L' := [(2, .int x2_12), (0, .ref (ad g k0)), (1, .int x1)]) C dX4_dip_22 2 rfl (v := x2_12) (by rw [e_13]; first | rfl | decide) (by decide) rfl ?_
    refine x_goto (tgt := 2) C dX4_dip_25 (by decide) ?_
    refine x_sub (L' := [(0, .ref (ad g k0)), (1, .int x1), (2, .int x2_12)]) [1, 2, 0] rfl ?_
    exact Hh2 x1 x2_12 w_10 hM
theorem o_X4_dip_l2 {E : Ex} {g : Gx} (C : Ctx E RX4 cX4_dip rm_X4_dip 3 g) {rr : Unit} {wr : Wd} (hR : Rets E g none none wr) {k0 : Nat} (hk0 : kindOf k0 = 4) : ∀ (n : Nat) (x1 : Int32) (x2 : Int32) (w : Wd), f_X4_dip_l2 k0 n x1 x2 w = some (rr, wr) → Xx E 3 g 2 [(0, .ref (ad g k0)), (1, .int x1), (2, .int x2)] [] w := by
  intro n
  induction n with
  | zero =>
    intro x1 x2 w hM
    rw [f_X4_dip_l2] at hM
    cases hM
  | succ n ih =>
    intro x1 x2 w hM
    rw [f_X4_dip_l2] at hM
    exact o_X4_dip_h2 C hR hk0 ih x1 x2 w hM
set_option maxHeartbeats 1000000 in
set_option maxRecDepth 20000 in
theorem o_X4_dip_b0 {E : Ex} {g : Gx} (C : Ctx E RX4 cX4_dip rm_X4_dip 3 g) {rr : Unit} {wr : Wd} (hR : Rets E g none none wr) {k0 : Nat} (hk0 : kindOf k0 = 4) (x1 : Int32) (w : Wd) (hM : f_X4_dip_b0 k0 x1 w = some (rr, wr)) : Xx E 3 g 0 [(0, .ref (ad g k0)), (1, .int x1)] [] w := by
  unfold f_X4_dip_b0 at hM
  refine x_iconst (v := 0) C dX4_dip_0 (by decide) ?_
  obtain ⟨x2_1, e_2, hM⟩ := bd hM
  refine x_top e_2 ?_
  refine x_istore_n (L' := [(2, .int x2_1), (0, .ref (ad g k0)), (1, .int x1)]) C dX4_dip_1 rfl (by decide) rfl ?_
  refine x_sub (L' := [(0, .ref (ad g k0)), (1, .int x1), (2, .int x2_1)]) [1, 2, 0] rfl ?_
  exact o_X4_dip_l2 C hR hk0 300 x1 x2_1 w hM
theorem c_X4_dip (l : Launch) (g : Gx) (k0 : Nat) (x1 : Int32) (hk0 : kindOf k0 = 4) (w : Wd) {rr : Unit} {wr : Wd} (hM : f_X4_dip k0 x1 w = some (rr, wr)) : MetM l yX4_dip cX4_dip 3 none rm_X4_dip g [.ref (ad g k0), .int x1] w none wr := by
  refine met_of (by decide) (Nat.le_of_ble_eq_true rfl) (fun E hl C hR => ?_)
  refine x_sub (L' := [(0, .ref (ad g k0)), (1, .int x1)]) [0, 1] rfl ?_
  exact o_X4_dip_b0 C hR hk0 x1 w hM
abbrev rm_X5_dips : Room := { frames := 4, cells := 0, slots := 0, locals := 81 }
set_option maxHeartbeats 1000000 in
set_option maxRecDepth 20000 in
theorem o_X5_dips_b0 {E : Ex} {g : Gx} (C : Ctx E RX5 cX5_dips rm_X5_dips 2 g) {rr : Int32} {wr : Wd} (hR : Rets E g (some .int) (some (.int rr)) wr) (x1 : Int32) (w : Wd) (hM : f_X5_dips_b0 x1 w = some (rr, wr)) : Xx E 2 g 0 [(0, .ref (ad g 0)), (1, .int x1)] [] w := by
  unfold f_X5_dips_b0 at hM
  refine x_aload_n C dX5_dips_0 0 rfl rfl ?_
  refine x_iload_n C dX5_dips_1 1 rfl rfl ?_
  obtain ⟨r_2, w_1, h_3, hM⟩ := cl hM
  refine x_callV (As := [.int x1]) C (c_X5_isTold E.l g x1 w h_3) k_X5_isTold kd_0 (by decide) rfl rfl gw_385 rfl rfl ⟨Nat.le_of_ble_eq_true rfl, Nat.le_of_ble_eq_true rfl⟩ rfl rfl (Nat.le_of_ble_eq_true rfl) dX5_dips_2 ?_
  refine x_if_ne (tgt := 10) C dX5_dips_5 (by decide) (fun c_4 => ?_) (fun c_4 => ?_)
  · have hM := iq c_4 hM
    refine x_aload_n C dX5_dips_10 0 rfl rfl ?_
    refine xg_5_3 C kd_0 gw_273 dX5_dips_11 ?_
    refine xgN_4_2 C kd_14 nw_199 dX5_dips_14 ?_
    refine x_iload_n C dX5_dips_17 1 rfl rfl ?_
    obtain ⟨q_5, hM⟩ := gd hM
    refine x_iald C kd_15 ln_15 q_5 rfl dX5_dips_18 ?_
    refine x_if_eq (tgt := 25) C dX5_dips_19 (by decide) (fun c_6 => ?_) (fun c_6 => ?_)
    · have hM := ip c_6 hM
      refine x_aload_n C dX5_dips_25 0 rfl rfl ?_
      refine xg_5_5 C kd_0 gw_275 dX5_dips_26 ?_
      refine x_aload_n C dX5_dips_29 0 rfl rfl ?_
      refine xg_5_3 C kd_0 gw_273 dX5_dips_30 ?_
      obtain ⟨r_8, w_7, h_9, hM⟩ := cl hM
      refine x_callVNv (As := [.ref (ad g 14)]) C (c_X0_remember E.l g 14 kd_14 w_1 h_9) k_X0_remember kd_24 (by decide) rfl rfl nw_454 rfl rfl ⟨Nat.le_of_ble_eq_true rfl, Nat.le_of_ble_eq_true rfl⟩ rfl rfl (Nat.le_of_ble_eq_true rfl) dX5_dips_33 ?_
      refine x_aload_n C dX5_dips_36 0 rfl rfl ?_
      refine xg_5_3 C kd_0 gw_273 dX5_dips_37 ?_
      refine x_iload_n C dX5_dips_40 1 rfl rfl ?_
      obtain ⟨r_11, w_10, h_12, hM⟩ := cl hM
      refine x_callVNv (As := [.int x1]) C (c_X4_dip E.l g 14 x1 kd_14 w_7 h_12) k_X4_dip kd_14 (by decide) rfl rfl nw_534 rfl rfl ⟨Nat.le_of_ble_eq_true rfl, Nat.le_of_ble_eq_true rfl⟩ rfl rfl (Nat.le_of_ble_eq_true rfl) dX5_dips_41 ?_
      refine x_aload_n C dX5_dips_44 0 rfl rfl ?_
      obtain ⟨r_14, w_13, h_15, hM⟩ := cl hM
      refine x_callV (As := []) C (c_X5_dryOnes E.l g  w_10 h_15) k_X5_dryOnes kd_0 (by decide) rfl rfl gw_393 rfl rfl ⟨Nat.le_of_ble_eq_true rfl, Nat.le_of_ble_eq_true rfl⟩ rfl rfl (Nat.le_of_ble_eq_true rfl) dX5_dips_45 ?_
      obtain ⟨r_17, w_16, h_18, hM⟩ := cl hM
      refine x_callS (As := [.int r_14]) C (c_J6_bitCount_0f7a4 E.l g r_14 w_13 h_18) k_J6_bitCount_0f7a4 gw_421 rfl rfl ⟨Nat.le_of_ble_eq_true rfl, Nat.le_of_ble_eq_true rfl⟩ rfl rfl (Nat.le_of_ble_eq_true rfl) dX5_dips_48 ?_
      obtain ⟨rfl, rfl⟩ := rt hM
      exact x_iret C hR rfl dX5_dips_51
    · have hM := iq c_6 hM
      refine x_bipush (v := -2) C dX5_dips_22 (by decide) ?_
      obtain ⟨rfl, rfl⟩ := rt hM
      exact x_iret C hR rfl dX5_dips_24
  · have hM := ip c_4 hM
    refine x_iconst (v := -1) C dX5_dips_8 (by decide) ?_
    obtain ⟨rfl, rfl⟩ := rt hM
    exact x_iret C hR rfl dX5_dips_9
theorem c_X5_dips (l : Launch) (g : Gx) (x1 : Int32) (w : Wd) {rr : Int32} {wr : Wd} (hM : f_X5_dips x1 w = some (rr, wr)) : MetM l yX5_dips cX5_dips 2 (some .int) rm_X5_dips g [.ref (ad g 0), .int x1] w (some (.int rr)) wr := by
  refine met_of (by decide) (Nat.le_of_ble_eq_true rfl) (fun E hl C hR => ?_)
  refine x_sub (L' := [(0, .ref (ad g 0)), (1, .int x1)]) [0, 1] rfl ?_
  exact o_X5_dips_b0 C hR x1 w hM
abbrev rm_X0_recall : Room := { frames := 3, cells := 0, slots := 0, locals := 60 }
set_option maxHeartbeats 1000000 in
set_option maxRecDepth 20000 in
theorem o_X0_recall_b0 {E : Ex} {g : Gx} (C : Ctx E RX0 cX0_recall rm_X0_recall 2 g) {rr : Unit} {wr : Wd} (hR : Rets E g none none wr) {k1 : Nat} (hk1 : kindOf k1 = 4) (w : Wd) (hM : f_X0_recall_b0 k1 w = some (rr, wr)) : Xx E 2 g 0 [(0, .ref (ad g 24)), (1, .ref (ad g k1))] [] w := by
  unfold f_X0_recall_b0 at hM
  refine x_aload_n C dX0_recall_0 0 rfl rfl ?_
  refine x_aload_n C dX0_recall_1 0 rfl rfl ?_
  refine xg_0_1 C kd_24 gw_229 dX0_recall_2 ?_
  refine x_if_le (tgt := 17) C dX0_recall_5 (by decide) (fun c_1 => ?_) (fun c_1 => ?_)
  · have hM := ip c_1 hM
    refine x_bipush (v := 9) C dX0_recall_17 (by decide) ?_
    obtain ⟨w_2, e_3, hM⟩ := bd hM
    refine xp_0_1 C kd_24 gw_229 dX0_recall_19 ?_
    refine x_w e_3 ?_
    refine x_aload_n C dX0_recall_22 0 rfl rfl ?_
    refine x_iconst (v := 0) C dX0_recall_23 (by decide) ?_
    refine x_aload_n C dX0_recall_24 0 rfl rfl ?_
    refine xg_0_2 C kd_24 gw_230 dX0_recall_25 ?_
    refine x_iconst (v := 1) C dX0_recall_28 (by decide) ?_
    refine x_isub C dX0_recall_29 ?_
    refine x_mmax C gw_546 gw_500 gw_90 mc_max (Nat.le_of_ble_eq_true rfl) (Nat.le_of_ble_eq_true rfl) dX0_recall_30 ?_
    obtain ⟨w_4, e_5, hM⟩ := bd hM
    refine xp_0_2 C kd_24 gw_230 dX0_recall_33 ?_
    refine x_w e_5 ?_
    refine x_aload_n C dX0_recall_36 1 rfl rfl ?_
    refine x_aload_n C dX0_recall_37 0 rfl rfl ?_
    obtain ⟨r_7, w_6, h_8, hM⟩ := cl hM
    refine x_callV (As := []) C (c_X0_place E.l g  w_4 h_8) k_X0_place kd_24 (by decide) rfl rfl gw_458 rfl rfl ⟨Nat.le_of_ble_eq_true rfl, Nat.le_of_ble_eq_true rfl⟩ rfl rfl (Nat.le_of_ble_eq_true rfl) dX0_recall_38 ?_
    obtain ⟨r_10, w_9, h_11, hM⟩ := cl hM
    refine x_callSv (As := [.ref (ad g k1), rfv g r_7]) C (c_X0_copyInto E.l g (some k1) r_7 w_6 h_11) k_X0_copyInto gw_462 rfl rfl ⟨Nat.le_of_ble_eq_true rfl, Nat.le_of_ble_eq_true rfl⟩ rfl rfl (Nat.le_of_ble_eq_true rfl) dX0_recall_41 ?_
    obtain ⟨rfl, rfl⟩ := rt hM
    exact x_vret C hR rfl dX0_recall_44
  · have hM := iq c_1 hM
    refine x_aload_n C dX0_recall_8 0 rfl rfl ?_
    refine xg_0_1 C kd_24 gw_229 dX0_recall_9 ?_
    refine x_iconst (v := 1) C dX0_recall_12 (by decide) ?_
    refine x_isub C dX0_recall_13 ?_
    refine x_goto (tgt := 19) C dX0_recall_14 (by decide) ?_
    obtain ⟨w_12, e_13, hM⟩ := bd hM
    refine xp_0_1 C kd_24 gw_229 dX0_recall_19 ?_
    refine x_w e_13 ?_
    refine x_aload_n C dX0_recall_22 0 rfl rfl ?_
    refine x_iconst (v := 0) C dX0_recall_23 (by decide) ?_
    refine x_aload_n C dX0_recall_24 0 rfl rfl ?_
    refine xg_0_2 C kd_24 gw_230 dX0_recall_25 ?_
    refine x_iconst (v := 1) C dX0_recall_28 (by decide) ?_
    refine x_isub C dX0_recall_29 ?_
    refine x_mmax C gw_546 gw_500 gw_90 mc_max (Nat.le_of_ble_eq_true rfl) (Nat.le_of_ble_eq_true rfl) dX0_recall_30 ?_
    obtain ⟨w_14, e_15, hM⟩ := bd hM
    refine xp_0_2 C kd_24 gw_230 dX0_recall_33 ?_
    refine x_w e_15 ?_
    refine x_aload_n C dX0_recall_36 1 rfl rfl ?_
    refine x_aload_n C dX0_recall_37 0 rfl rfl ?_
    obtain ⟨r_17, w_16, h_18, hM⟩ := cl hM
    refine x_callV (As := []) C (c_X0_place E.l g  w_14 h_18) k_X0_place kd_24 (by decide) rfl rfl gw_458 rfl rfl ⟨Nat.le_of_ble_eq_true rfl, Nat.le_of_ble_eq_true rfl⟩ rfl rfl (Nat.le_of_ble_eq_true rfl) dX0_recall_38 ?_
    obtain ⟨r_20, w_19, h_21, hM⟩ := cl hM
    refine x_callSv (As := [.ref (ad g k1), rfv g r_17]) C (c_X0_copyInto E.l g (some k1) r_17 w_16 h_21) k_X0_copyInto gw_462 rfl rfl ⟨Nat.le_of_ble_eq_true rfl, Nat.le_of_ble_eq_true rfl⟩ rfl rfl (Nat.le_of_ble_eq_true rfl) dX0_recall_41 ?_
    obtain ⟨rfl, rfl⟩ := rt hM
    exact x_vret C hR rfl dX0_recall_44
theorem c_X0_recall (l : Launch) (g : Gx) (k1 : Nat) (hk1 : kindOf k1 = 4) (w : Wd) {rr : Unit} {wr : Wd} (hM : f_X0_recall k1 w = some (rr, wr)) : MetM l yX0_recall cX0_recall 2 none rm_X0_recall g [.ref (ad g 24), .ref (ad g k1)] w none wr := by
  refine met_of (by decide) (Nat.le_of_ble_eq_true rfl) (fun E hl C hR => ?_)
  refine x_sub (L' := [(0, .ref (ad g 24)), (1, .ref (ad g k1))]) [0, 1] rfl ?_
  exact o_X0_recall_b0 C hR hk1 w hM
abbrev rm_X5_undo : Room := { frames := 4, cells := 0, slots := 0, locals := 81 }
set_option maxHeartbeats 1000000 in
set_option maxRecDepth 20000 in
theorem o_X5_undo_b0 {E : Ex} {g : Gx} (C : Ctx E RX5 cX5_undo rm_X5_undo 1 g) {rr : Int32} {wr : Wd} (hR : Rets E g (some .int) (some (.int rr)) wr) (w : Wd) (hM : f_X5_undo_b0 w = some (rr, wr)) : Xx E 1 g 0 [(0, .ref (ad g 0))] [] w := by
  unfold f_X5_undo_b0 at hM
  refine x_aload_n C dX5_undo_0 0 rfl rfl ?_
  refine xg_5_5 C kd_0 gw_275 dX5_undo_1 ?_
  refine xgN_0_2 C kd_24 nw_231 dX5_undo_4 ?_
  refine x_if_ne (tgt := 13) C dX5_undo_7 (by decide) (fun c_1 => ?_) (fun c_1 => ?_)
  · have hM := iq c_1 hM
    refine x_aload_n C dX5_undo_13 0 rfl rfl ?_
    refine xg_5_5 C kd_0 gw_275 dX5_undo_14 ?_
    refine x_aload_n C dX5_undo_17 0 rfl rfl ?_
    refine xg_5_3 C kd_0 gw_273 dX5_undo_18 ?_
    obtain ⟨r_3, w_2, h_4, hM⟩ := cl hM
    refine x_callVNv (As := [.ref (ad g 14)]) C (c_X0_recall E.l g 14 kd_14 w h_4) k_X0_recall kd_24 (by decide) rfl rfl nw_542 rfl rfl ⟨Nat.le_of_ble_eq_true rfl, Nat.le_of_ble_eq_true rfl⟩ rfl rfl (Nat.le_of_ble_eq_true rfl) dX5_undo_21 ?_
    refine x_aload_n C dX5_undo_24 0 rfl rfl ?_
    refine xg_5_5 C kd_0 gw_275 dX5_undo_25 ?_
    refine xgN_0_2 C kd_24 nw_231 dX5_undo_28 ?_
    obtain ⟨rfl, rfl⟩ := rt hM
    exact x_iret C hR rfl dX5_undo_31
  · have hM := ip c_1 hM
    refine x_bipush (v := -2) C dX5_undo_10 (by decide) ?_
    obtain ⟨rfl, rfl⟩ := rt hM
    exact x_iret C hR rfl dX5_undo_12
theorem c_X5_undo (l : Launch) (g : Gx) (w : Wd) {rr : Int32} {wr : Wd} (hM : f_X5_undo w = some (rr, wr)) : MetM l yX5_undo cX5_undo 1 (some .int) rm_X5_undo g [.ref (ad g 0)] w (some (.int rr)) wr := by
  refine met_of (by decide) (Nat.le_of_ble_eq_true rfl) (fun E hl C hR => ?_)
  refine x_sub (L' := [(0, .ref (ad g 0))]) [0] rfl ?_
  exact o_X5_undo_b0 C hR w hM
abbrev rm_X5_deep : Room := { frames := 4, cells := 0, slots := 0, locals := 82 }
set_option maxHeartbeats 1000000 in
set_option maxRecDepth 20000 in
theorem o_X5_deep_h33 {E : Ex} {g : Gx} (C : Ctx E RX5 cX5_deep rm_X5_deep 4 g) {rr : Int32} {wr : Wd} (hR : Rets E g (some .int) (some (.int rr)) wr) {kh33 : (Int32 → Int32 → Int32 → Wd → Option (Int32 × Wd))} (Hh33 : ∀ (x1 : Int32) (x2 : Int32) (x3 : Int32) (w : Wd), kh33 x1 x2 x3 w = some (rr, wr) → Xx E 4 g 33 [(0, .ref (ad g 0)), (1, .int x1), (2, .int x2), (3, .int x3)] [] w) (x1 : Int32) (x2 : Int32) (x3 : Int32) (w : Wd) (hM : f_X5_deep_h33 kh33 x1 x2 x3 w = some (rr, wr)) : Xx E 4 g 33 [(0, .ref (ad g 0)), (1, .int x1), (2, .int x2), (3, .int x3)] [] w := by
  unfold f_X5_deep_h33 at hM
  refine x_iload_n C dX5_deep_33 3 rfl rfl ?_
  refine x_iload_n C dX5_deep_34 2 rfl rfl ?_
  refine x_icmp_ge (tgt := 55) C dX5_deep_35 (by decide) (fun c_1 => ?_) (fun c_1 => ?_)
  · have hM := ip c_1 hM
    refine x_aload_n C dX5_deep_55 0 rfl rfl ?_
    refine xg_5_4 C kd_0 gw_274 dX5_deep_56 ?_
    refine xgN_4_2 C kd_19 nw_199 dX5_deep_59 ?_
    refine x_iload_n C dX5_deep_62 1 rfl rfl ?_
    obtain ⟨q_2, hM⟩ := gd hM
    refine x_iald C kd_20 ln_20 q_2 rfl dX5_deep_63 ?_
    obtain ⟨rfl, rfl⟩ := rt hM
    exact x_iret C hR rfl dX5_deep_64
  · have hM := iq c_1 hM
    refine x_aload_n C dX5_deep_38 0 rfl rfl ?_
    refine xg_5_4 C kd_0 gw_274 dX5_deep_39 ?_
    refine x_aload_n C dX5_deep_42 0 rfl rfl ?_
    refine xg_5_1 C kd_0 gw_271 dX5_deep_43 ?_
    obtain ⟨r_4, w_3, h_5, hM⟩ := cl hM
    refine x_callVNv (As := [.ref (ad g 4)]) C (c_X4_passMinute E.l g 19 4 kd_19 kd_4 w h_5) k_X4_passMinute kd_19 (by decide) rfl rfl nw_479 rfl rfl ⟨Nat.le_of_ble_eq_true rfl, Nat.le_of_ble_eq_true rfl⟩ rfl rfl (Nat.le_of_ble_eq_true rfl) dX5_deep_46 ?_
    obtain ⟨x3_6, e_7, hM⟩ := bd hM
    refine x_iinc (L' := [(3, .int x3_6), (0, .ref (ad g 0)), (1, .int x1), (2, .int x2)]) C dX5_deep_49 3 rfl (v := x3_6) (by rw [e_7]; first | rfl | decide) (by decide) rfl ?_
    refine x_goto (tgt := 33) C dX5_deep_52 (by decide) ?_
    refine x_sub (L' := [(0, .ref (ad g 0)), (1, .int x1), (2, .int x2), (3, .int x3_6)]) [1, 2, 3, 0] rfl ?_
    exact Hh33 x1 x2 x3_6 w_3 hM
theorem o_X5_deep_l33 {E : Ex} {g : Gx} (C : Ctx E RX5 cX5_deep rm_X5_deep 4 g) {rr : Int32} {wr : Wd} (hR : Rets E g (some .int) (some (.int rr)) wr) : ∀ (n : Nat) (x1 : Int32) (x2 : Int32) (x3 : Int32) (w : Wd), f_X5_deep_l33 n x1 x2 x3 w = some (rr, wr) → Xx E 4 g 33 [(0, .ref (ad g 0)), (1, .int x1), (2, .int x2), (3, .int x3)] [] w := by
  intro n
  induction n with
  | zero =>
    intro x1 x2 x3 w hM
    rw [f_X5_deep_l33] at hM
    cases hM
  | succ n ih =>
    intro x1 x2 x3 w hM
    rw [f_X5_deep_l33] at hM
    exact o_X5_deep_h33 C hR ih x1 x2 x3 w hM
set_option maxHeartbeats 1000000 in
set_option maxRecDepth 20000 in
theorem o_X5_deep_b0 {E : Ex} {g : Gx} (C : Ctx E RX5 cX5_deep rm_X5_deep 4 g) {rr : Int32} {wr : Wd} (hR : Rets E g (some .int) (some (.int rr)) wr) (x1 : Int32) (x2 : Int32) (w : Wd) (hM : f_X5_deep_b0 x1 x2 w = some (rr, wr)) : Xx E 4 g 0 [(0, .ref (ad g 0)), (1, .int x1), (2, .int x2)] [] w := by
  unfold f_X5_deep_b0 at hM
  refine x_aload_n C dX5_deep_0 0 rfl rfl ?_
  refine x_iload_n C dX5_deep_1 1 rfl rfl ?_
  obtain ⟨r_2, w_1, h_3, hM⟩ := cl hM
  refine x_callV (As := [.int x1]) C (c_X5_isTold E.l g x1 w h_3) k_X5_isTold kd_0 (by decide) rfl rfl gw_385 rfl rfl ⟨Nat.le_of_ble_eq_true rfl, Nat.le_of_ble_eq_true rfl⟩ rfl rfl (Nat.le_of_ble_eq_true rfl) dX5_deep_2 ?_
  refine x_if_eq (tgt := 18) C dX5_deep_5 (by decide) (fun c_4 => ?_) (fun c_4 => ?_)
  · have hM := ip c_4 hM
    refine x_iconst (v := -1) C dX5_deep_18 (by decide) ?_
    obtain ⟨rfl, rfl⟩ := rt hM
    exact x_iret C hR rfl dX5_deep_19
  · have hM := iq c_4 hM
    refine x_iload_n C dX5_deep_8 2 rfl rfl ?_
    refine x_if_lt (tgt := 18) C dX5_deep_9 (by decide) (fun c_5 => ?_) (fun c_5 => ?_)
    · have hM := ip c_5 hM
      refine x_iconst (v := -1) C dX5_deep_18 (by decide) ?_
      obtain ⟨rfl, rfl⟩ := rt hM
      exact x_iret C hR rfl dX5_deep_19
    · have hM := iq c_5 hM
      refine x_iload_n C dX5_deep_12 2 rfl rfl ?_
      refine x_bipush (v := 40) C dX5_deep_13 (by decide) ?_
      refine x_icmp_le (tgt := 20) C dX5_deep_15 (by decide) (fun c_6 => ?_) (fun c_6 => ?_)
      · have hM := ip c_6 hM
        refine x_aload_n C dX5_deep_20 0 rfl rfl ?_
        refine xg_5_4 C kd_0 gw_274 dX5_deep_21 ?_
        refine x_aload_n C dX5_deep_24 0 rfl rfl ?_
        refine xg_5_3 C kd_0 gw_273 dX5_deep_25 ?_
        obtain ⟨r_8, w_7, h_9, hM⟩ := cl hM
        refine x_callVNv (As := [.ref (ad g 14)]) C (c_X4_copy E.l g 19 14 kd_19 kd_14 w_1 h_9) k_X4_copy kd_19 (by decide) rfl rfl nw_551 rfl rfl ⟨Nat.le_of_ble_eq_true rfl, Nat.le_of_ble_eq_true rfl⟩ rfl rfl (Nat.le_of_ble_eq_true rfl) dX5_deep_28 ?_
        refine x_iconst (v := 0) C dX5_deep_31 (by decide) ?_
        obtain ⟨x3_10, e_11, hM⟩ := bd hM
        refine x_top e_11 ?_
        refine x_istore_n (L' := [(3, .int x3_10), (0, .ref (ad g 0)), (1, .int x1), (2, .int x2)]) C dX5_deep_32 rfl (by decide) rfl ?_
        refine x_sub (L' := [(0, .ref (ad g 0)), (1, .int x1), (2, .int x2), (3, .int x3_10)]) [1, 2, 3, 0] rfl ?_
        exact o_X5_deep_l33 C hR 300 x1 x2 x3_10 w_7 hM
      · have hM := iq c_6 hM
        refine x_iconst (v := -1) C dX5_deep_18 (by decide) ?_
        obtain ⟨rfl, rfl⟩ := rt hM
        exact x_iret C hR rfl dX5_deep_19
theorem c_X5_deep (l : Launch) (g : Gx) (x1 : Int32) (x2 : Int32) (w : Wd) {rr : Int32} {wr : Wd} (hM : f_X5_deep x1 x2 w = some (rr, wr)) : MetM l yX5_deep cX5_deep 4 (some .int) rm_X5_deep g [.ref (ad g 0), .int x1, .int x2] w (some (.int rr)) wr := by
  refine met_of (by decide) (Nat.le_of_ble_eq_true rfl) (fun E hl C hR => ?_)
  refine x_sub (L' := [(0, .ref (ad g 0)), (1, .int x1), (2, .int x2)]) [0, 1, 2] rfl ?_
  exact o_X5_deep_b0 C hR x1 x2 w hM
abbrev rm_X5_minutesTillUp : Room := { frames := 4, cells := 0, slots := 0, locals := 82 }
set_option maxHeartbeats 1000000 in
set_option maxRecDepth 20000 in
theorem o_X5_minutesTillUp_h22 {E : Ex} {g : Gx} (C : Ctx E RX5 cX5_minutesTillUp rm_X5_minutesTillUp 5 g) {rr : Int32} {wr : Wd} (hR : Rets E g (some .int) (some (.int rr)) wr) {kh22 : (Int32 → Int32 → Int32 → Wd → Option (Int32 × Wd))} (Hh22 : ∀ (x1 : Int32) (x2 : Int32) (x4 : Int32) (w : Wd), kh22 x1 x2 x4 w = some (rr, wr) → Xx E 5 g 22 [(0, .ref (ad g 0)), (1, .int x1), (2, .int x2), (4, .int x4)] [] w) (x1 : Int32) (x2 : Int32) (x4 : Int32) (w : Wd) (hM : f_X5_minutesTillUp_h22 kh22 x1 x2 x4 w = some (rr, wr)) : Xx E 5 g 22 [(0, .ref (ad g 0)), (1, .int x1), (2, .int x2), (4, .int x4)] [] w := by
  unfold f_X5_minutesTillUp_h22 at hM
  refine x_iload C dX5_minutesTillUp_22 3 rfl ?_
  refine x_iload_n C dX5_minutesTillUp_24 2 rfl rfl ?_
  refine x_icmp_gt (tgt := 60) C dX5_minutesTillUp_25 (by decide) (fun c_1 => ?_) (fun c_1 => ?_)
  · have hM := ip c_1 hM
    refine x_bipush (v := -9) C dX5_minutesTillUp_60 (by decide) ?_
    obtain ⟨rfl, rfl⟩ := rt hM
    exact x_iret C hR rfl dX5_minutesTillUp_62
  · have hM := iq c_1 hM
    refine x_aload_n C dX5_minutesTillUp_28 0 rfl rfl ?_
    refine xg_5_4 C kd_0 gw_274 dX5_minutesTillUp_29 ?_
    refine xgN_4_2 C kd_19 nw_199 dX5_minutesTillUp_32 ?_
    refine x_iload_n C dX5_minutesTillUp_35 1 rfl rfl ?_
    obtain ⟨q_2, hM⟩ := gd hM
    refine x_iald C kd_20 ln_20 q_2 rfl dX5_minutesTillUp_36 ?_
    refine x_if_ne (tgt := 43) C dX5_minutesTillUp_37 (by decide) (fun c_3 => ?_) (fun c_3 => ?_)
    · have hM := iq c_3 hM
      refine x_aload_n C dX5_minutesTillUp_43 0 rfl rfl ?_
      refine xg_5_4 C kd_0 gw_274 dX5_minutesTillUp_44 ?_
      refine x_aload_n C dX5_minutesTillUp_47 0 rfl rfl ?_
      refine xg_5_1 C kd_0 gw_271 dX5_minutesTillUp_48 ?_
      obtain ⟨r_5, w_4, h_6, hM⟩ := cl hM
      refine x_callVNv (As := [.ref (ad g 4)]) C (c_X4_passMinute E.l g 19 4 kd_19 kd_4 w h_6) k_X4_passMinute kd_19 (by decide) rfl rfl nw_479 rfl rfl ⟨Nat.le_of_ble_eq_true rfl, Nat.le_of_ble_eq_true rfl⟩ rfl rfl (Nat.le_of_ble_eq_true rfl) dX5_minutesTillUp_51 ?_
      obtain ⟨x4_7, e_8, hM⟩ := bd hM
      refine x_iinc (L' := [(4, .int x4_7), (0, .ref (ad g 0)), (1, .int x1), (2, .int x2)]) C dX5_minutesTillUp_54 3 rfl (v := x4_7) (by rw [e_8]; first | rfl | decide) (by decide) rfl ?_
      refine x_goto (tgt := 22) C dX5_minutesTillUp_57 (by decide) ?_
      refine x_sub (L' := [(0, .ref (ad g 0)), (1, .int x1), (2, .int x2), (4, .int x4_7)]) [1, 2, 3, 0] rfl ?_
      exact Hh22 x1 x2 x4_7 w_4 hM
    · have hM := ip c_3 hM
      refine x_iload C dX5_minutesTillUp_40 3 rfl ?_
      obtain ⟨rfl, rfl⟩ := rt hM
      exact x_iret C hR rfl dX5_minutesTillUp_42
theorem o_X5_minutesTillUp_l22 {E : Ex} {g : Gx} (C : Ctx E RX5 cX5_minutesTillUp rm_X5_minutesTillUp 5 g) {rr : Int32} {wr : Wd} (hR : Rets E g (some .int) (some (.int rr)) wr) : ∀ (n : Nat) (x1 : Int32) (x2 : Int32) (x4 : Int32) (w : Wd), f_X5_minutesTillUp_l22 n x1 x2 x4 w = some (rr, wr) → Xx E 5 g 22 [(0, .ref (ad g 0)), (1, .int x1), (2, .int x2), (4, .int x4)] [] w := by
  intro n
  induction n with
  | zero =>
    intro x1 x2 x4 w hM
    rw [f_X5_minutesTillUp_l22] at hM
    cases hM
  | succ n ih =>
    intro x1 x2 x4 w hM
    rw [f_X5_minutesTillUp_l22] at hM
    exact o_X5_minutesTillUp_h22 C hR ih x1 x2 x4 w hM
set_option maxHeartbeats 1000000 in
set_option maxRecDepth 20000 in
theorem o_X5_minutesTillUp_b0 {E : Ex} {g : Gx} (C : Ctx E RX5 cX5_minutesTillUp rm_X5_minutesTillUp 5 g) {rr : Int32} {wr : Wd} (hR : Rets E g (some .int) (some (.int rr)) wr) (x1 : Int32) (x2 : Int32) (x3 : Int32) (w : Wd) (hM : f_X5_minutesTillUp_b0 x1 x2 x3 w = some (rr, wr)) : Xx E 5 g 0 [(0, .ref (ad g 0)), (1, .int x1), (2, .int x2), (3, .int x3)] [] w := by
  unfold f_X5_minutesTillUp_b0 at hM
  refine x_aload_n C dX5_minutesTillUp_0 0 rfl rfl ?_
  refine xg_5_4 C kd_0 gw_274 dX5_minutesTillUp_1 ?_
  refine x_aload_n C dX5_minutesTillUp_4 0 rfl rfl ?_
  refine xg_5_3 C kd_0 gw_273 dX5_minutesTillUp_5 ?_
  obtain ⟨r_2, w_1, h_3, hM⟩ := cl hM
  refine x_callVNv (As := [.ref (ad g 14)]) C (c_X4_copy E.l g 19 14 kd_19 kd_14 w h_3) k_X4_copy kd_19 (by decide) rfl rfl nw_551 rfl rfl ⟨Nat.le_of_ble_eq_true rfl, Nat.le_of_ble_eq_true rfl⟩ rfl rfl (Nat.le_of_ble_eq_true rfl) dX5_minutesTillUp_8 ?_
  refine x_aload_n C dX5_minutesTillUp_11 0 rfl rfl ?_
  refine xg_5_4 C kd_0 gw_274 dX5_minutesTillUp_12 ?_
  refine x_iload_n C dX5_minutesTillUp_15 3 rfl rfl ?_
  obtain ⟨w_4, e_5, hM⟩ := bd hM
  refine xpN_4_1 C kd_19 nw_197 dX5_minutesTillUp_16 ?_
  refine x_w e_5 ?_
  refine x_iconst (v := 0) C dX5_minutesTillUp_19 (by decide) ?_
  obtain ⟨x4_6, e_7, hM⟩ := bd hM
  refine x_top e_7 ?_
  refine x_istore (L' := [(4, .int x4_6), (0, .ref (ad g 0)), (1, .int x1), (2, .int x2), (3, .int x3)]) C dX5_minutesTillUp_20 (by decide) rfl ?_
  refine x_sub (L' := [(0, .ref (ad g 0)), (1, .int x1), (2, .int x2), (4, .int x4_6)]) [1, 2, 3, 0] rfl ?_
  exact o_X5_minutesTillUp_l22 C hR 300 x1 x2 x4_6 w_4 hM
theorem c_X5_minutesTillUp (l : Launch) (g : Gx) (x1 : Int32) (x2 : Int32) (x3 : Int32) (w : Wd) {rr : Int32} {wr : Wd} (hM : f_X5_minutesTillUp x1 x2 x3 w = some (rr, wr)) : MetM l yX5_minutesTillUp cX5_minutesTillUp 5 (some .int) rm_X5_minutesTillUp g [.ref (ad g 0), .int x1, .int x2, .int x3] w (some (.int rr)) wr := by
  refine met_of (by decide) (Nat.le_of_ble_eq_true rfl) (fun E hl C hR => ?_)
  refine x_sub (L' := [(0, .ref (ad g 0)), (1, .int x1), (2, .int x2), (3, .int x3)]) [0, 1, 2, 3] rfl ?_
  exact o_X5_minutesTillUp_b0 C hR x1 x2 x3 w hM
abbrev rm_X5_when : Room := { frames := 5, cells := 0, slots := 0, locals := 106 }
set_option maxHeartbeats 1000000 in
set_option maxRecDepth 20000 in
theorem o_X5_when_b0 {E : Ex} {g : Gx} (C : Ctx E RX5 cX5_when rm_X5_when 2 g) {rr : Int32} {wr : Wd} (hR : Rets E g (some .int) (some (.int rr)) wr) (x1 : Int32) (w : Wd) (hM : f_X5_when_b0 x1 w = some (rr, wr)) : Xx E 2 g 0 [(0, .ref (ad g 0)), (1, .int x1)] [] w := by
  unfold f_X5_when_b0 at hM
  refine x_aload_n C dX5_when_0 0 rfl rfl ?_
  refine x_iload_n C dX5_when_1 1 rfl rfl ?_
  obtain ⟨r_2, w_1, h_3, hM⟩ := cl hM
  refine x_callV (As := [.int x1]) C (c_X5_isTold E.l g x1 w h_3) k_X5_isTold kd_0 (by decide) rfl rfl gw_385 rfl rfl ⟨Nat.le_of_ble_eq_true rfl, Nat.le_of_ble_eq_true rfl⟩ rfl rfl (Nat.le_of_ble_eq_true rfl) dX5_when_2 ?_
  refine x_if_ne (tgt := 10) C dX5_when_5 (by decide) (fun c_4 => ?_) (fun c_4 => ?_)
  · have hM := iq c_4 hM
    refine x_aload_n C dX5_when_10 0 rfl rfl ?_
    refine xg_5_3 C kd_0 gw_273 dX5_when_11 ?_
    refine x_iload_n C dX5_when_14 1 rfl rfl ?_
    obtain ⟨r_6, w_5, h_7, hM⟩ := cl hM
    refine x_callVN (As := [.int x1]) C (c_X4_isDry E.l g 14 x1 kd_14 w_1 h_7) k_X4_isDry kd_14 (by decide) rfl rfl nw_453 rfl rfl ⟨Nat.le_of_ble_eq_true rfl, Nat.le_of_ble_eq_true rfl⟩ rfl rfl (Nat.le_of_ble_eq_true rfl) dX5_when_15 ?_
    refine x_if_eq (tgt := 24) C dX5_when_18 (by decide) (fun c_8 => ?_) (fun c_8 => ?_)
    · have hM := ip c_8 hM
      refine x_aload_n C dX5_when_24 0 rfl rfl ?_
      refine x_iload_n C dX5_when_25 1 rfl rfl ?_
      refine x_bipush (v := 40) C dX5_when_26 (by decide) ?_
      refine x_aload_n C dX5_when_28 0 rfl rfl ?_
      refine xg_5_3 C kd_0 gw_273 dX5_when_29 ?_
      refine xgN_4_1 C kd_14 nw_197 dX5_when_32 ?_
      obtain ⟨r_10, w_9, h_11, hM⟩ := cl hM
      refine x_callV (As := [.int x1, .int (40 : Int32), .int (wget w_5 14 1)]) C (c_X5_minutesTillUp E.l g x1 (40 : Int32) (wget w_5 14 1) w_5 h_11) k_X5_minutesTillUp kd_0 (by decide) rfl rfl gw_556 rfl rfl ⟨Nat.le_of_ble_eq_true rfl, Nat.le_of_ble_eq_true rfl⟩ rfl rfl (Nat.le_of_ble_eq_true rfl) dX5_when_35 ?_
      obtain ⟨rfl, rfl⟩ := rt hM
      exact x_iret C hR rfl dX5_when_38
    · have hM := iq c_8 hM
      refine x_bipush (v := -2) C dX5_when_21 (by decide) ?_
      obtain ⟨rfl, rfl⟩ := rt hM
      exact x_iret C hR rfl dX5_when_23
  · have hM := ip c_4 hM
    refine x_iconst (v := -1) C dX5_when_8 (by decide) ?_
    obtain ⟨rfl, rfl⟩ := rt hM
    exact x_iret C hR rfl dX5_when_9
theorem c_X5_when (l : Launch) (g : Gx) (x1 : Int32) (w : Wd) {rr : Int32} {wr : Wd} (hM : f_X5_when x1 w = some (rr, wr)) : MetM l yX5_when cX5_when 2 (some .int) rm_X5_when g [.ref (ad g 0), .int x1] w (some (.int rr)) wr := by
  refine met_of (by decide) (Nat.le_of_ble_eq_true rfl) (fun E hl C hR => ?_)
  refine x_sub (L' := [(0, .ref (ad g 0)), (1, .int x1)]) [0, 1] rfl ?_
  exact o_X5_when_b0 C hR x1 w hM
abbrev rm_X5_warm : Room := { frames := 5, cells := 0, slots := 0, locals := 106 }
set_option maxHeartbeats 1000000 in
set_option maxRecDepth 20000 in
theorem o_X5_warm_h37 {E : Ex} {g : Gx} (C : Ctx E RX5 cX5_warm rm_X5_warm 4 g) {rr : Int32} {wr : Wd} (hR : Rets E g (some .int) (some (.int rr)) wr) {kh37 : (Int32 → Int32 → Int32 → Wd → Option (Int32 × Wd))} (Hh37 : ∀ (x1 : Int32) (x2 : Int32) (x3 : Int32) (w : Wd), kh37 x1 x2 x3 w = some (rr, wr) → Xx E 4 g 37 [(0, .ref (ad g 0)), (1, .int x1), (2, .int x2), (3, .int x3)] [] w) (x1 : Int32) (x2 : Int32) (x3 : Int32) (w : Wd) (hM : f_X5_warm_h37 kh37 x1 x2 x3 w = some (rr, wr)) : Xx E 4 g 37 [(0, .ref (ad g 0)), (1, .int x1), (2, .int x2), (3, .int x3)] [] w := by
  unfold f_X5_warm_h37 at hM
  refine x_iload_n C dX5_warm_37 3 rfl rfl ?_
  refine x_bipush (v := 9) C dX5_warm_38 (by decide) ?_
  refine x_icmp_gt (tgt := 63) C dX5_warm_40 (by decide) (fun c_1 => ?_) (fun c_1 => ?_)
  · have hM := ip c_1 hM
    refine x_bipush (v := -9) C dX5_warm_63 (by decide) ?_
    obtain ⟨rfl, rfl⟩ := rt hM
    exact x_iret C hR rfl dX5_warm_65
  · have hM := iq c_1 hM
    refine x_aload_n C dX5_warm_43 0 rfl rfl ?_
    refine x_iload_n C dX5_warm_44 1 rfl rfl ?_
    refine x_iload_n C dX5_warm_45 2 rfl rfl ?_
    refine x_iload_n C dX5_warm_46 3 rfl rfl ?_
    obtain ⟨r_3, w_2, h_4, hM⟩ := cl hM
    refine x_callV (As := [.int x1, .int x2, .int x3]) C (c_X5_minutesTillUp E.l g x1 x2 x3 w h_4) k_X5_minutesTillUp kd_0 (by decide) rfl rfl gw_556 rfl rfl ⟨Nat.le_of_ble_eq_true rfl, Nat.le_of_ble_eq_true rfl⟩ rfl rfl (Nat.le_of_ble_eq_true rfl) dX5_warm_47 ?_
    refine x_bipush (v := -9) C dX5_warm_50 (by decide) ?_
    refine x_icmp_eq (tgt := 57) C dX5_warm_52 (by decide) (fun c_5 => ?_) (fun c_5 => ?_)
    · have hM := ip c_5 hM
      obtain ⟨x3_6, e_7, hM⟩ := bd hM
      refine x_iinc (L' := [(3, .int x3_6), (0, .ref (ad g 0)), (1, .int x1), (2, .int x2)]) C dX5_warm_57 3 rfl (v := x3_6) (by rw [e_7]; first | rfl | decide) (by decide) rfl ?_
      refine x_goto (tgt := 37) C dX5_warm_60 (by decide) ?_
      refine x_sub (L' := [(0, .ref (ad g 0)), (1, .int x1), (2, .int x2), (3, .int x3_6)]) [1, 2, 3, 0] rfl ?_
      exact Hh37 x1 x2 x3_6 w_2 hM
    · have hM := iq c_5 hM
      refine x_iload_n C dX5_warm_55 3 rfl rfl ?_
      obtain ⟨rfl, rfl⟩ := rt hM
      exact x_iret C hR rfl dX5_warm_56
theorem o_X5_warm_l37 {E : Ex} {g : Gx} (C : Ctx E RX5 cX5_warm rm_X5_warm 4 g) {rr : Int32} {wr : Wd} (hR : Rets E g (some .int) (some (.int rr)) wr) : ∀ (n : Nat) (x1 : Int32) (x2 : Int32) (x3 : Int32) (w : Wd), f_X5_warm_l37 n x1 x2 x3 w = some (rr, wr) → Xx E 4 g 37 [(0, .ref (ad g 0)), (1, .int x1), (2, .int x2), (3, .int x3)] [] w := by
  intro n
  induction n with
  | zero =>
    intro x1 x2 x3 w hM
    rw [f_X5_warm_l37] at hM
    cases hM
  | succ n ih =>
    intro x1 x2 x3 w hM
    rw [f_X5_warm_l37] at hM
    exact o_X5_warm_h37 C hR ih x1 x2 x3 w hM
set_option maxHeartbeats 1000000 in
set_option maxRecDepth 20000 in
theorem o_X5_warm_b0 {E : Ex} {g : Gx} (C : Ctx E RX5 cX5_warm rm_X5_warm 4 g) {rr : Int32} {wr : Wd} (hR : Rets E g (some .int) (some (.int rr)) wr) (x1 : Int32) (x2 : Int32) (w : Wd) (hM : f_X5_warm_b0 x1 x2 w = some (rr, wr)) : Xx E 4 g 0 [(0, .ref (ad g 0)), (1, .int x1), (2, .int x2)] [] w := by
  unfold f_X5_warm_b0 at hM
  refine x_aload_n C dX5_warm_0 0 rfl rfl ?_
  refine x_iload_n C dX5_warm_1 1 rfl rfl ?_
  obtain ⟨r_2, w_1, h_3, hM⟩ := cl hM
  refine x_callV (As := [.int x1]) C (c_X5_isTold E.l g x1 w h_3) k_X5_isTold kd_0 (by decide) rfl rfl gw_385 rfl rfl ⟨Nat.le_of_ble_eq_true rfl, Nat.le_of_ble_eq_true rfl⟩ rfl rfl (Nat.le_of_ble_eq_true rfl) dX5_warm_2 ?_
  refine x_if_eq (tgt := 19) C dX5_warm_5 (by decide) (fun c_4 => ?_) (fun c_4 => ?_)
  · have hM := ip c_4 hM
    refine x_iconst (v := -1) C dX5_warm_19 (by decide) ?_
    obtain ⟨rfl, rfl⟩ := rt hM
    exact x_iret C hR rfl dX5_warm_20
  · have hM := iq c_4 hM
    refine x_iload_n C dX5_warm_8 2 rfl rfl ?_
    refine x_iconst (v := 1) C dX5_warm_9 (by decide) ?_
    refine x_icmp_lt (tgt := 19) C dX5_warm_10 (by decide) (fun c_5 => ?_) (fun c_5 => ?_)
    · have hM := ip c_5 hM
      refine x_iconst (v := -1) C dX5_warm_19 (by decide) ?_
      obtain ⟨rfl, rfl⟩ := rt hM
      exact x_iret C hR rfl dX5_warm_20
    · have hM := iq c_5 hM
      refine x_iload_n C dX5_warm_13 2 rfl rfl ?_
      refine x_bipush (v := 40) C dX5_warm_14 (by decide) ?_
      refine x_icmp_le (tgt := 21) C dX5_warm_16 (by decide) (fun c_6 => ?_) (fun c_6 => ?_)
      · have hM := ip c_6 hM
        refine x_aload_n C dX5_warm_21 0 rfl rfl ?_
        refine xg_5_3 C kd_0 gw_273 dX5_warm_22 ?_
        refine x_iload_n C dX5_warm_25 1 rfl rfl ?_
        obtain ⟨r_8, w_7, h_9, hM⟩ := cl hM
        refine x_callVN (As := [.int x1]) C (c_X4_isDry E.l g 14 x1 kd_14 w_1 h_9) k_X4_isDry kd_14 (by decide) rfl rfl nw_453 rfl rfl ⟨Nat.le_of_ble_eq_true rfl, Nat.le_of_ble_eq_true rfl⟩ rfl rfl (Nat.le_of_ble_eq_true rfl) dX5_warm_26 ?_
        refine x_if_eq (tgt := 35) C dX5_warm_29 (by decide) (fun c_10 => ?_) (fun c_10 => ?_)
        · have hM := ip c_10 hM
          refine x_iconst (v := 0) C dX5_warm_35 (by decide) ?_
          obtain ⟨x3_11, e_12, hM⟩ := bd hM
          refine x_top e_12 ?_
          refine x_istore_n (L' := [(3, .int x3_11), (0, .ref (ad g 0)), (1, .int x1), (2, .int x2)]) C dX5_warm_36 rfl (by decide) rfl ?_
          refine x_sub (L' := [(0, .ref (ad g 0)), (1, .int x1), (2, .int x2), (3, .int x3_11)]) [1, 2, 3, 0] rfl ?_
          exact o_X5_warm_l37 C hR 300 x1 x2 x3_11 w_7 hM
        · have hM := iq c_10 hM
          refine x_bipush (v := -2) C dX5_warm_32 (by decide) ?_
          obtain ⟨rfl, rfl⟩ := rt hM
          exact x_iret C hR rfl dX5_warm_34
      · have hM := iq c_6 hM
        refine x_iconst (v := -1) C dX5_warm_19 (by decide) ?_
        obtain ⟨rfl, rfl⟩ := rt hM
        exact x_iret C hR rfl dX5_warm_20
theorem c_X5_warm (l : Launch) (g : Gx) (x1 : Int32) (x2 : Int32) (w : Wd) {rr : Int32} {wr : Wd} (hM : f_X5_warm x1 x2 w = some (rr, wr)) : MetM l yX5_warm cX5_warm 4 (some .int) rm_X5_warm g [.ref (ad g 0), .int x1, .int x2] w (some (.int rr)) wr := by
  refine met_of (by decide) (Nat.le_of_ble_eq_true rfl) (fun E hl C hR => ?_)
  refine x_sub (L' := [(0, .ref (ad g 0)), (1, .int x1), (2, .int x2)]) [0, 1, 2] rfl ?_
  exact o_X5_warm_b0 C hR x1 x2 w hM
abbrev rm_X5_isFewer : Room := { frames := 1, cells := 0, slots := 0, locals := 20 }
set_option maxHeartbeats 1000000 in
set_option maxRecDepth 20000 in
theorem o_X5_isFewer_b17 {E : Ex} {g : Gx} (C : Ctx E RX5 cX5_isFewer rm_X5_isFewer 2 g) {rr : Int32} {wr : Wd} (hR : Rets E g (some .boolean) (some (.int rr)) wr) (w : Wd) (hM : f_X5_isFewer_b17 w = some (rr, wr)) : Xx E 2 g 17 [] [] w := by
  unfold f_X5_isFewer_b17 at hM
  refine x_iconst (v := 1) C dX5_isFewer_17 (by decide) ?_
  refine x_goto (tgt := 22) C dX5_isFewer_18 (by decide) ?_
  obtain ⟨rfl, rfl⟩ := rt hM
  exact x_zret C hR (by rfl) rfl dX5_isFewer_22
set_option maxHeartbeats 1000000 in
set_option maxRecDepth 20000 in
theorem o_X5_isFewer_b0 {E : Ex} {g : Gx} (C : Ctx E RX5 cX5_isFewer rm_X5_isFewer 2 g) {rr : Int32} {wr : Wd} (hR : Rets E g (some .boolean) (some (.int rr)) wr) (x0 : Int32) (x1 : Int32) (w : Wd) (hM : f_X5_isFewer_b0 x0 x1 w = some (rr, wr)) : Xx E 2 g 0 [(0, .int x0), (1, .int x1)] [] w := by
  unfold f_X5_isFewer_b0 at hM
  refine x_iload_n C dX5_isFewer_0 1 rfl rfl ?_
  refine x_bipush (v := -9) C dX5_isFewer_1 (by decide) ?_
  refine x_icmp_eq (tgt := 17) C dX5_isFewer_3 (by decide) (fun c_1 => ?_) (fun c_1 => ?_)
  · have hM := ip c_1 hM
    refine x_sub (L' := []) [] rfl ?_
    exact o_X5_isFewer_b17 C hR w hM
  · have hM := iq c_1 hM
    refine x_iload_n C dX5_isFewer_6 0 rfl rfl ?_
    obtain ⟨r_3, w_2, h_4, hM⟩ := cl hM
    refine x_callS (As := [.int x0]) C (c_J6_bitCount_0f7a4 E.l g x0 w h_4) k_J6_bitCount_0f7a4 gw_421 rfl rfl ⟨Nat.le_of_ble_eq_true rfl, Nat.le_of_ble_eq_true rfl⟩ rfl rfl (Nat.le_of_ble_eq_true rfl) dX5_isFewer_7 ?_
    refine x_iload_n C dX5_isFewer_10 1 rfl rfl ?_
    obtain ⟨r_6, w_5, h_7, hM⟩ := cl hM
    refine x_callS (As := [.int x1]) C (c_J6_bitCount_0f7a4 E.l g x1 w_2 h_7) k_J6_bitCount_0f7a4 gw_421 rfl rfl ⟨Nat.le_of_ble_eq_true rfl, Nat.le_of_ble_eq_true rfl⟩ rfl rfl (Nat.le_of_ble_eq_true rfl) dX5_isFewer_11 ?_
    refine x_icmp_ge (tgt := 21) C dX5_isFewer_14 (by decide) (fun c_8 => ?_) (fun c_8 => ?_)
    · have hM := ip c_8 hM
      refine x_iconst (v := 0) C dX5_isFewer_21 (by decide) ?_
      obtain ⟨rfl, rfl⟩ := rt hM
      exact x_zret C hR (by rfl) rfl dX5_isFewer_22
    · have hM := iq c_8 hM
      refine x_sub (L' := []) [] rfl ?_
      exact o_X5_isFewer_b17 C hR w_5 hM
theorem c_X5_isFewer (l : Launch) (g : Gx) (x0 : Int32) (x1 : Int32) (w : Wd) {rr : Int32} {wr : Wd} (hM : f_X5_isFewer x0 x1 w = some (rr, wr)) : MetM l yX5_isFewer cX5_isFewer 2 (some .boolean) rm_X5_isFewer g [.int x0, .int x1] w (some (.int rr)) wr := by
  refine met_of (by decide) (Nat.le_of_ble_eq_true rfl) (fun E hl C hR => ?_)
  refine x_sub (L' := [(0, .int x0), (1, .int x1)]) [0, 1] rfl ?_
  exact o_X5_isFewer_b0 C hR x0 x1 w hM
abbrev rm_X4_firstRisenNow : Room := { frames := 0, cells := 0, slots := 0, locals := 0 }
set_option maxHeartbeats 1000000 in
set_option maxRecDepth 20000 in
theorem o_X4_firstRisenNow_h2 {E : Ex} {g : Gx} (C : Ctx E RX4 cX4_firstRisenNow rm_X4_firstRisenNow 2 g) {rr : Int32} {wr : Wd} (hR : Rets E g (some .int) (some (.int rr)) wr) {k0 : Nat} (hk0 : kindOf k0 = 4) {kh2 : (Int32 → Wd → Option (Int32 × Wd))} (Hh2 : ∀ (x1 : Int32) (w : Wd), kh2 x1 w = some (rr, wr) → Xx E 2 g 2 [(0, .ref (ad g k0)), (1, .int x1)] [] w) (x1 : Int32) (w : Wd) (hM : f_X4_firstRisenNow_h2 k0 kh2 x1 w = some (rr, wr)) : Xx E 2 g 2 [(0, .ref (ad g k0)), (1, .int x1)] [] w := by
  unfold f_X4_firstRisenNow_h2 at hM
  refine x_iload_n C dX4_firstRisenNow_2 1 rfl rfl ?_
  refine x_bipush (v := 6) C dX4_firstRisenNow_3 (by decide) ?_
  refine x_icmp_ge (tgt := 29) C dX4_firstRisenNow_5 (by decide) (fun c_1 => ?_) (fun c_1 => ?_)
  · have hM := ip c_1 hM
    refine x_bipush (v := -9) C dX4_firstRisenNow_29 (by decide) ?_
    obtain ⟨rfl, rfl⟩ := rt hM
    exact x_iret C hR rfl dX4_firstRisenNow_31
  · have hM := iq c_1 hM
    refine x_aload_n C dX4_firstRisenNow_8 0 rfl rfl ?_
    refine xg_4_5 C hk0 gw_204 dX4_firstRisenNow_9 ?_
    refine x_iload_n C dX4_firstRisenNow_12 1 rfl rfl ?_
    obtain ⟨q_2, hM⟩ := gd hM
    refine x_iald C (kA4_4 hk0) (lA4_4 hk0) q_2 rfl dX4_firstRisenNow_13 ?_
    refine x_aload_n C dX4_firstRisenNow_14 0 rfl rfl ?_
    refine xg_4_0 C hk0 gw_194 dX4_firstRisenNow_15 ?_
    refine x_icmp_ne (tgt := 23) C dX4_firstRisenNow_18 (by decide) (fun c_3 => ?_) (fun c_3 => ?_)
    · have hM := iq c_3 hM
      obtain ⟨x1_4, e_5, hM⟩ := bd hM
      refine x_iinc (L' := [(1, .int x1_4), (0, .ref (ad g k0))]) C dX4_firstRisenNow_23 1 rfl (v := x1_4) (by rw [e_5]; first | rfl | decide) (by decide) rfl ?_
      refine x_goto (tgt := 2) C dX4_firstRisenNow_26 (by decide) ?_
      refine x_sub (L' := [(0, .ref (ad g k0)), (1, .int x1_4)]) [1, 0] rfl ?_
      exact Hh2 x1_4 w hM
    · have hM := ip c_3 hM
      refine x_iload_n C dX4_firstRisenNow_21 1 rfl rfl ?_
      obtain ⟨rfl, rfl⟩ := rt hM
      exact x_iret C hR rfl dX4_firstRisenNow_22
theorem o_X4_firstRisenNow_l2 {E : Ex} {g : Gx} (C : Ctx E RX4 cX4_firstRisenNow rm_X4_firstRisenNow 2 g) {rr : Int32} {wr : Wd} (hR : Rets E g (some .int) (some (.int rr)) wr) {k0 : Nat} (hk0 : kindOf k0 = 4) : ∀ (n : Nat) (x1 : Int32) (w : Wd), f_X4_firstRisenNow_l2 k0 n x1 w = some (rr, wr) → Xx E 2 g 2 [(0, .ref (ad g k0)), (1, .int x1)] [] w := by
  intro n
  induction n with
  | zero =>
    intro x1 w hM
    rw [f_X4_firstRisenNow_l2] at hM
    cases hM
  | succ n ih =>
    intro x1 w hM
    rw [f_X4_firstRisenNow_l2] at hM
    exact o_X4_firstRisenNow_h2 C hR hk0 ih x1 w hM
set_option maxHeartbeats 1000000 in
set_option maxRecDepth 20000 in
theorem o_X4_firstRisenNow_b0 {E : Ex} {g : Gx} (C : Ctx E RX4 cX4_firstRisenNow rm_X4_firstRisenNow 2 g) {rr : Int32} {wr : Wd} (hR : Rets E g (some .int) (some (.int rr)) wr) {k0 : Nat} (hk0 : kindOf k0 = 4) (w : Wd) (hM : f_X4_firstRisenNow_b0 k0 w = some (rr, wr)) : Xx E 2 g 0 [(0, .ref (ad g k0))] [] w := by
  unfold f_X4_firstRisenNow_b0 at hM
  refine x_iconst (v := 0) C dX4_firstRisenNow_0 (by decide) ?_
  obtain ⟨x1_1, e_2, hM⟩ := bd hM
  refine x_top e_2 ?_
  refine x_istore_n (L' := [(1, .int x1_1), (0, .ref (ad g k0))]) C dX4_firstRisenNow_1 rfl (by decide) rfl ?_
  refine x_sub (L' := [(0, .ref (ad g k0)), (1, .int x1_1)]) [1, 0] rfl ?_
  exact o_X4_firstRisenNow_l2 C hR hk0 300 x1_1 w hM
theorem c_X4_firstRisenNow (l : Launch) (g : Gx) (k0 : Nat) (hk0 : kindOf k0 = 4) (w : Wd) {rr : Int32} {wr : Wd} (hM : f_X4_firstRisenNow k0 w = some (rr, wr)) : MetM l yX4_firstRisenNow cX4_firstRisenNow 2 (some .int) rm_X4_firstRisenNow g [.ref (ad g k0)] w (some (.int rr)) wr := by
  refine met_of (by decide) (Nat.le_of_ble_eq_true rfl) (fun E hl C hR => ?_)
  refine x_sub (L' := [(0, .ref (ad g k0))]) [0] rfl ?_
  exact o_X4_firstRisenNow_b0 C hR hk0 w hM
abbrev rm_X5_risesFirst : Room := { frames := 4, cells := 0, slots := 0, locals := 82 }
set_option maxHeartbeats 1000000 in
set_option maxRecDepth 20000 in
theorem o_X5_risesFirst_b39 {E : Ex} {g : Gx} (C : Ctx E RX5 cX5_risesFirst rm_X5_risesFirst 6 g) {rr : Int32} {wr : Wd} (hR : Rets E g (some .boolean) (some (.int rr)) wr) {kh14 : (Int32 → Int32 → Int32 → Int32 → Wd → Option (Int32 × Wd))} (Hh14 : ∀ (x1 : Int32) (x2 : Int32) (x3 : Int32) (x4 : Int32) (w : Wd), kh14 x1 x2 x3 x4 w = some (rr, wr) → Xx E 6 g 14 [(0, .ref (ad g 0)), (1, .int x1), (2, .int x2), (3, .int x3), (4, .int x4)] [] w) (x1 : Int32) (x2 : Int32) (x3 : Int32) (x4 : Int32) (w : Wd) (hM : f_X5_risesFirst_b39 kh14 x1 x2 x3 x4 w = some (rr, wr)) : Xx E 6 g 39 [(0, .ref (ad g 0)), (1, .int x1), (2, .int x2), (3, .int x3), (4, .int x4)] [] w := by
  unfold f_X5_risesFirst_b39 at hM
  obtain ⟨x4_1, e_2, hM⟩ := bd hM
  refine x_iinc (L' := [(4, .int x4_1), (0, .ref (ad g 0)), (1, .int x1), (2, .int x2), (3, .int x3)]) C dX5_risesFirst_39 4 rfl (v := x4_1) (by rw [e_2]; first | rfl | decide) (by decide) rfl ?_
  refine x_goto (tgt := 14) C dX5_risesFirst_42 (by decide) ?_
  refine x_sub (L' := [(0, .ref (ad g 0)), (1, .int x1), (2, .int x2), (3, .int x3), (4, .int x4_1)]) [1, 2, 3, 4, 0] rfl ?_
  exact Hh14 x1 x2 x3 x4_1 w hM
set_option maxHeartbeats 1000000 in
set_option maxRecDepth 20000 in
theorem o_X5_risesFirst_h48 {E : Ex} {g : Gx} (C : Ctx E RX5 cX5_risesFirst rm_X5_risesFirst 6 g) {rr : Int32} {wr : Wd} (hR : Rets E g (some .boolean) (some (.int rr)) wr) {kh48 : (Int32 → Int32 → Int32 → Wd → Option (Int32 × Wd))} (Hh48 : ∀ (x1 : Int32) (x2 : Int32) (x4 : Int32) (w : Wd), kh48 x1 x2 x4 w = some (rr, wr) → Xx E 6 g 48 [(0, .ref (ad g 0)), (1, .int x1), (2, .int x2), (4, .int x4)] [] w) (x1 : Int32) (x2 : Int32) (x4 : Int32) (w : Wd) (hM : f_X5_risesFirst_h48 kh48 x1 x2 x4 w = some (rr, wr)) : Xx E 6 g 48 [(0, .ref (ad g 0)), (1, .int x1), (2, .int x2), (4, .int x4)] [] w := by
  unfold f_X5_risesFirst_h48 at hM
  refine x_iload C dX5_risesFirst_48 3 rfl ?_
  refine x_iload_n C dX5_risesFirst_50 2 rfl rfl ?_
  refine x_icmp_ge (tgt := 99) C dX5_risesFirst_51 (by decide) (fun c_1 => ?_) (fun c_1 => ?_)
  · have hM := ip c_1 hM
    refine x_iconst (v := 0) C dX5_risesFirst_99 (by decide) ?_
    obtain ⟨rfl, rfl⟩ := rt hM
    exact x_zret C hR (by rfl) rfl dX5_risesFirst_100
  · have hM := iq c_1 hM
    refine x_aload_n C dX5_risesFirst_54 0 rfl rfl ?_
    refine xg_5_4 C kd_0 gw_274 dX5_risesFirst_55 ?_
    refine x_aload_n C dX5_risesFirst_58 0 rfl rfl ?_
    refine xg_5_1 C kd_0 gw_271 dX5_risesFirst_59 ?_
    obtain ⟨r_3, w_2, h_4, hM⟩ := cl hM
    refine x_callVNv (As := [.ref (ad g 4)]) C (c_X4_passMinute E.l g 19 4 kd_19 kd_4 w h_4) k_X4_passMinute kd_19 (by decide) rfl rfl nw_479 rfl rfl ⟨Nat.le_of_ble_eq_true rfl, Nat.le_of_ble_eq_true rfl⟩ rfl rfl (Nat.le_of_ble_eq_true rfl) dX5_risesFirst_62 ?_
    refine x_aload_n C dX5_risesFirst_65 0 rfl rfl ?_
    refine xg_5_4 C kd_0 gw_274 dX5_risesFirst_66 ?_
    obtain ⟨r_6, w_5, h_7, hM⟩ := cl hM
    refine x_callVN (As := []) C (c_X4_firstRisenNow E.l g 19 kd_19 w_2 h_7) k_X4_firstRisenNow kd_19 (by decide) rfl rfl nw_575 rfl rfl ⟨Nat.le_of_ble_eq_true rfl, Nat.le_of_ble_eq_true rfl⟩ rfl rfl (Nat.le_of_ble_eq_true rfl) dX5_risesFirst_69 ?_
    obtain ⟨x5_8, e_9, hM⟩ := bd hM
    refine x_top e_9 ?_
    refine x_istore (L' := [(5, .int x5_8), (0, .ref (ad g 0)), (1, .int x1), (2, .int x2), (4, .int x4)]) C dX5_risesFirst_72 (by decide) rfl ?_
    refine x_iload C dX5_risesFirst_74 0 rfl ?_
    refine x_bipush (v := -9) C dX5_risesFirst_76 (by decide) ?_
    refine x_icmp_eq (tgt := 93) C dX5_risesFirst_78 (by decide) (fun c_10 => ?_) (fun c_10 => ?_)
    · have hM := ip c_10 hM
      obtain ⟨x4_11, e_12, hM⟩ := bd hM
      refine x_iinc (L' := [(4, .int x4_11), (5, .int x5_8), (0, .ref (ad g 0)), (1, .int x1), (2, .int x2)]) C dX5_risesFirst_93 4 rfl (v := x4_11) (by rw [e_12]; first | rfl | decide) (by decide) rfl ?_
      refine x_goto (tgt := 48) C dX5_risesFirst_96 (by decide) ?_
      refine x_sub (L' := [(0, .ref (ad g 0)), (1, .int x1), (2, .int x2), (4, .int x4_11)]) [2, 3, 4, 0] rfl ?_
      exact Hh48 x1 x2 x4_11 w_5 hM
    · have hM := iq c_10 hM
      refine x_iload C dX5_risesFirst_81 0 rfl ?_
      refine x_iload_n C dX5_risesFirst_83 2 rfl rfl ?_
      refine x_icmp_ne (tgt := 91) C dX5_risesFirst_84 (by decide) (fun c_13 => ?_) (fun c_13 => ?_)
      · have hM := iq c_13 hM
        refine x_iconst (v := 0) C dX5_risesFirst_91 (by decide) ?_
        obtain ⟨rfl, rfl⟩ := rt hM
        exact x_zret C hR (by rfl) rfl dX5_risesFirst_92
      · have hM := ip c_13 hM
        refine x_iconst (v := 1) C dX5_risesFirst_87 (by decide) ?_
        refine x_goto (tgt := 92) C dX5_risesFirst_88 (by decide) ?_
        obtain ⟨rfl, rfl⟩ := rt hM
        exact x_zret C hR (by rfl) rfl dX5_risesFirst_92
theorem o_X5_risesFirst_l48 {E : Ex} {g : Gx} (C : Ctx E RX5 cX5_risesFirst rm_X5_risesFirst 6 g) {rr : Int32} {wr : Wd} (hR : Rets E g (some .boolean) (some (.int rr)) wr) : ∀ (n : Nat) (x1 : Int32) (x2 : Int32) (x4 : Int32) (w : Wd), f_X5_risesFirst_l48 n x1 x2 x4 w = some (rr, wr) → Xx E 6 g 48 [(0, .ref (ad g 0)), (1, .int x1), (2, .int x2), (4, .int x4)] [] w := by
  intro n
  induction n with
  | zero =>
    intro x1 x2 x4 w hM
    rw [f_X5_risesFirst_l48] at hM
    cases hM
  | succ n ih =>
    intro x1 x2 x4 w hM
    rw [f_X5_risesFirst_l48] at hM
    exact o_X5_risesFirst_h48 C hR ih x1 x2 x4 w hM
set_option maxHeartbeats 1000000 in
set_option maxRecDepth 20000 in
theorem o_X5_risesFirst_h14 {E : Ex} {g : Gx} (C : Ctx E RX5 cX5_risesFirst rm_X5_risesFirst 6 g) {rr : Int32} {wr : Wd} (hR : Rets E g (some .boolean) (some (.int rr)) wr) {kh14 : (Int32 → Int32 → Int32 → Int32 → Wd → Option (Int32 × Wd))} (Hh14 : ∀ (x1 : Int32) (x2 : Int32) (x3 : Int32) (x4 : Int32) (w : Wd), kh14 x1 x2 x3 x4 w = some (rr, wr) → Xx E 6 g 14 [(0, .ref (ad g 0)), (1, .int x1), (2, .int x2), (3, .int x3), (4, .int x4)] [] w) (x1 : Int32) (x2 : Int32) (x3 : Int32) (x4 : Int32) (w : Wd) (hM : f_X5_risesFirst_h14 kh14 x1 x2 x3 x4 w = some (rr, wr)) : Xx E 6 g 14 [(0, .ref (ad g 0)), (1, .int x1), (2, .int x2), (3, .int x3), (4, .int x4)] [] w := by
  unfold f_X5_risesFirst_h14 at hM
  refine x_iload C dX5_risesFirst_14 4 rfl ?_
  refine x_bipush (v := 6) C dX5_risesFirst_16 (by decide) ?_
  refine x_icmp_ge (tgt := 45) C dX5_risesFirst_18 (by decide) (fun c_1 => ?_) (fun c_1 => ?_)
  · have hM := ip c_1 hM
    refine x_iconst (v := 0) C dX5_risesFirst_45 (by decide) ?_
    obtain ⟨x4_2, e_3, hM⟩ := bd hM
    refine x_top e_3 ?_
    refine x_istore (L' := [(4, .int x4_2), (0, .ref (ad g 0)), (1, .int x1), (2, .int x2), (3, .int x3)]) C dX5_risesFirst_46 (by decide) rfl ?_
    refine x_sub (L' := [(0, .ref (ad g 0)), (1, .int x1), (2, .int x2), (4, .int x4_2)]) [1, 2, 3, 0] rfl ?_
    exact o_X5_risesFirst_l48 C hR 300 x1 x2 x4_2 w hM
  · have hM := iq c_1 hM
    refine x_iload_n C dX5_risesFirst_21 3 rfl rfl ?_
    refine x_iload C dX5_risesFirst_22 4 rfl ?_
    refine x_ishr C dX5_risesFirst_24 ?_
    refine x_iconst (v := 1) C dX5_risesFirst_25 (by decide) ?_
    refine x_iand C dX5_risesFirst_26 ?_
    refine x_if_eq (tgt := 39) C dX5_risesFirst_27 (by decide) (fun c_4 => ?_) (fun c_4 => ?_)
    · have hM := ip c_4 hM
      refine x_sub (L' := [(0, .ref (ad g 0)), (1, .int x1), (2, .int x2), (3, .int x3), (4, .int x4)]) [0, 1, 2, 3, 4] rfl ?_
      exact o_X5_risesFirst_b39 C hR Hh14 x1 x2 x3 x4 w hM
    · have hM := iq c_4 hM
      refine x_aload_n C dX5_risesFirst_30 0 rfl rfl ?_
      refine xg_5_4 C kd_0 gw_274 dX5_risesFirst_31 ?_
      refine x_iload C dX5_risesFirst_34 4 rfl ?_
      obtain ⟨r_6, w_5, h_7, hM⟩ := cl hM
      refine x_callVNv (As := [.int x4]) C (c_X4_drop E.l g 19 x4 kd_19 w h_7) k_X4_drop kd_19 (by decide) rfl rfl nw_471 rfl rfl ⟨Nat.le_of_ble_eq_true rfl, Nat.le_of_ble_eq_true rfl⟩ rfl rfl (Nat.le_of_ble_eq_true rfl) dX5_risesFirst_36 ?_
      refine x_sub (L' := [(0, .ref (ad g 0)), (1, .int x1), (2, .int x2), (3, .int x3), (4, .int x4)]) [0, 1, 2, 3, 4] rfl ?_
      exact o_X5_risesFirst_b39 C hR Hh14 x1 x2 x3 x4 w_5 hM
theorem o_X5_risesFirst_l14 {E : Ex} {g : Gx} (C : Ctx E RX5 cX5_risesFirst rm_X5_risesFirst 6 g) {rr : Int32} {wr : Wd} (hR : Rets E g (some .boolean) (some (.int rr)) wr) : ∀ (n : Nat) (x1 : Int32) (x2 : Int32) (x3 : Int32) (x4 : Int32) (w : Wd), f_X5_risesFirst_l14 n x1 x2 x3 x4 w = some (rr, wr) → Xx E 6 g 14 [(0, .ref (ad g 0)), (1, .int x1), (2, .int x2), (3, .int x3), (4, .int x4)] [] w := by
  intro n
  induction n with
  | zero =>
    intro x1 x2 x3 x4 w hM
    rw [f_X5_risesFirst_l14] at hM
    cases hM
  | succ n ih =>
    intro x1 x2 x3 x4 w hM
    rw [f_X5_risesFirst_l14] at hM
    exact o_X5_risesFirst_h14 C hR ih x1 x2 x3 x4 w hM
set_option maxHeartbeats 1000000 in
set_option maxRecDepth 20000 in
theorem o_X5_risesFirst_b0 {E : Ex} {g : Gx} (C : Ctx E RX5 cX5_risesFirst rm_X5_risesFirst 6 g) {rr : Int32} {wr : Wd} (hR : Rets E g (some .boolean) (some (.int rr)) wr) (x1 : Int32) (x2 : Int32) (x3 : Int32) (w : Wd) (hM : f_X5_risesFirst_b0 x1 x2 x3 w = some (rr, wr)) : Xx E 6 g 0 [(0, .ref (ad g 0)), (1, .int x1), (2, .int x2), (3, .int x3)] [] w := by
  unfold f_X5_risesFirst_b0 at hM
  refine x_aload_n C dX5_risesFirst_0 0 rfl rfl ?_
  refine xg_5_4 C kd_0 gw_274 dX5_risesFirst_1 ?_
  refine x_aload_n C dX5_risesFirst_4 0 rfl rfl ?_
  refine xg_5_3 C kd_0 gw_273 dX5_risesFirst_5 ?_
  obtain ⟨r_2, w_1, h_3, hM⟩ := cl hM
  refine x_callVNv (As := [.ref (ad g 14)]) C (c_X4_copy E.l g 19 14 kd_19 kd_14 w h_3) k_X4_copy kd_19 (by decide) rfl rfl nw_551 rfl rfl ⟨Nat.le_of_ble_eq_true rfl, Nat.le_of_ble_eq_true rfl⟩ rfl rfl (Nat.le_of_ble_eq_true rfl) dX5_risesFirst_8 ?_
  refine x_iconst (v := 0) C dX5_risesFirst_11 (by decide) ?_
  obtain ⟨x4_4, e_5, hM⟩ := bd hM
  refine x_top e_5 ?_
  refine x_istore (L' := [(4, .int x4_4), (0, .ref (ad g 0)), (1, .int x1), (2, .int x2), (3, .int x3)]) C dX5_risesFirst_12 (by decide) rfl ?_
  refine x_sub (L' := [(0, .ref (ad g 0)), (1, .int x1), (2, .int x2), (3, .int x3), (4, .int x4_4)]) [1, 2, 3, 4, 0] rfl ?_
  exact o_X5_risesFirst_l14 C hR 300 x1 x2 x3 x4_4 w_1 hM
theorem c_X5_risesFirst (l : Launch) (g : Gx) (x1 : Int32) (x2 : Int32) (x3 : Int32) (w : Wd) {rr : Int32} {wr : Wd} (hM : f_X5_risesFirst x1 x2 x3 w = some (rr, wr)) : MetM l yX5_risesFirst cX5_risesFirst 6 (some .boolean) rm_X5_risesFirst g [.ref (ad g 0), .int x1, .int x2, .int x3] w (some (.int rr)) wr := by
  refine met_of (by decide) (Nat.le_of_ble_eq_true rfl) (fun E hl C hR => ?_)
  refine x_sub (L' := [(0, .ref (ad g 0)), (1, .int x1), (2, .int x2), (3, .int x3)]) [0, 1, 2, 3] rfl ?_
  exact o_X5_risesFirst_b0 C hR x1 x2 x3 w hM
abbrev rm_X5_kept : Room := { frames := 5, cells := 0, slots := 0, locals := 107 }
set_option maxHeartbeats 1000000 in
set_option maxRecDepth 20000 in
theorem o_X5_kept_b125 {E : Ex} {g : Gx} (C : Ctx E RX5 cX5_kept rm_X5_kept 8 g) {rr : Int32} {wr : Wd} (hR : Rets E g (some .int) (some (.int rr)) wr) {kh67 : (Int32 → Int32 → Int32 → Int32 → Int32 → Int32 → Wd → Option (Int32 × Wd))} (Hh67 : ∀ (x1 : Int32) (x2 : Int32) (x3 : Int32) (x4 : Int32) (x5 : Int32) (x6 : Int32) (w : Wd), kh67 x1 x2 x3 x4 x5 x6 w = some (rr, wr) → Xx E 8 g 67 [(0, .ref (ad g 0)), (1, .int x1), (2, .int x2), (3, .int x3), (4, .int x4), (5, .int x5), (6, .int x6)] [] w) (x1 : Int32) (x2 : Int32) (x3 : Int32) (x4 : Int32) (x5 : Int32) (x6 : Int32) (w : Wd) (hM : f_X5_kept_b125 kh67 x1 x2 x3 x4 x5 x6 w = some (rr, wr)) : Xx E 8 g 125 [(0, .ref (ad g 0)), (1, .int x1), (2, .int x2), (3, .int x3), (4, .int x4), (5, .int x5), (6, .int x6)] [] w := by
  unfold f_X5_kept_b125 at hM
  obtain ⟨x6_1, e_2, hM⟩ := bd hM
  refine x_iinc (L' := [(6, .int x6_1), (0, .ref (ad g 0)), (1, .int x1), (2, .int x2), (3, .int x3), (4, .int x4), (5, .int x5)]) C dX5_kept_125 6 rfl (v := x6_1) (by rw [e_2]; first | rfl | decide) (by decide) rfl ?_
  refine x_goto (tgt := 67) C dX5_kept_128 (by decide) ?_
  refine x_sub (L' := [(0, .ref (ad g 0)), (1, .int x1), (2, .int x2), (3, .int x3), (4, .int x4), (5, .int x5), (6, .int x6_1)]) [1, 2, 3, 4, 5, 6, 0] rfl ?_
  exact Hh67 x1 x2 x3 x4 x5 x6_1 w hM
set_option maxHeartbeats 1000000 in
set_option maxRecDepth 20000 in
theorem o_X5_kept_b98 {E : Ex} {g : Gx} (C : Ctx E RX5 cX5_kept rm_X5_kept 8 g) {rr : Int32} {wr : Wd} (hR : Rets E g (some .int) (some (.int rr)) wr) {kh67 : (Int32 → Int32 → Int32 → Int32 → Int32 → Int32 → Wd → Option (Int32 × Wd))} (Hh67 : ∀ (x1 : Int32) (x2 : Int32) (x3 : Int32) (x4 : Int32) (x5 : Int32) (x6 : Int32) (w : Wd), kh67 x1 x2 x3 x4 x5 x6 w = some (rr, wr) → Xx E 8 g 67 [(0, .ref (ad g 0)), (1, .int x1), (2, .int x2), (3, .int x3), (4, .int x4), (5, .int x5), (6, .int x6)] [] w) (x1 : Int32) (x2 : Int32) (x3 : Int32) (x4 : Int32) (x5 : Int32) (x6 : Int32) (w : Wd) (hM : f_X5_kept_b98 kh67 x1 x2 x3 x4 x5 x6 w = some (rr, wr)) : Xx E 8 g 98 [(0, .ref (ad g 0)), (1, .int x1), (2, .int x2), (3, .int x3), (4, .int x4), (5, .int x5), (6, .int x6)] [] w := by
  unfold f_X5_kept_b98 at hM
  refine x_iconst (v := 0) C dX5_kept_98 (by decide) ?_
  obtain ⟨x7_1, e_2, hM⟩ := bd hM
  refine x_top e_2 ?_
  refine x_istore (L' := [(7, .int x7_1), (0, .ref (ad g 0)), (1, .int x1), (2, .int x2), (3, .int x3), (4, .int x4), (5, .int x5), (6, .int x6)]) C dX5_kept_99 (by decide) rfl ?_
  refine x_iload C dX5_kept_101 0 rfl ?_
  refine x_if_eq (tgt := 125) C dX5_kept_103 (by decide) (fun c_3 => ?_) (fun c_3 => ?_)
  · have hM := ip c_3 hM
    refine x_sub (L' := [(0, .ref (ad g 0)), (1, .int x1), (2, .int x2), (3, .int x3), (4, .int x4), (5, .int x5), (6, .int x6)]) [1, 2, 3, 4, 5, 6, 7] rfl ?_
    exact o_X5_kept_b125 C hR Hh67 x1 x2 x3 x4 x5 x6 w hM
  · have hM := iq c_3 hM
    refine x_aload_n C dX5_kept_106 1 rfl rfl ?_
    refine x_iload_n C dX5_kept_107 2 rfl rfl ?_
    refine x_iload_n C dX5_kept_108 3 rfl rfl ?_
    refine x_iload_n C dX5_kept_109 4 rfl rfl ?_
    refine x_iload C dX5_kept_110 7 rfl ?_
    refine x_iconst (v := -1) C dX5_kept_112 (by decide) ?_
    refine x_ixor C dX5_kept_113 ?_
    refine x_iand C dX5_kept_114 ?_
    obtain ⟨r_5, w_4, h_6, hM⟩ := cl hM
    refine x_callV (As := [.int x1, .int x2, .int (x3 &&& (x6 ^^^ (-1 : Int32)))]) C (c_X5_risesFirst E.l g x1 x2 (x3 &&& (x6 ^^^ (-1 : Int32))) w h_6) k_X5_risesFirst kd_0 (by decide) rfl rfl gw_571 rfl rfl ⟨Nat.le_of_ble_eq_true rfl, Nat.le_of_ble_eq_true rfl⟩ rfl rfl (Nat.le_of_ble_eq_true rfl) dX5_kept_115 ?_
    refine x_if_eq (tgt := 125) C dX5_kept_118 (by decide) (fun c_7 => ?_) (fun c_7 => ?_)
    · have hM := ip c_7 hM
      refine x_sub (L' := [(0, .ref (ad g 0)), (1, .int x1), (2, .int x2), (3, .int x3), (4, .int x4), (5, .int x5), (6, .int x6)]) [1, 2, 3, 4, 5, 6, 7] rfl ?_
      exact o_X5_kept_b125 C hR Hh67 x1 x2 x3 x4 x5 x6 w_4 hM
    · have hM := iq c_7 hM
      refine x_iload C dX5_kept_121 7 rfl ?_
      obtain ⟨x5_8, e_9, hM⟩ := bd hM
      refine x_top e_9 ?_
      refine x_istore (L' := [(5, .int x5_8), (7, .int x7_1), (0, .ref (ad g 0)), (1, .int x1), (2, .int x2), (3, .int x3), (4, .int x4), (6, .int x6)]) C dX5_kept_123 (by decide) rfl ?_
      refine x_sub (L' := [(0, .ref (ad g 0)), (1, .int x1), (2, .int x2), (3, .int x3), (4, .int x4), (5, .int x5_8), (6, .int x6)]) [2, 3, 4, 5, 6, 0, 7] rfl ?_
      exact o_X5_kept_b125 C hR Hh67 x1 x2 x3 x4 x5_8 x6 w_4 hM
set_option maxHeartbeats 1000000 in
set_option maxRecDepth 20000 in
theorem o_X5_kept_h67 {E : Ex} {g : Gx} (C : Ctx E RX5 cX5_kept rm_X5_kept 8 g) {rr : Int32} {wr : Wd} (hR : Rets E g (some .int) (some (.int rr)) wr) {kh67 : (Int32 → Int32 → Int32 → Int32 → Int32 → Int32 → Wd → Option (Int32 × Wd))} (Hh67 : ∀ (x1 : Int32) (x2 : Int32) (x3 : Int32) (x4 : Int32) (x5 : Int32) (x6 : Int32) (w : Wd), kh67 x1 x2 x3 x4 x5 x6 w = some (rr, wr) → Xx E 8 g 67 [(0, .ref (ad g 0)), (1, .int x1), (2, .int x2), (3, .int x3), (4, .int x4), (5, .int x5), (6, .int x6)] [] w) (x1 : Int32) (x2 : Int32) (x3 : Int32) (x4 : Int32) (x5 : Int32) (x6 : Int32) (w : Wd) (hM : f_X5_kept_h67 kh67 x1 x2 x3 x4 x5 x6 w = some (rr, wr)) : Xx E 8 g 67 [(0, .ref (ad g 0)), (1, .int x1), (2, .int x2), (3, .int x3), (4, .int x4), (5, .int x5), (6, .int x6)] [] w := by
  unfold f_X5_kept_h67 at hM
  refine x_iload C dX5_kept_67 6 rfl ?_
  refine x_bipush (v := 64) C dX5_kept_69 (by decide) ?_
  refine x_icmp_ge (tgt := 131) C dX5_kept_71 (by decide) (fun c_1 => ?_) (fun c_1 => ?_)
  · have hM := ip c_1 hM
    refine x_iload C dX5_kept_131 5 rfl ?_
    obtain ⟨rfl, rfl⟩ := rt hM
    exact x_iret C hR rfl dX5_kept_133
  · have hM := iq c_1 hM
    refine x_iload C dX5_kept_74 6 rfl ?_
    refine x_iload C dX5_kept_76 4 rfl ?_
    refine x_iconst (v := -1) C dX5_kept_78 (by decide) ?_
    refine x_ixor C dX5_kept_79 ?_
    refine x_iand C dX5_kept_80 ?_
    refine x_if_ne (tgt := 98) C dX5_kept_81 (by decide) (fun c_2 => ?_) (fun c_2 => ?_)
    · have hM := iq c_2 hM
      refine x_sub (L' := [(0, .ref (ad g 0)), (1, .int x1), (2, .int x2), (3, .int x3), (4, .int x4), (5, .int x5), (6, .int x6)]) [0, 1, 2, 3, 4, 5, 6] rfl ?_
      exact o_X5_kept_b98 C hR Hh67 x1 x2 x3 x4 x5 x6 w hM
    · have hM := ip c_2 hM
      refine x_iload C dX5_kept_84 6 rfl ?_
      refine x_iload C dX5_kept_86 5 rfl ?_
      obtain ⟨r_4, w_3, h_5, hM⟩ := cl hM
      refine x_callS (As := [.int x6, .int x5]) C (c_X5_isFewer E.l g x6 x5 w h_5) k_X5_isFewer gw_568 rfl rfl ⟨Nat.le_of_ble_eq_true rfl, Nat.le_of_ble_eq_true rfl⟩ rfl rfl (Nat.le_of_ble_eq_true rfl) dX5_kept_88 ?_
      refine x_if_eq (tgt := 98) C dX5_kept_91 (by decide) (fun c_6 => ?_) (fun c_6 => ?_)
      · have hM := ip c_6 hM
        refine x_sub (L' := [(0, .ref (ad g 0)), (1, .int x1), (2, .int x2), (3, .int x3), (4, .int x4), (5, .int x5), (6, .int x6)]) [0, 1, 2, 3, 4, 5, 6] rfl ?_
        exact o_X5_kept_b98 C hR Hh67 x1 x2 x3 x4 x5 x6 w_3 hM
      · have hM := iq c_6 hM
        refine x_iconst (v := 1) C dX5_kept_94 (by decide) ?_
        refine x_goto (tgt := 99) C dX5_kept_95 (by decide) ?_
        obtain ⟨x7_7, e_8, hM⟩ := bd hM
        refine x_top e_8 ?_
        refine x_istore (L' := [(7, .int x7_7), (0, .ref (ad g 0)), (1, .int x1), (2, .int x2), (3, .int x3), (4, .int x4), (5, .int x5), (6, .int x6)]) C dX5_kept_99 (by decide) rfl ?_
        refine x_iload C dX5_kept_101 0 rfl ?_
        refine x_if_eq (tgt := 125) C dX5_kept_103 (by decide) (fun c_9 => ?_) (fun c_9 => ?_)
        · have hM := ip c_9 hM
          refine x_sub (L' := [(0, .ref (ad g 0)), (1, .int x1), (2, .int x2), (3, .int x3), (4, .int x4), (5, .int x5), (6, .int x6)]) [1, 2, 3, 4, 5, 6, 7] rfl ?_
          exact o_X5_kept_b125 C hR Hh67 x1 x2 x3 x4 x5 x6 w_3 hM
        · have hM := iq c_9 hM
          refine x_aload_n C dX5_kept_106 1 rfl rfl ?_
          refine x_iload_n C dX5_kept_107 2 rfl rfl ?_
          refine x_iload_n C dX5_kept_108 3 rfl rfl ?_
          refine x_iload_n C dX5_kept_109 4 rfl rfl ?_
          refine x_iload C dX5_kept_110 7 rfl ?_
          refine x_iconst (v := -1) C dX5_kept_112 (by decide) ?_
          refine x_ixor C dX5_kept_113 ?_
          refine x_iand C dX5_kept_114 ?_
          obtain ⟨r_11, w_10, h_12, hM⟩ := cl hM
          refine x_callV (As := [.int x1, .int x2, .int (x3 &&& (x6 ^^^ (-1 : Int32)))]) C (c_X5_risesFirst E.l g x1 x2 (x3 &&& (x6 ^^^ (-1 : Int32))) w_3 h_12) k_X5_risesFirst kd_0 (by decide) rfl rfl gw_571 rfl rfl ⟨Nat.le_of_ble_eq_true rfl, Nat.le_of_ble_eq_true rfl⟩ rfl rfl (Nat.le_of_ble_eq_true rfl) dX5_kept_115 ?_
          refine x_if_eq (tgt := 125) C dX5_kept_118 (by decide) (fun c_13 => ?_) (fun c_13 => ?_)
          · have hM := ip c_13 hM
            refine x_sub (L' := [(0, .ref (ad g 0)), (1, .int x1), (2, .int x2), (3, .int x3), (4, .int x4), (5, .int x5), (6, .int x6)]) [1, 2, 3, 4, 5, 6, 7] rfl ?_
            exact o_X5_kept_b125 C hR Hh67 x1 x2 x3 x4 x5 x6 w_10 hM
          · have hM := iq c_13 hM
            refine x_iload C dX5_kept_121 7 rfl ?_
            obtain ⟨x5_14, e_15, hM⟩ := bd hM
            refine x_top e_15 ?_
            refine x_istore (L' := [(5, .int x5_14), (7, .int x7_7), (0, .ref (ad g 0)), (1, .int x1), (2, .int x2), (3, .int x3), (4, .int x4), (6, .int x6)]) C dX5_kept_123 (by decide) rfl ?_
            refine x_sub (L' := [(0, .ref (ad g 0)), (1, .int x1), (2, .int x2), (3, .int x3), (4, .int x4), (5, .int x5_14), (6, .int x6)]) [2, 3, 4, 5, 6, 0, 7] rfl ?_
            exact o_X5_kept_b125 C hR Hh67 x1 x2 x3 x4 x5_14 x6 w_10 hM
theorem o_X5_kept_l67 {E : Ex} {g : Gx} (C : Ctx E RX5 cX5_kept rm_X5_kept 8 g) {rr : Int32} {wr : Wd} (hR : Rets E g (some .int) (some (.int rr)) wr) : ∀ (n : Nat) (x1 : Int32) (x2 : Int32) (x3 : Int32) (x4 : Int32) (x5 : Int32) (x6 : Int32) (w : Wd), f_X5_kept_l67 n x1 x2 x3 x4 x5 x6 w = some (rr, wr) → Xx E 8 g 67 [(0, .ref (ad g 0)), (1, .int x1), (2, .int x2), (3, .int x3), (4, .int x4), (5, .int x5), (6, .int x6)] [] w := by
  intro n
  induction n with
  | zero =>
    intro x1 x2 x3 x4 x5 x6 w hM
    rw [f_X5_kept_l67] at hM
    cases hM
  | succ n ih =>
    intro x1 x2 x3 x4 x5 x6 w hM
    rw [f_X5_kept_l67] at hM
    exact o_X5_kept_h67 C hR ih x1 x2 x3 x4 x5 x6 w hM
set_option maxHeartbeats 1000000 in
set_option maxRecDepth 20000 in
theorem o_X5_kept_b0 {E : Ex} {g : Gx} (C : Ctx E RX5 cX5_kept rm_X5_kept 8 g) {rr : Int32} {wr : Wd} (hR : Rets E g (some .int) (some (.int rr)) wr) (x1 : Int32) (x2 : Int32) (w : Wd) (hM : f_X5_kept_b0 x1 x2 w = some (rr, wr)) : Xx E 8 g 0 [(0, .ref (ad g 0)), (1, .int x1), (2, .int x2)] [] w := by
  unfold f_X5_kept_b0 at hM
  refine x_aload_n C dX5_kept_0 0 rfl rfl ?_
  refine x_iload_n C dX5_kept_1 1 rfl rfl ?_
  obtain ⟨r_2, w_1, h_3, hM⟩ := cl hM
  refine x_callV (As := [.int x1]) C (c_X5_isTold E.l g x1 w h_3) k_X5_isTold kd_0 (by decide) rfl rfl gw_385 rfl rfl ⟨Nat.le_of_ble_eq_true rfl, Nat.le_of_ble_eq_true rfl⟩ rfl rfl (Nat.le_of_ble_eq_true rfl) dX5_kept_2 ?_
  refine x_if_eq (tgt := 19) C dX5_kept_5 (by decide) (fun c_4 => ?_) (fun c_4 => ?_)
  · have hM := ip c_4 hM
    refine x_iconst (v := -1) C dX5_kept_19 (by decide) ?_
    obtain ⟨rfl, rfl⟩ := rt hM
    exact x_iret C hR rfl dX5_kept_20
  · have hM := iq c_4 hM
    refine x_iload_n C dX5_kept_8 2 rfl rfl ?_
    refine x_iconst (v := 1) C dX5_kept_9 (by decide) ?_
    refine x_icmp_lt (tgt := 19) C dX5_kept_10 (by decide) (fun c_5 => ?_) (fun c_5 => ?_)
    · have hM := ip c_5 hM
      refine x_iconst (v := -1) C dX5_kept_19 (by decide) ?_
      obtain ⟨rfl, rfl⟩ := rt hM
      exact x_iret C hR rfl dX5_kept_20
    · have hM := iq c_5 hM
      refine x_iload_n C dX5_kept_13 2 rfl rfl ?_
      refine x_bipush (v := 40) C dX5_kept_14 (by decide) ?_
      refine x_icmp_le (tgt := 21) C dX5_kept_16 (by decide) (fun c_6 => ?_) (fun c_6 => ?_)
      · have hM := ip c_6 hM
        refine x_aload_n C dX5_kept_21 0 rfl rfl ?_
        refine xg_5_3 C kd_0 gw_273 dX5_kept_22 ?_
        refine x_iload_n C dX5_kept_25 1 rfl rfl ?_
        obtain ⟨r_8, w_7, h_9, hM⟩ := cl hM
        refine x_callVN (As := [.int x1]) C (c_X4_isDry E.l g 14 x1 kd_14 w_1 h_9) k_X4_isDry kd_14 (by decide) rfl rfl nw_453 rfl rfl ⟨Nat.le_of_ble_eq_true rfl, Nat.le_of_ble_eq_true rfl⟩ rfl rfl (Nat.le_of_ble_eq_true rfl) dX5_kept_26 ?_
        refine x_if_eq (tgt := 43) C dX5_kept_29 (by decide) (fun c_10 => ?_) (fun c_10 => ?_)
        · have hM := ip c_10 hM
          refine x_bipush (v := -2) C dX5_kept_43 (by decide) ?_
          obtain ⟨rfl, rfl⟩ := rt hM
          exact x_iret C hR rfl dX5_kept_45
        · have hM := iq c_10 hM
          refine x_aload_n C dX5_kept_32 0 rfl rfl ?_
          refine xg_5_3 C kd_0 gw_273 dX5_kept_33 ?_
          refine x_iload_n C dX5_kept_36 1 rfl rfl ?_
          obtain ⟨r_12, w_11, h_13, hM⟩ := cl hM
          refine x_callVN (As := [.int x1]) C (c_X4_hasRisen E.l g 14 x1 kd_14 w_7 h_13) k_X4_hasRisen kd_14 (by decide) rfl rfl nw_444 rfl rfl ⟨Nat.le_of_ble_eq_true rfl, Nat.le_of_ble_eq_true rfl⟩ rfl rfl (Nat.le_of_ble_eq_true rfl) dX5_kept_37 ?_
          refine x_if_eq (tgt := 46) C dX5_kept_40 (by decide) (fun c_14 => ?_) (fun c_14 => ?_)
          · have hM := ip c_14 hM
            refine x_aload_n C dX5_kept_46 0 rfl rfl ?_
            obtain ⟨r_16, w_15, h_17, hM⟩ := cl hM
            refine x_callV (As := []) C (c_X5_dryOnes E.l g  w_11 h_17) k_X5_dryOnes kd_0 (by decide) rfl rfl gw_393 rfl rfl ⟨Nat.le_of_ble_eq_true rfl, Nat.le_of_ble_eq_true rfl⟩ rfl rfl (Nat.le_of_ble_eq_true rfl) dX5_kept_47 ?_
            obtain ⟨x3_18, e_19, hM⟩ := bd hM
            refine x_top e_19 ?_
            refine x_istore_n (L' := [(3, .int x3_18), (0, .ref (ad g 0)), (1, .int x1), (2, .int x2)]) C dX5_kept_50 rfl (by decide) rfl ?_
            refine x_iload_n C dX5_kept_51 0 rfl rfl ?_
            refine x_iconst (v := 1) C dX5_kept_52 (by decide) ?_
            refine x_iload_n C dX5_kept_53 2 rfl rfl ?_
            refine x_ishl C dX5_kept_54 ?_
            refine x_iconst (v := -1) C dX5_kept_55 (by decide) ?_
            refine x_ixor C dX5_kept_56 ?_
            refine x_iand C dX5_kept_57 ?_
            obtain ⟨x4_20, e_21, hM⟩ := bd hM
            refine x_top e_21 ?_
            refine x_istore (L' := [(4, .int x4_20), (3, .int x3_18), (0, .ref (ad g 0)), (1, .int x1), (2, .int x2)]) C dX5_kept_58 (by decide) rfl ?_
            refine x_bipush (v := -9) C dX5_kept_60 (by decide) ?_
            obtain ⟨x5_22, e_23, hM⟩ := bd hM
            refine x_top e_23 ?_
            refine x_istore (L' := [(5, .int x5_22), (4, .int x4_20), (3, .int x3_18), (0, .ref (ad g 0)), (1, .int x1), (2, .int x2)]) C dX5_kept_62 (by decide) rfl ?_
            refine x_iconst (v := 0) C dX5_kept_64 (by decide) ?_
            obtain ⟨x6_24, e_25, hM⟩ := bd hM
            refine x_top e_25 ?_
            refine x_istore (L' := [(6, .int x6_24), (5, .int x5_22), (4, .int x4_20), (3, .int x3_18), (0, .ref (ad g 0)), (1, .int x1), (2, .int x2)]) C dX5_kept_65 (by decide) rfl ?_
            refine x_sub (L' := [(0, .ref (ad g 0)), (1, .int x1), (2, .int x2), (3, .int x3_18), (4, .int x4_20), (5, .int x5_22), (6, .int x6_24)]) [4, 5, 6, 3, 2, 1, 0] rfl ?_
            exact o_X5_kept_l67 C hR 300 x1 x2 x3_18 x4_20 x5_22 x6_24 w_15 hM
          · have hM := iq c_14 hM
            refine x_bipush (v := -2) C dX5_kept_43 (by decide) ?_
            obtain ⟨rfl, rfl⟩ := rt hM
            exact x_iret C hR rfl dX5_kept_45
      · have hM := iq c_6 hM
        refine x_iconst (v := -1) C dX5_kept_19 (by decide) ?_
        obtain ⟨rfl, rfl⟩ := rt hM
        exact x_iret C hR rfl dX5_kept_20
theorem c_X5_kept (l : Launch) (g : Gx) (x1 : Int32) (x2 : Int32) (w : Wd) {rr : Int32} {wr : Wd} (hM : f_X5_kept x1 x2 w = some (rr, wr)) : MetM l yX5_kept cX5_kept 8 (some .int) rm_X5_kept g [.ref (ad g 0), .int x1, .int x2] w (some (.int rr)) wr := by
  refine met_of (by decide) (Nat.le_of_ble_eq_true rfl) (fun E hl C hR => ?_)
  refine x_sub (L' := [(0, .ref (ad g 0)), (1, .int x1), (2, .int x2)]) [0, 1, 2] rfl ?_
  exact o_X5_kept_b0 C hR x1 x2 w hM
abbrev rm_X2_seatsOf : Room := { frames := 0, cells := 0, slots := 0, locals := 0 }
set_option maxHeartbeats 1000000 in
set_option maxRecDepth 20000 in
theorem o_X2_seatsOf_b27 {E : Ex} {g : Gx} (C : Ctx E RX2 cX2_seatsOf rm_X2_seatsOf 4 g) {rr : Int32} {wr : Wd} (hR : Rets E g (some .int) (some (.int rr)) wr) {k0 : Nat} (hk0 : kindOf k0 = 2) {kh4 : (Int32 → Int32 → Int32 → Wd → Option (Int32 × Wd))} (Hh4 : ∀ (x1 : Int32) (x2 : Int32) (x3 : Int32) (w : Wd), kh4 x1 x2 x3 w = some (rr, wr) → Xx E 4 g 4 [(0, .ref (ad g k0)), (1, .int x1), (2, .int x2), (3, .int x3)] [] w) (x1 : Int32) (x2 : Int32) (x3 : Int32) (w : Wd) (hM : f_X2_seatsOf_b27 k0 kh4 x1 x2 x3 w = some (rr, wr)) : Xx E 4 g 27 [(0, .ref (ad g k0)), (1, .int x1), (2, .int x2), (3, .int x3)] [] w := by
  unfold f_X2_seatsOf_b27 at hM
  obtain ⟨x3_1, e_2, hM⟩ := bd hM
  refine x_iinc (L' := [(3, .int x3_1), (0, .ref (ad g k0)), (1, .int x1), (2, .int x2)]) C dX2_seatsOf_27 3 rfl (v := x3_1) (by rw [e_2]; first | rfl | decide) (by decide) rfl ?_
  refine x_goto (tgt := 4) C dX2_seatsOf_30 (by decide) ?_
  refine x_sub (L' := [(0, .ref (ad g k0)), (1, .int x1), (2, .int x2), (3, .int x3_1)]) [1, 2, 3, 0] rfl ?_
  exact Hh4 x1 x2 x3_1 w hM
set_option maxHeartbeats 1000000 in
set_option maxRecDepth 20000 in
theorem o_X2_seatsOf_h4 {E : Ex} {g : Gx} (C : Ctx E RX2 cX2_seatsOf rm_X2_seatsOf 4 g) {rr : Int32} {wr : Wd} (hR : Rets E g (some .int) (some (.int rr)) wr) {k0 : Nat} (hk0 : kindOf k0 = 2) {kh4 : (Int32 → Int32 → Int32 → Wd → Option (Int32 × Wd))} (Hh4 : ∀ (x1 : Int32) (x2 : Int32) (x3 : Int32) (w : Wd), kh4 x1 x2 x3 w = some (rr, wr) → Xx E 4 g 4 [(0, .ref (ad g k0)), (1, .int x1), (2, .int x2), (3, .int x3)] [] w) (x1 : Int32) (x2 : Int32) (x3 : Int32) (w : Wd) (hM : f_X2_seatsOf_h4 k0 kh4 x1 x2 x3 w = some (rr, wr)) : Xx E 4 g 4 [(0, .ref (ad g k0)), (1, .int x1), (2, .int x2), (3, .int x3)] [] w := by
  unfold f_X2_seatsOf_h4 at hM
  refine x_iload_n C dX2_seatsOf_4 3 rfl rfl ?_
  refine x_bipush (v := 6) C dX2_seatsOf_5 (by decide) ?_
  refine x_icmp_ge (tgt := 33) C dX2_seatsOf_7 (by decide) (fun c_1 => ?_) (fun c_1 => ?_)
  · have hM := ip c_1 hM
    refine x_iload_n C dX2_seatsOf_33 2 rfl rfl ?_
    obtain ⟨rfl, rfl⟩ := rt hM
    exact x_iret C hR rfl dX2_seatsOf_34
  · have hM := iq c_1 hM
    refine x_iload_n C dX2_seatsOf_10 1 rfl rfl ?_
    refine x_iload_n C dX2_seatsOf_11 3 rfl rfl ?_
    refine x_ishr C dX2_seatsOf_12 ?_
    refine x_iconst (v := 1) C dX2_seatsOf_13 (by decide) ?_
    refine x_iand C dX2_seatsOf_14 ?_
    refine x_if_eq (tgt := 27) C dX2_seatsOf_15 (by decide) (fun c_2 => ?_) (fun c_2 => ?_)
    · have hM := ip c_2 hM
      refine x_sub (L' := [(0, .ref (ad g k0)), (1, .int x1), (2, .int x2), (3, .int x3)]) [0, 1, 2, 3] rfl ?_
      exact o_X2_seatsOf_b27 C hR hk0 Hh4 x1 x2 x3 w hM
    · have hM := iq c_2 hM
      refine x_iload_n C dX2_seatsOf_18 2 rfl rfl ?_
      refine x_aload_n C dX2_seatsOf_19 0 rfl rfl ?_
      refine xg_2_7 C hk0 gw_169 dX2_seatsOf_20 ?_
      refine x_iload_n C dX2_seatsOf_23 3 rfl rfl ?_
      obtain ⟨q_3, hM⟩ := gd hM
      refine x_iald C (kA2_4 hk0) (lA2_4 hk0) q_3 rfl dX2_seatsOf_24 ?_
      refine x_iadd C dX2_seatsOf_25 ?_
      obtain ⟨x2_4, e_5, hM⟩ := bd hM
      refine x_top e_5 ?_
      refine x_istore_n (L' := [(2, .int x2_4), (0, .ref (ad g k0)), (1, .int x1), (3, .int x3)]) C dX2_seatsOf_26 rfl (by decide) rfl ?_
      refine x_sub (L' := [(0, .ref (ad g k0)), (1, .int x1), (2, .int x2_4), (3, .int x3)]) [1, 2, 0, 3] rfl ?_
      exact o_X2_seatsOf_b27 C hR hk0 Hh4 x1 x2_4 x3 w hM
theorem o_X2_seatsOf_l4 {E : Ex} {g : Gx} (C : Ctx E RX2 cX2_seatsOf rm_X2_seatsOf 4 g) {rr : Int32} {wr : Wd} (hR : Rets E g (some .int) (some (.int rr)) wr) {k0 : Nat} (hk0 : kindOf k0 = 2) : ∀ (n : Nat) (x1 : Int32) (x2 : Int32) (x3 : Int32) (w : Wd), f_X2_seatsOf_l4 k0 n x1 x2 x3 w = some (rr, wr) → Xx E 4 g 4 [(0, .ref (ad g k0)), (1, .int x1), (2, .int x2), (3, .int x3)] [] w := by
  intro n
  induction n with
  | zero =>
    intro x1 x2 x3 w hM
    rw [f_X2_seatsOf_l4] at hM
    cases hM
  | succ n ih =>
    intro x1 x2 x3 w hM
    rw [f_X2_seatsOf_l4] at hM
    exact o_X2_seatsOf_h4 C hR hk0 ih x1 x2 x3 w hM
set_option maxHeartbeats 1000000 in
set_option maxRecDepth 20000 in
theorem o_X2_seatsOf_b0 {E : Ex} {g : Gx} (C : Ctx E RX2 cX2_seatsOf rm_X2_seatsOf 4 g) {rr : Int32} {wr : Wd} (hR : Rets E g (some .int) (some (.int rr)) wr) {k0 : Nat} (hk0 : kindOf k0 = 2) (x1 : Int32) (w : Wd) (hM : f_X2_seatsOf_b0 k0 x1 w = some (rr, wr)) : Xx E 4 g 0 [(0, .ref (ad g k0)), (1, .int x1)] [] w := by
  unfold f_X2_seatsOf_b0 at hM
  refine x_iconst (v := 0) C dX2_seatsOf_0 (by decide) ?_
  obtain ⟨x2_1, e_2, hM⟩ := bd hM
  refine x_top e_2 ?_
  refine x_istore_n (L' := [(2, .int x2_1), (0, .ref (ad g k0)), (1, .int x1)]) C dX2_seatsOf_1 rfl (by decide) rfl ?_
  refine x_iconst (v := 0) C dX2_seatsOf_2 (by decide) ?_
  obtain ⟨x3_3, e_4, hM⟩ := bd hM
  refine x_top e_4 ?_
  refine x_istore_n (L' := [(3, .int x3_3), (2, .int x2_1), (0, .ref (ad g k0)), (1, .int x1)]) C dX2_seatsOf_3 rfl (by decide) rfl ?_
  refine x_sub (L' := [(0, .ref (ad g k0)), (1, .int x1), (2, .int x2_1), (3, .int x3_3)]) [2, 3, 1, 0] rfl ?_
  exact o_X2_seatsOf_l4 C hR hk0 300 x1 x2_1 x3_3 w hM
theorem c_X2_seatsOf (l : Launch) (g : Gx) (k0 : Nat) (x1 : Int32) (hk0 : kindOf k0 = 2) (w : Wd) {rr : Int32} {wr : Wd} (hM : f_X2_seatsOf k0 x1 w = some (rr, wr)) : MetM l yX2_seatsOf cX2_seatsOf 4 (some .int) rm_X2_seatsOf g [.ref (ad g k0), .int x1] w (some (.int rr)) wr := by
  refine met_of (by decide) (Nat.le_of_ble_eq_true rfl) (fun E hl C hR => ?_)
  refine x_sub (L' := [(0, .ref (ad g k0)), (1, .int x1)]) [0, 1] rfl ?_
  exact o_X2_seatsOf_b0 C hR hk0 x1 w hM
abbrev rm_X5_party : Room := { frames := 2, cells := 0, slots := 0, locals := 41 }
set_option maxHeartbeats 1000000 in
set_option maxRecDepth 20000 in
theorem o_X5_party_b58 {E : Ex} {g : Gx} (C : Ctx E RX5 cX5_party rm_X5_party 5 g) {rr : Int32} {wr : Wd} (hR : Rets E g (some .int) (some (.int rr)) wr) {kh27 : (Int32 → Int32 → Int32 → Int32 → Wd → Option (Int32 × Wd))} (Hh27 : ∀ (x1 : Int32) (x2 : Int32) (x3 : Int32) (x4 : Int32) (w : Wd), kh27 x1 x2 x3 x4 w = some (rr, wr) → Xx E 5 g 27 [(0, .ref (ad g 0)), (1, .int x1), (2, .int x2), (3, .int x3), (4, .int x4)] [] w) (x1 : Int32) (x2 : Int32) (x3 : Int32) (x4 : Int32) (w : Wd) (hM : f_X5_party_b58 kh27 x1 x2 x3 x4 w = some (rr, wr)) : Xx E 5 g 58 [(0, .ref (ad g 0)), (1, .int x1), (2, .int x2), (3, .int x3), (4, .int x4)] [] w := by
  unfold f_X5_party_b58 at hM
  obtain ⟨x4_1, e_2, hM⟩ := bd hM
  refine x_iinc (L' := [(4, .int x4_1), (0, .ref (ad g 0)), (1, .int x1), (2, .int x2), (3, .int x3)]) C dX5_party_58 4 rfl (v := x4_1) (by rw [e_2]; first | rfl | decide) (by decide) rfl ?_
  refine x_goto (tgt := 27) C dX5_party_61 (by decide) ?_
  refine x_sub (L' := [(0, .ref (ad g 0)), (1, .int x1), (2, .int x2), (3, .int x3), (4, .int x4_1)]) [1, 2, 3, 4, 0] rfl ?_
  exact Hh27 x1 x2 x3 x4_1 w hM
set_option maxHeartbeats 1000000 in
set_option maxRecDepth 20000 in
theorem o_X5_party_h27 {E : Ex} {g : Gx} (C : Ctx E RX5 cX5_party rm_X5_party 5 g) {rr : Int32} {wr : Wd} (hR : Rets E g (some .int) (some (.int rr)) wr) {kh27 : (Int32 → Int32 → Int32 → Int32 → Wd → Option (Int32 × Wd))} (Hh27 : ∀ (x1 : Int32) (x2 : Int32) (x3 : Int32) (x4 : Int32) (w : Wd), kh27 x1 x2 x3 x4 w = some (rr, wr) → Xx E 5 g 27 [(0, .ref (ad g 0)), (1, .int x1), (2, .int x2), (3, .int x3), (4, .int x4)] [] w) (x1 : Int32) (x2 : Int32) (x3 : Int32) (x4 : Int32) (w : Wd) (hM : f_X5_party_h27 kh27 x1 x2 x3 x4 w = some (rr, wr)) : Xx E 5 g 27 [(0, .ref (ad g 0)), (1, .int x1), (2, .int x2), (3, .int x3), (4, .int x4)] [] w := by
  unfold f_X5_party_h27 at hM
  refine x_iload C dX5_party_27 4 rfl ?_
  refine x_iload_n C dX5_party_29 2 rfl rfl ?_
  refine x_icmp_gt (tgt := 64) C dX5_party_30 (by decide) (fun c_1 => ?_) (fun c_1 => ?_)
  · have hM := ip c_1 hM
    refine x_iload_n C dX5_party_64 3 rfl rfl ?_
    obtain ⟨rfl, rfl⟩ := rt hM
    exact x_iret C hR rfl dX5_party_65
  · have hM := iq c_1 hM
    refine x_iload C dX5_party_33 4 rfl ?_
    refine x_iload_n C dX5_party_35 3 rfl rfl ?_
    obtain ⟨r_3, w_2, h_4, hM⟩ := cl hM
    refine x_callS (As := [.int x4, .int x3]) C (c_X5_isFewer E.l g x4 x3 w h_4) k_X5_isFewer gw_568 rfl rfl ⟨Nat.le_of_ble_eq_true rfl, Nat.le_of_ble_eq_true rfl⟩ rfl rfl (Nat.le_of_ble_eq_true rfl) dX5_party_36 ?_
    refine x_if_eq (tgt := 58) C dX5_party_39 (by decide) (fun c_5 => ?_) (fun c_5 => ?_)
    · have hM := ip c_5 hM
      refine x_sub (L' := [(0, .ref (ad g 0)), (1, .int x1), (2, .int x2), (3, .int x3), (4, .int x4)]) [0, 1, 2, 3, 4] rfl ?_
      exact o_X5_party_b58 C hR Hh27 x1 x2 x3 x4 w_2 hM
    · have hM := iq c_5 hM
      refine x_aload_n C dX5_party_42 0 rfl rfl ?_
      refine xg_5_1 C kd_0 gw_271 dX5_party_43 ?_
      refine x_iload C dX5_party_46 4 rfl ?_
      obtain ⟨r_7, w_6, h_8, hM⟩ := cl hM
      refine x_callVN (As := [.int x4]) C (c_X2_seatsOf E.l g 4 x4 kd_4 w_2 h_8) k_X2_seatsOf kd_4 (by decide) rfl rfl nw_583 rfl rfl ⟨Nat.le_of_ble_eq_true rfl, Nat.le_of_ble_eq_true rfl⟩ rfl rfl (Nat.le_of_ble_eq_true rfl) dX5_party_48 ?_
      refine x_iload_n C dX5_party_51 1 rfl rfl ?_
      refine x_icmp_lt (tgt := 58) C dX5_party_52 (by decide) (fun c_9 => ?_) (fun c_9 => ?_)
      · have hM := ip c_9 hM
        refine x_sub (L' := [(0, .ref (ad g 0)), (1, .int x1), (2, .int x2), (3, .int x3), (4, .int x4)]) [0, 1, 2, 3, 4] rfl ?_
        exact o_X5_party_b58 C hR Hh27 x1 x2 x3 x4 w_6 hM
      · have hM := iq c_9 hM
        refine x_iload C dX5_party_55 4 rfl ?_
        obtain ⟨x3_10, e_11, hM⟩ := bd hM
        refine x_top e_11 ?_
        refine x_istore_n (L' := [(3, .int x3_10), (0, .ref (ad g 0)), (1, .int x1), (2, .int x2), (4, .int x4)]) C dX5_party_57 rfl (by decide) rfl ?_
        refine x_sub (L' := [(0, .ref (ad g 0)), (1, .int x1), (2, .int x2), (3, .int x3_10), (4, .int x4)]) [1, 2, 3, 0, 4] rfl ?_
        exact o_X5_party_b58 C hR Hh27 x1 x2 x3_10 x4 w_6 hM
theorem o_X5_party_l27 {E : Ex} {g : Gx} (C : Ctx E RX5 cX5_party rm_X5_party 5 g) {rr : Int32} {wr : Wd} (hR : Rets E g (some .int) (some (.int rr)) wr) : ∀ (n : Nat) (x1 : Int32) (x2 : Int32) (x3 : Int32) (x4 : Int32) (w : Wd), f_X5_party_l27 n x1 x2 x3 x4 w = some (rr, wr) → Xx E 5 g 27 [(0, .ref (ad g 0)), (1, .int x1), (2, .int x2), (3, .int x3), (4, .int x4)] [] w := by
  intro n
  induction n with
  | zero =>
    intro x1 x2 x3 x4 w hM
    rw [f_X5_party_l27] at hM
    cases hM
  | succ n ih =>
    intro x1 x2 x3 x4 w hM
    rw [f_X5_party_l27] at hM
    exact o_X5_party_h27 C hR ih x1 x2 x3 x4 w hM
set_option maxHeartbeats 1000000 in
set_option maxRecDepth 20000 in
theorem o_X5_party_b0 {E : Ex} {g : Gx} (C : Ctx E RX5 cX5_party rm_X5_party 5 g) {rr : Int32} {wr : Wd} (hR : Rets E g (some .int) (some (.int rr)) wr) (x1 : Int32) (w : Wd) (hM : f_X5_party_b0 x1 w = some (rr, wr)) : Xx E 5 g 0 [(0, .ref (ad g 0)), (1, .int x1)] [] w := by
  unfold f_X5_party_b0 at hM
  refine x_iload_n C dX5_party_0 1 rfl rfl ?_
  refine x_iconst (v := 1) C dX5_party_1 (by decide) ?_
  refine x_icmp_lt (tgt := 11) C dX5_party_2 (by decide) (fun c_1 => ?_) (fun c_1 => ?_)
  · have hM := ip c_1 hM
    refine x_iconst (v := -1) C dX5_party_11 (by decide) ?_
    obtain ⟨rfl, rfl⟩ := rt hM
    exact x_iret C hR rfl dX5_party_12
  · have hM := iq c_1 hM
    refine x_iload_n C dX5_party_5 1 rfl rfl ?_
    refine x_bipush (v := 54) C dX5_party_6 (by decide) ?_
    refine x_icmp_le (tgt := 13) C dX5_party_8 (by decide) (fun c_2 => ?_) (fun c_2 => ?_)
    · have hM := ip c_2 hM
      refine x_aload_n C dX5_party_13 0 rfl rfl ?_
      refine xg_5_1 C kd_0 gw_271 dX5_party_14 ?_
      obtain ⟨r_4, w_3, h_5, hM⟩ := cl hM
      refine x_callVN (As := []) C (c_X2_all E.l g 4 kd_4 w h_5) k_X2_all kd_4 (by decide) rfl rfl nw_397 rfl rfl ⟨Nat.le_of_ble_eq_true rfl, Nat.le_of_ble_eq_true rfl⟩ rfl rfl (Nat.le_of_ble_eq_true rfl) dX5_party_17 ?_
      obtain ⟨x2_6, e_7, hM⟩ := bd hM
      refine x_top e_7 ?_
      refine x_istore_n (L' := [(2, .int x2_6), (0, .ref (ad g 0)), (1, .int x1)]) C dX5_party_20 rfl (by decide) rfl ?_
      refine x_bipush (v := -9) C dX5_party_21 (by decide) ?_
      obtain ⟨x3_8, e_9, hM⟩ := bd hM
      refine x_top e_9 ?_
      refine x_istore_n (L' := [(3, .int x3_8), (2, .int x2_6), (0, .ref (ad g 0)), (1, .int x1)]) C dX5_party_23 rfl (by decide) rfl ?_
      refine x_iconst (v := 0) C dX5_party_24 (by decide) ?_
      obtain ⟨x4_10, e_11, hM⟩ := bd hM
      refine x_top e_11 ?_
      refine x_istore (L' := [(4, .int x4_10), (3, .int x3_8), (2, .int x2_6), (0, .ref (ad g 0)), (1, .int x1)]) C dX5_party_25 (by decide) rfl ?_
      refine x_sub (L' := [(0, .ref (ad g 0)), (1, .int x1), (2, .int x2_6), (3, .int x3_8), (4, .int x4_10)]) [3, 4, 2, 1, 0] rfl ?_
      exact o_X5_party_l27 C hR 300 x1 x2_6 x3_8 x4_10 w_3 hM
    · have hM := iq c_2 hM
      refine x_iconst (v := -1) C dX5_party_11 (by decide) ?_
      obtain ⟨rfl, rfl⟩ := rt hM
      exact x_iret C hR rfl dX5_party_12
theorem c_X5_party (l : Launch) (g : Gx) (x1 : Int32) (w : Wd) {rr : Int32} {wr : Wd} (hM : f_X5_party x1 w = some (rr, wr)) : MetM l yX5_party cX5_party 5 (some .int) rm_X5_party g [.ref (ad g 0), .int x1] w (some (.int rr)) wr := by
  refine met_of (by decide) (Nat.le_of_ble_eq_true rfl) (fun E hl C hR => ?_)
  refine x_sub (L' := [(0, .ref (ad g 0)), (1, .int x1)]) [0, 1] rfl ?_
  exact o_X5_party_b0 C hR x1 w hM
abbrev rm_X5_power : Room := { frames := 1, cells := 0, slots := 0, locals := 23 }
set_option maxHeartbeats 1000000 in
set_option maxRecDepth 20000 in
theorem o_X5_power_b90 {E : Ex} {g : Gx} (C : Ctx E RX5 cX5_power rm_X5_power 8 g) {rr : Int32} {wr : Wd} (hR : Rets E g (some .int) (some (.int rr)) wr) {kh46 : (Int32 → Int32 → Int32 → Int32 → Int32 → Int32 → Wd → Option (Int32 × Wd))} (Hh46 : ∀ (x1 : Int32) (x2 : Int32) (x3 : Int32) (x4 : Int32) (x5 : Int32) (x6 : Int32) (w : Wd), kh46 x1 x2 x3 x4 x5 x6 w = some (rr, wr) → Xx E 8 g 46 [(0, .ref (ad g 0)), (1, .int x1), (2, .int x2), (3, .int x3), (4, .int x4), (5, .int x5), (6, .int x6)] [] w) (x1 : Int32) (x2 : Int32) (x3 : Int32) (x4 : Int32) (x5 : Int32) (x6 : Int32) (w : Wd) (hM : f_X5_power_b90 kh46 x1 x2 x3 x4 x5 x6 w = some (rr, wr)) : Xx E 8 g 90 [(0, .ref (ad g 0)), (1, .int x1), (2, .int x2), (3, .int x3), (4, .int x4), (5, .int x5), (6, .int x6)] [] w := by
  unfold f_X5_power_b90 at hM
  obtain ⟨x6_1, e_2, hM⟩ := bd hM
  refine x_iinc (L' := [(6, .int x6_1), (0, .ref (ad g 0)), (1, .int x1), (2, .int x2), (3, .int x3), (4, .int x4), (5, .int x5)]) C dX5_power_90 6 rfl (v := x6_1) (by rw [e_2]; first | rfl | decide) (by decide) rfl ?_
  refine x_goto (tgt := 46) C dX5_power_93 (by decide) ?_
  refine x_sub (L' := [(0, .ref (ad g 0)), (1, .int x1), (2, .int x2), (3, .int x3), (4, .int x4), (5, .int x5), (6, .int x6_1)]) [1, 2, 3, 4, 5, 6, 0] rfl ?_
  exact Hh46 x1 x2 x3 x4 x5 x6_1 w hM
set_option maxHeartbeats 1000000 in
set_option maxRecDepth 20000 in
theorem o_X5_power_h46 {E : Ex} {g : Gx} (C : Ctx E RX5 cX5_power rm_X5_power 8 g) {rr : Int32} {wr : Wd} (hR : Rets E g (some .int) (some (.int rr)) wr) {kh46 : (Int32 → Int32 → Int32 → Int32 → Int32 → Int32 → Wd → Option (Int32 × Wd))} (Hh46 : ∀ (x1 : Int32) (x2 : Int32) (x3 : Int32) (x4 : Int32) (x5 : Int32) (x6 : Int32) (w : Wd), kh46 x1 x2 x3 x4 x5 x6 w = some (rr, wr) → Xx E 8 g 46 [(0, .ref (ad g 0)), (1, .int x1), (2, .int x2), (3, .int x3), (4, .int x4), (5, .int x5), (6, .int x6)] [] w) (x1 : Int32) (x2 : Int32) (x3 : Int32) (x4 : Int32) (x5 : Int32) (x6 : Int32) (w : Wd) (hM : f_X5_power_h46 kh46 x1 x2 x3 x4 x5 x6 w = some (rr, wr)) : Xx E 8 g 46 [(0, .ref (ad g 0)), (1, .int x1), (2, .int x2), (3, .int x3), (4, .int x4), (5, .int x5), (6, .int x6)] [] w := by
  unfold f_X5_power_h46 at hM
  refine x_iload C dX5_power_46 6 rfl ?_
  refine x_iload_n C dX5_power_48 3 rfl rfl ?_
  refine x_icmp_gt (tgt := 96) C dX5_power_49 (by decide) (fun c_1 => ?_) (fun c_1 => ?_)
  · have hM := ip c_1 hM
    refine x_iload C dX5_power_96 5 rfl ?_
    obtain ⟨rfl, rfl⟩ := rt hM
    exact x_iret C hR rfl dX5_power_98
  · have hM := iq c_1 hM
    refine x_aload_n C dX5_power_52 0 rfl rfl ?_
    refine xg_5_1 C kd_0 gw_271 dX5_power_53 ?_
    refine x_iload C dX5_power_56 6 rfl ?_
    obtain ⟨r_3, w_2, h_4, hM⟩ := cl hM
    refine x_callVN (As := [.int x6]) C (c_X2_seatsOf E.l g 4 x6 kd_4 w h_4) k_X2_seatsOf kd_4 (by decide) rfl rfl nw_583 rfl rfl ⟨Nat.le_of_ble_eq_true rfl, Nat.le_of_ble_eq_true rfl⟩ rfl rfl (Nat.le_of_ble_eq_true rfl) dX5_power_58 ?_
    obtain ⟨x7_5, e_6, hM⟩ := bd hM
    refine x_top e_6 ?_
    refine x_istore (L' := [(7, .int x7_5), (0, .ref (ad g 0)), (1, .int x1), (2, .int x2), (3, .int x3), (4, .int x4), (5, .int x5), (6, .int x6)]) C dX5_power_61 (by decide) rfl ?_
    refine x_iload C dX5_power_63 7 rfl ?_
    refine x_iload_n C dX5_power_65 2 rfl rfl ?_
    refine x_ishr C dX5_power_66 ?_
    refine x_iconst (v := 1) C dX5_power_67 (by decide) ?_
    refine x_iand C dX5_power_68 ?_
    refine x_if_ne (tgt := 90) C dX5_power_69 (by decide) (fun c_7 => ?_) (fun c_7 => ?_)
    · have hM := iq c_7 hM
      refine x_sub (L' := [(0, .ref (ad g 0)), (1, .int x1), (2, .int x2), (3, .int x3), (4, .int x4), (5, .int x5), (6, .int x6)]) [1, 2, 3, 4, 5, 6, 7] rfl ?_
      exact o_X5_power_b90 C hR Hh46 x1 x2 x3 x4 x5 x6 w_2 hM
    · have hM := ip c_7 hM
      refine x_iload C dX5_power_72 0 rfl ?_
      refine x_iload_n C dX5_power_74 3 rfl rfl ?_
      refine x_icmp_ge (tgt := 90) C dX5_power_75 (by decide) (fun c_8 => ?_) (fun c_8 => ?_)
      · have hM := ip c_8 hM
        refine x_sub (L' := [(0, .ref (ad g 0)), (1, .int x1), (2, .int x2), (3, .int x3), (4, .int x4), (5, .int x5), (6, .int x6)]) [1, 2, 3, 4, 5, 6, 7] rfl ?_
        exact o_X5_power_b90 C hR Hh46 x1 x2 x3 x4 x5 x6 w_2 hM
      · have hM := iq c_8 hM
        refine x_iload C dX5_power_78 0 rfl ?_
        refine x_iload C dX5_power_80 5 rfl ?_
        refine x_iadd C dX5_power_82 ?_
        refine x_iload_n C dX5_power_83 3 rfl rfl ?_
        refine x_icmp_lt (tgt := 90) C dX5_power_84 (by decide) (fun c_9 => ?_) (fun c_9 => ?_)
        · have hM := ip c_9 hM
          refine x_sub (L' := [(0, .ref (ad g 0)), (1, .int x1), (2, .int x2), (3, .int x3), (4, .int x4), (5, .int x5), (6, .int x6)]) [1, 2, 3, 4, 5, 6, 7] rfl ?_
          exact o_X5_power_b90 C hR Hh46 x1 x2 x3 x4 x5 x6 w_2 hM
        · have hM := iq c_9 hM
          obtain ⟨x5_10, e_11, hM⟩ := bd hM
          refine x_iinc (L' := [(5, .int x5_10), (7, .int x7_5), (0, .ref (ad g 0)), (1, .int x1), (2, .int x2), (3, .int x3), (4, .int x4), (6, .int x6)]) C dX5_power_87 6 rfl (v := x5_10) (by rw [e_11]; first | rfl | decide) (by decide) rfl ?_
          refine x_sub (L' := [(0, .ref (ad g 0)), (1, .int x1), (2, .int x2), (3, .int x3), (4, .int x4), (5, .int x5_10), (6, .int x6)]) [2, 3, 4, 5, 6, 0, 7] rfl ?_
          exact o_X5_power_b90 C hR Hh46 x1 x2 x3 x4 x5_10 x6 w_2 hM
theorem o_X5_power_l46 {E : Ex} {g : Gx} (C : Ctx E RX5 cX5_power rm_X5_power 8 g) {rr : Int32} {wr : Wd} (hR : Rets E g (some .int) (some (.int rr)) wr) : ∀ (n : Nat) (x1 : Int32) (x2 : Int32) (x3 : Int32) (x4 : Int32) (x5 : Int32) (x6 : Int32) (w : Wd), f_X5_power_l46 n x1 x2 x3 x4 x5 x6 w = some (rr, wr) → Xx E 8 g 46 [(0, .ref (ad g 0)), (1, .int x1), (2, .int x2), (3, .int x3), (4, .int x4), (5, .int x5), (6, .int x6)] [] w := by
  intro n
  induction n with
  | zero =>
    intro x1 x2 x3 x4 x5 x6 w hM
    rw [f_X5_power_l46] at hM
    cases hM
  | succ n ih =>
    intro x1 x2 x3 x4 x5 x6 w hM
    rw [f_X5_power_l46] at hM
    exact o_X5_power_h46 C hR ih x1 x2 x3 x4 x5 x6 w hM
set_option maxHeartbeats 1000000 in
set_option maxRecDepth 20000 in
theorem o_X5_power_b0 {E : Ex} {g : Gx} (C : Ctx E RX5 cX5_power rm_X5_power 8 g) {rr : Int32} {wr : Wd} (hR : Rets E g (some .int) (some (.int rr)) wr) (x1 : Int32) (x2 : Int32) (w : Wd) (hM : f_X5_power_b0 x1 x2 w = some (rr, wr)) : Xx E 8 g 0 [(0, .ref (ad g 0)), (1, .int x1), (2, .int x2)] [] w := by
  unfold f_X5_power_b0 at hM
  refine x_aload_n C dX5_power_0 0 rfl rfl ?_
  refine x_iload_n C dX5_power_1 1 rfl rfl ?_
  obtain ⟨r_2, w_1, h_3, hM⟩ := cl hM
  refine x_callV (As := [.int x1]) C (c_X5_isTold E.l g x1 w h_3) k_X5_isTold kd_0 (by decide) rfl rfl gw_385 rfl rfl ⟨Nat.le_of_ble_eq_true rfl, Nat.le_of_ble_eq_true rfl⟩ rfl rfl (Nat.le_of_ble_eq_true rfl) dX5_power_2 ?_
  refine x_if_eq (tgt := 19) C dX5_power_5 (by decide) (fun c_4 => ?_) (fun c_4 => ?_)
  · have hM := ip c_4 hM
    refine x_iconst (v := -1) C dX5_power_19 (by decide) ?_
    obtain ⟨rfl, rfl⟩ := rt hM
    exact x_iret C hR rfl dX5_power_20
  · have hM := iq c_4 hM
    refine x_iload_n C dX5_power_8 2 rfl rfl ?_
    refine x_iconst (v := 1) C dX5_power_9 (by decide) ?_
    refine x_icmp_lt (tgt := 19) C dX5_power_10 (by decide) (fun c_5 => ?_) (fun c_5 => ?_)
    · have hM := ip c_5 hM
      refine x_iconst (v := -1) C dX5_power_19 (by decide) ?_
      obtain ⟨rfl, rfl⟩ := rt hM
      exact x_iret C hR rfl dX5_power_20
    · have hM := iq c_5 hM
      refine x_iload_n C dX5_power_13 2 rfl rfl ?_
      refine x_bipush (v := 54) C dX5_power_14 (by decide) ?_
      refine x_icmp_le (tgt := 21) C dX5_power_16 (by decide) (fun c_6 => ?_) (fun c_6 => ?_)
      · have hM := ip c_6 hM
        refine x_aload_n C dX5_power_21 0 rfl rfl ?_
        refine xg_5_1 C kd_0 gw_271 dX5_power_22 ?_
        obtain ⟨r_8, w_7, h_9, hM⟩ := cl hM
        refine x_callVN (As := []) C (c_X2_all E.l g 4 kd_4 w_1 h_9) k_X2_all kd_4 (by decide) rfl rfl nw_397 rfl rfl ⟨Nat.le_of_ble_eq_true rfl, Nat.le_of_ble_eq_true rfl⟩ rfl rfl (Nat.le_of_ble_eq_true rfl) dX5_power_25 ?_
        obtain ⟨x3_10, e_11, hM⟩ := bd hM
        refine x_top e_11 ?_
        refine x_istore_n (L' := [(3, .int x3_10), (0, .ref (ad g 0)), (1, .int x1), (2, .int x2)]) C dX5_power_28 rfl (by decide) rfl ?_
        refine x_aload_n C dX5_power_29 1 rfl rfl ?_
        refine xg_5_1 C kd_0 gw_271 dX5_power_30 ?_
        refine xgN_2_7 C kd_4 nw_170 dX5_power_33 ?_
        refine x_iload_n C dX5_power_36 2 rfl rfl ?_
        obtain ⟨q_12, hM⟩ := gd hM
        refine x_iald C kd_8 ln_8 q_12 rfl dX5_power_37 ?_
        obtain ⟨x4_13, e_14, hM⟩ := bd hM
        refine x_top e_14 ?_
        refine x_istore (L' := [(4, .int x4_13), (3, .int x3_10), (0, .ref (ad g 0)), (1, .int x1), (2, .int x2)]) C dX5_power_38 (by decide) rfl ?_
        refine x_iconst (v := 0) C dX5_power_40 (by decide) ?_
        obtain ⟨x5_15, e_16, hM⟩ := bd hM
        refine x_top e_16 ?_
        refine x_istore (L' := [(5, .int x5_15), (4, .int x4_13), (3, .int x3_10), (0, .ref (ad g 0)), (1, .int x1), (2, .int x2)]) C dX5_power_41 (by decide) rfl ?_
        refine x_iconst (v := 0) C dX5_power_43 (by decide) ?_
        obtain ⟨x6_17, e_18, hM⟩ := bd hM
        refine x_top e_18 ?_
        refine x_istore (L' := [(6, .int x6_17), (5, .int x5_15), (4, .int x4_13), (3, .int x3_10), (0, .ref (ad g 0)), (1, .int x1), (2, .int x2)]) C dX5_power_44 (by decide) rfl ?_
        refine x_sub (L' := [(0, .ref (ad g 0)), (1, .int x1), (2, .int x2), (3, .int x3_10), (4, .int x4_13), (5, .int x5_15), (6, .int x6_17)]) [4, 5, 6, 3, 2, 1, 0] rfl ?_
        exact o_X5_power_l46 C hR 300 x1 x2 x3_10 x4_13 x5_15 x6_17 w_7 hM
      · have hM := iq c_6 hM
        refine x_iconst (v := -1) C dX5_power_19 (by decide) ?_
        obtain ⟨rfl, rfl⟩ := rt hM
        exact x_iret C hR rfl dX5_power_20
theorem c_X5_power (l : Launch) (g : Gx) (x1 : Int32) (x2 : Int32) (w : Wd) {rr : Int32} {wr : Wd} (hM : f_X5_power x1 x2 w = some (rr, wr)) : MetM l yX5_power cX5_power 8 (some .int) rm_X5_power g [.ref (ad g 0), .int x1, .int x2] w (some (.int rr)) wr := by
  refine met_of (by decide) (Nat.le_of_ble_eq_true rfl) (fun E hl C hR => ?_)
  refine x_sub (L' := [(0, .ref (ad g 0)), (1, .int x1), (2, .int x2)]) [0, 1, 2] rfl ?_
  exact o_X5_power_b0 C hR x1 x2 w hM
abbrev rm_X5_raised : Room := { frames := 0, cells := 0, slots := 0, locals := 0 }
set_option maxHeartbeats 1000000 in
set_option maxRecDepth 20000 in
theorem o_X5_raised_h4 {E : Ex} {g : Gx} (C : Ctx E RX5 cX5_raised rm_X5_raised 4 g) {rr : Int32} {wr : Wd} (hR : Rets E g (some .int) (some (.int rr)) wr) {kh4 : (Int32 → Int32 → Int32 → Int32 → Wd → Option (Int32 × Wd))} (Hh4 : ∀ (x0 : Int32) (x1 : Int32) (x2 : Int32) (x3 : Int32) (w : Wd), kh4 x0 x1 x2 x3 w = some (rr, wr) → Xx E 4 g 4 [(0, .int x0), (1, .int x1), (2, .int x2), (3, .int x3)] [] w) (x0 : Int32) (x1 : Int32) (x2 : Int32) (x3 : Int32) (w : Wd) (hM : f_X5_raised_h4 kh4 x0 x1 x2 x3 w = some (rr, wr)) : Xx E 4 g 4 [(0, .int x0), (1, .int x1), (2, .int x2), (3, .int x3)] [] w := by
  unfold f_X5_raised_h4 at hM
  refine x_iload_n C dX5_raised_4 3 rfl rfl ?_
  refine x_iload_n C dX5_raised_5 1 rfl rfl ?_
  refine x_icmp_ge (tgt := 19) C dX5_raised_6 (by decide) (fun c_1 => ?_) (fun c_1 => ?_)
  · have hM := ip c_1 hM
    refine x_iload_n C dX5_raised_19 2 rfl rfl ?_
    obtain ⟨rfl, rfl⟩ := rt hM
    exact x_iret C hR rfl dX5_raised_20
  · have hM := iq c_1 hM
    refine x_iload_n C dX5_raised_9 2 rfl rfl ?_
    refine x_iload_n C dX5_raised_10 0 rfl rfl ?_
    refine x_imul C dX5_raised_11 ?_
    obtain ⟨x2_2, e_3, hM⟩ := bd hM
    refine x_top e_3 ?_
    refine x_istore_n (L' := [(2, .int x2_2), (0, .int x0), (1, .int x1), (3, .int x3)]) C dX5_raised_12 rfl (by decide) rfl ?_
    obtain ⟨x3_4, e_5, hM⟩ := bd hM
    refine x_iinc (L' := [(3, .int x3_4), (2, .int x2_2), (0, .int x0), (1, .int x1)]) C dX5_raised_13 3 rfl (v := x3_4) (by rw [e_5]; first | rfl | decide) (by decide) rfl ?_
    refine x_goto (tgt := 4) C dX5_raised_16 (by decide) ?_
    refine x_sub (L' := [(0, .int x0), (1, .int x1), (2, .int x2_2), (3, .int x3_4)]) [2, 3, 1, 0] rfl ?_
    exact Hh4 x0 x1 x2_2 x3_4 w hM
theorem o_X5_raised_l4 {E : Ex} {g : Gx} (C : Ctx E RX5 cX5_raised rm_X5_raised 4 g) {rr : Int32} {wr : Wd} (hR : Rets E g (some .int) (some (.int rr)) wr) : ∀ (n : Nat) (x0 : Int32) (x1 : Int32) (x2 : Int32) (x3 : Int32) (w : Wd), f_X5_raised_l4 n x0 x1 x2 x3 w = some (rr, wr) → Xx E 4 g 4 [(0, .int x0), (1, .int x1), (2, .int x2), (3, .int x3)] [] w := by
  intro n
  induction n with
  | zero =>
    intro x0 x1 x2 x3 w hM
    rw [f_X5_raised_l4] at hM
    cases hM
  | succ n ih =>
    intro x0 x1 x2 x3 w hM
    rw [f_X5_raised_l4] at hM
    exact o_X5_raised_h4 C hR ih x0 x1 x2 x3 w hM
set_option maxHeartbeats 1000000 in
set_option maxRecDepth 20000 in
theorem o_X5_raised_b0 {E : Ex} {g : Gx} (C : Ctx E RX5 cX5_raised rm_X5_raised 4 g) {rr : Int32} {wr : Wd} (hR : Rets E g (some .int) (some (.int rr)) wr) (x0 : Int32) (x1 : Int32) (w : Wd) (hM : f_X5_raised_b0 x0 x1 w = some (rr, wr)) : Xx E 4 g 0 [(0, .int x0), (1, .int x1)] [] w := by
  unfold f_X5_raised_b0 at hM
  refine x_iconst (v := 1) C dX5_raised_0 (by decide) ?_
  obtain ⟨x2_1, e_2, hM⟩ := bd hM
  refine x_top e_2 ?_
  refine x_istore_n (L' := [(2, .int x2_1), (0, .int x0), (1, .int x1)]) C dX5_raised_1 rfl (by decide) rfl ?_
  refine x_iconst (v := 0) C dX5_raised_2 (by decide) ?_
  obtain ⟨x3_3, e_4, hM⟩ := bd hM
  refine x_top e_4 ?_
  refine x_istore_n (L' := [(3, .int x3_3), (2, .int x2_1), (0, .int x0), (1, .int x1)]) C dX5_raised_3 rfl (by decide) rfl ?_
  refine x_sub (L' := [(0, .int x0), (1, .int x1), (2, .int x2_1), (3, .int x3_3)]) [2, 3, 1, 0] rfl ?_
  exact o_X5_raised_l4 C hR 300 x0 x1 x2_1 x3_3 w hM
theorem c_X5_raised (l : Launch) (g : Gx) (x0 : Int32) (x1 : Int32) (w : Wd) {rr : Int32} {wr : Wd} (hM : f_X5_raised x0 x1 w = some (rr, wr)) : MetM l yX5_raised cX5_raised 4 (some .int) rm_X5_raised g [.int x0, .int x1] w (some (.int rr)) wr := by
  refine met_of (by decide) (Nat.le_of_ble_eq_true rfl) (fun E hl C hR => ?_)
  refine x_sub (L' := [(0, .int x0), (1, .int x1)]) [0, 1] rfl ?_
  exact o_X5_raised_b0 C hR x0 x1 w hM
abbrev rm_X5_greatestCommon : Room := { frames := 0, cells := 0, slots := 0, locals := 0 }
set_option maxHeartbeats 1000000 in
set_option maxRecDepth 20000 in
theorem o_X5_greatestCommon_b34 {E : Ex} {g : Gx} (C : Ctx E RX5 cX5_greatestCommon rm_X5_greatestCommon 6 g) {rr : Int32} {wr : Wd} (hR : Rets E g (some .int) (some (.int rr)) wr) (x2 : Int32) (w : Wd) (hM : f_X5_greatestCommon_b34 x2 w = some (rr, wr)) : Xx E 6 g 34 [(2, .int x2)] [] w := by
  unfold f_X5_greatestCommon_b34 at hM
  refine x_iload_n C dX5_greatestCommon_34 0 rfl rfl ?_
  obtain ⟨rfl, rfl⟩ := rt hM
  exact x_iret C hR rfl dX5_greatestCommon_35
set_option maxHeartbeats 1000000 in
set_option maxRecDepth 20000 in
theorem o_X5_greatestCommon_h7 {E : Ex} {g : Gx} (C : Ctx E RX5 cX5_greatestCommon rm_X5_greatestCommon 6 g) {rr : Int32} {wr : Wd} (hR : Rets E g (some .int) (some (.int rr)) wr) {kh7 : (Int32 → Int32 → Int32 → Wd → Option (Int32 × Wd))} (Hh7 : ∀ (x2 : Int32) (x3 : Int32) (x4 : Int32) (w : Wd), kh7 x2 x3 x4 w = some (rr, wr) → Xx E 6 g 7 [(2, .int x2), (3, .int x3), (4, .int x4)] [] w) (x2 : Int32) (x3 : Int32) (x4 : Int32) (w : Wd) (hM : f_X5_greatestCommon_h7 kh7 x2 x3 x4 w = some (rr, wr)) : Xx E 6 g 7 [(2, .int x2), (3, .int x3), (4, .int x4)] [] w := by
  unfold f_X5_greatestCommon_h7 at hM
  refine x_iload C dX5_greatestCommon_7 2 rfl ?_
  refine x_bipush (v := 64) C dX5_greatestCommon_9 (by decide) ?_
  refine x_icmp_ge (tgt := 34) C dX5_greatestCommon_11 (by decide) (fun c_1 => ?_) (fun c_1 => ?_)
  · have hM := ip c_1 hM
    refine x_sub (L' := [(2, .int x2)]) [0] rfl ?_
    exact o_X5_greatestCommon_b34 C hR x2 w hM
  · have hM := iq c_1 hM
    refine x_iload_n C dX5_greatestCommon_14 1 rfl rfl ?_
    refine x_if_eq (tgt := 34) C dX5_greatestCommon_15 (by decide) (fun c_2 => ?_) (fun c_2 => ?_)
    · have hM := ip c_2 hM
      refine x_sub (L' := [(2, .int x2)]) [0] rfl ?_
      exact o_X5_greatestCommon_b34 C hR x2 w hM
    · have hM := iq c_2 hM
      refine x_iload_n C dX5_greatestCommon_18 0 rfl rfl ?_
      refine x_iload_n C dX5_greatestCommon_19 1 rfl rfl ?_
      obtain ⟨q_3, hM⟩ := gd hM
      refine x_irem C dX5_greatestCommon_20 (nz_ne q_3) ?_
      obtain ⟨x5_4, e_5, hM⟩ := bd hM
      refine x_top e_5 ?_
      refine x_istore (L' := [(5, .int x5_4), (2, .int x2), (3, .int x3), (4, .int x4)]) C dX5_greatestCommon_21 (by decide) rfl ?_
      refine x_iload_n C dX5_greatestCommon_23 2 rfl rfl ?_
      obtain ⟨x2_6, e_7, hM⟩ := bd hM
      refine x_top e_7 ?_
      refine x_istore_n (L' := [(2, .int x2_6), (5, .int x5_4), (3, .int x3), (4, .int x4)]) C dX5_greatestCommon_24 rfl (by decide) rfl ?_
      refine x_iload C dX5_greatestCommon_25 1 rfl ?_
      obtain ⟨x3_8, e_9, hM⟩ := bd hM
      refine x_top e_9 ?_
      refine x_istore_n (L' := [(3, .int x3_8), (2, .int x2_6), (5, .int x5_4), (4, .int x4)]) C dX5_greatestCommon_27 rfl (by decide) rfl ?_
      obtain ⟨x4_10, e_11, hM⟩ := bd hM
      refine x_iinc (L' := [(4, .int x4_10), (3, .int x3_8), (2, .int x2_6), (5, .int x5_4)]) C dX5_greatestCommon_28 3 rfl (v := x4_10) (by rw [e_11]; first | rfl | decide) (by decide) rfl ?_
      refine x_goto (tgt := 7) C dX5_greatestCommon_31 (by decide) ?_
      refine x_sub (L' := [(2, .int x2_6), (3, .int x3_8), (4, .int x4_10)]) [2, 1, 0] rfl ?_
      exact Hh7 x2_6 x3_8 x4_10 w hM
theorem o_X5_greatestCommon_l7 {E : Ex} {g : Gx} (C : Ctx E RX5 cX5_greatestCommon rm_X5_greatestCommon 6 g) {rr : Int32} {wr : Wd} (hR : Rets E g (some .int) (some (.int rr)) wr) : ∀ (n : Nat) (x2 : Int32) (x3 : Int32) (x4 : Int32) (w : Wd), f_X5_greatestCommon_l7 n x2 x3 x4 w = some (rr, wr) → Xx E 6 g 7 [(2, .int x2), (3, .int x3), (4, .int x4)] [] w := by
  intro n
  induction n with
  | zero =>
    intro x2 x3 x4 w hM
    rw [f_X5_greatestCommon_l7] at hM
    cases hM
  | succ n ih =>
    intro x2 x3 x4 w hM
    rw [f_X5_greatestCommon_l7] at hM
    exact o_X5_greatestCommon_h7 C hR ih x2 x3 x4 w hM
set_option maxHeartbeats 1000000 in
set_option maxRecDepth 20000 in
theorem o_X5_greatestCommon_b0 {E : Ex} {g : Gx} (C : Ctx E RX5 cX5_greatestCommon rm_X5_greatestCommon 6 g) {rr : Int32} {wr : Wd} (hR : Rets E g (some .int) (some (.int rr)) wr) (x0 : Int32) (x1 : Int32) (w : Wd) (hM : f_X5_greatestCommon_b0 x0 x1 w = some (rr, wr)) : Xx E 6 g 0 [(0, .int x0), (1, .int x1)] [] w := by
  unfold f_X5_greatestCommon_b0 at hM
  refine x_iload_n C dX5_greatestCommon_0 0 rfl rfl ?_
  obtain ⟨x2_1, e_2, hM⟩ := bd hM
  refine x_top e_2 ?_
  refine x_istore_n (L' := [(2, .int x2_1), (0, .int x0), (1, .int x1)]) C dX5_greatestCommon_1 rfl (by decide) rfl ?_
  refine x_iload_n C dX5_greatestCommon_2 2 rfl rfl ?_
  obtain ⟨x3_3, e_4, hM⟩ := bd hM
  refine x_top e_4 ?_
  refine x_istore_n (L' := [(3, .int x3_3), (2, .int x2_1), (0, .int x0), (1, .int x1)]) C dX5_greatestCommon_3 rfl (by decide) rfl ?_
  refine x_iconst (v := 0) C dX5_greatestCommon_4 (by decide) ?_
  obtain ⟨x4_5, e_6, hM⟩ := bd hM
  refine x_top e_6 ?_
  refine x_istore (L' := [(4, .int x4_5), (3, .int x3_3), (2, .int x2_1), (0, .int x0), (1, .int x1)]) C dX5_greatestCommon_5 (by decide) rfl ?_
  refine x_sub (L' := [(2, .int x2_1), (3, .int x3_3), (4, .int x4_5)]) [2, 1, 0] rfl ?_
  exact o_X5_greatestCommon_l7 C hR 300 x2_1 x3_3 x4_5 w hM
theorem c_X5_greatestCommon (l : Launch) (g : Gx) (x0 : Int32) (x1 : Int32) (w : Wd) {rr : Int32} {wr : Wd} (hM : f_X5_greatestCommon x0 x1 w = some (rr, wr)) : MetM l yX5_greatestCommon cX5_greatestCommon 6 (some .int) rm_X5_greatestCommon g [.int x0, .int x1] w (some (.int rr)) wr := by
  refine met_of (by decide) (Nat.le_of_ble_eq_true rfl) (fun E hl C hR => ?_)
  refine x_sub (L' := [(0, .int x0), (1, .int x1)]) [0, 1] rfl ?_
  exact o_X5_greatestCommon_b0 C hR x0 x1 w hM
abbrev rm_X5_odds : Room := { frames := 2, cells := 0, slots := 0, locals := 43 }
set_option maxHeartbeats 1000000 in
set_option maxRecDepth 20000 in
theorem o_X5_odds_b95 {E : Ex} {g : Gx} (C : Ctx E RX5 cX5_odds rm_X5_odds 9 g) {rr : Int32} {wr : Wd} (hR : Rets E g (some .int) (some (.int rr)) wr) {kh49 : (Int32 → Int32 → Int32 → Int32 → Int32 → Int32 → Wd → Option (Int32 × Wd))} (Hh49 : ∀ (x1 : Int32) (x2 : Int32) (x3 : Int32) (x4 : Int32) (x5 : Int32) (x6 : Int32) (w : Wd), kh49 x1 x2 x3 x4 x5 x6 w = some (rr, wr) → Xx E 9 g 49 [(1, .int x1), (2, .int x2), (3, .int x3), (4, .int x4), (5, .int x5), (6, .int x6)] [] w) (x1 : Int32) (x2 : Int32) (x3 : Int32) (x4 : Int32) (x5 : Int32) (x6 : Int32) (w : Wd) (hM : f_X5_odds_b95 kh49 x1 x2 x3 x4 x5 x6 w = some (rr, wr)) : Xx E 9 g 95 [(1, .int x1), (2, .int x2), (3, .int x3), (4, .int x4), (5, .int x5), (6, .int x6)] [] w := by
  unfold f_X5_odds_b95 at hM
  obtain ⟨x6_1, e_2, hM⟩ := bd hM
  refine x_iinc (L' := [(6, .int x6_1), (1, .int x1), (2, .int x2), (3, .int x3), (4, .int x4), (5, .int x5)]) C dX5_odds_95 5 rfl (v := x6_1) (by rw [e_2]; first | rfl | decide) (by decide) rfl ?_
  refine x_goto (tgt := 49) C dX5_odds_98 (by decide) ?_
  refine x_sub (L' := [(1, .int x1), (2, .int x2), (3, .int x3), (4, .int x4), (5, .int x5), (6, .int x6_1)]) [1, 2, 3, 4, 5, 0] rfl ?_
  exact Hh49 x1 x2 x3 x4 x5 x6_1 w hM
set_option maxHeartbeats 1000000 in
set_option maxRecDepth 20000 in
theorem o_X5_odds_h49 {E : Ex} {g : Gx} (C : Ctx E RX5 cX5_odds rm_X5_odds 9 g) {rr : Int32} {wr : Wd} (hR : Rets E g (some .int) (some (.int rr)) wr) {kh49 : (Int32 → Int32 → Int32 → Int32 → Int32 → Int32 → Wd → Option (Int32 × Wd))} (Hh49 : ∀ (x1 : Int32) (x2 : Int32) (x3 : Int32) (x4 : Int32) (x5 : Int32) (x6 : Int32) (w : Wd), kh49 x1 x2 x3 x4 x5 x6 w = some (rr, wr) → Xx E 9 g 49 [(1, .int x1), (2, .int x2), (3, .int x3), (4, .int x4), (5, .int x5), (6, .int x6)] [] w) (x1 : Int32) (x2 : Int32) (x3 : Int32) (x4 : Int32) (x5 : Int32) (x6 : Int32) (w : Wd) (hM : f_X5_odds_h49 kh49 x1 x2 x3 x4 x5 x6 w = some (rr, wr)) : Xx E 9 g 49 [(1, .int x1), (2, .int x2), (3, .int x3), (4, .int x4), (5, .int x5), (6, .int x6)] [] w := by
  unfold f_X5_odds_h49 at hM
  refine x_iload C dX5_odds_49 5 rfl ?_
  refine x_iconst (v := 1) C dX5_odds_51 (by decide) ?_
  refine x_iload C dX5_odds_52 3 rfl ?_
  refine x_ishl C dX5_odds_54 ?_
  refine x_icmp_ge (tgt := 101) C dX5_odds_55 (by decide) (fun c_1 => ?_) (fun c_1 => ?_)
  · have hM := ip c_1 hM
    refine x_bipush (v := 10) C dX5_odds_101 (by decide) ?_
    refine x_iload C dX5_odds_103 3 rfl ?_
    obtain ⟨r_3, w_2, h_4, hM⟩ := cl hM
    refine x_callS (As := [.int (10 : Int32), .int x4]) C (c_X5_raised E.l g (10 : Int32) x4 w h_4) k_X5_raised gw_595 rfl rfl ⟨Nat.le_of_ble_eq_true rfl, Nat.le_of_ble_eq_true rfl⟩ rfl rfl (Nat.le_of_ble_eq_true rfl) dX5_odds_105 ?_
    obtain ⟨x6_5, e_6, hM⟩ := bd hM
    refine x_top e_6 ?_
    refine x_istore (L' := [(6, .int x6_5), (1, .int x1), (2, .int x2), (3, .int x3), (4, .int x4), (5, .int x5)]) C dX5_odds_108 (by decide) rfl ?_
    refine x_iload C dX5_odds_110 5 rfl ?_
    refine x_iload C dX5_odds_112 0 rfl ?_
    obtain ⟨r_8, w_7, h_9, hM⟩ := cl hM
    refine x_callS (As := [.int x5, .int x6_5]) C (c_X5_greatestCommon E.l g x5 x6_5 w_2 h_9) k_X5_greatestCommon gw_598 rfl rfl ⟨Nat.le_of_ble_eq_true rfl, Nat.le_of_ble_eq_true rfl⟩ rfl rfl (Nat.le_of_ble_eq_true rfl) dX5_odds_114 ?_
    obtain ⟨x7_10, e_11, hM⟩ := bd hM
    refine x_top e_11 ?_
    refine x_istore (L' := [(7, .int x7_10), (6, .int x6_5), (1, .int x1), (2, .int x2), (3, .int x3), (4, .int x4), (5, .int x5)]) C dX5_odds_117 (by decide) rfl ?_
    refine x_iload_n C dX5_odds_119 4 rfl rfl ?_
    refine x_if_ne (tgt := 128) C dX5_odds_120 (by decide) (fun c_12 => ?_) (fun c_12 => ?_)
    · have hM := iq c_12 hM
      refine x_iload C dX5_odds_128 1 rfl ?_
      obtain ⟨x8_13, e_14, hM⟩ := bd hM
      refine x_top e_14 ?_
      refine x_istore (L' := [(8, .int x8_13), (7, .int x7_10), (6, .int x6_5), (1, .int x1), (2, .int x2), (3, .int x3), (4, .int x4), (5, .int x5)]) C dX5_odds_130 (by decide) rfl ?_
      refine x_iload C dX5_odds_132 1 rfl ?_
      refine x_if_le (tgt := 145) C dX5_odds_134 (by decide) (fun c_15 => ?_) (fun c_15 => ?_)
      · have hM := ip c_15 hM
        refine x_iload C dX5_odds_145 0 rfl ?_
        obtain ⟨rfl, rfl⟩ := rt hM
        exact x_iret C hR rfl dX5_odds_147
      · have hM := iq c_15 hM
        refine x_iload C dX5_odds_137 0 rfl ?_
        refine x_iload C dX5_odds_139 1 rfl ?_
        obtain ⟨q_16, hM⟩ := gd hM
        refine x_idiv C dX5_odds_141 (nz_ne q_16) ?_
        refine x_goto (tgt := 147) C dX5_odds_142 (by decide) ?_
        obtain ⟨rfl, rfl⟩ := rt hM
        exact x_iret C hR rfl dX5_odds_147
    · have hM := ip c_12 hM
      refine x_iload C dX5_odds_123 6 rfl ?_
      refine x_goto (tgt := 130) C dX5_odds_125 (by decide) ?_
      obtain ⟨x8_17, e_18, hM⟩ := bd hM
      refine x_top e_18 ?_
      refine x_istore (L' := [(8, .int x8_17), (7, .int x7_10), (6, .int x6_5), (1, .int x1), (2, .int x2), (3, .int x3), (4, .int x4), (5, .int x5)]) C dX5_odds_130 (by decide) rfl ?_
      refine x_iload C dX5_odds_132 1 rfl ?_
      refine x_if_le (tgt := 145) C dX5_odds_134 (by decide) (fun c_19 => ?_) (fun c_19 => ?_)
      · have hM := ip c_19 hM
        refine x_iload C dX5_odds_145 0 rfl ?_
        obtain ⟨rfl, rfl⟩ := rt hM
        exact x_iret C hR rfl dX5_odds_147
      · have hM := iq c_19 hM
        refine x_iload C dX5_odds_137 0 rfl ?_
        refine x_iload C dX5_odds_139 1 rfl ?_
        obtain ⟨q_20, hM⟩ := gd hM
        refine x_idiv C dX5_odds_141 (nz_ne q_20) ?_
        refine x_goto (tgt := 147) C dX5_odds_142 (by decide) ?_
        obtain ⟨rfl, rfl⟩ := rt hM
        exact x_iret C hR rfl dX5_odds_147
  · have hM := iq c_1 hM
    refine x_iload C dX5_odds_58 5 rfl ?_
    obtain ⟨r_22, w_21, h_23, hM⟩ := cl hM
    refine x_callS (As := [.int x6]) C (c_J6_bitCount_0f7a4 E.l g x6 w h_23) k_J6_bitCount_0f7a4 gw_421 rfl rfl ⟨Nat.le_of_ble_eq_true rfl, Nat.le_of_ble_eq_true rfl⟩ rfl rfl (Nat.le_of_ble_eq_true rfl) dX5_odds_60 ?_
    obtain ⟨x7_24, e_25, hM⟩ := bd hM
    refine x_top e_25 ?_
    refine x_istore (L' := [(7, .int x7_24), (1, .int x1), (2, .int x2), (3, .int x3), (4, .int x4), (5, .int x5), (6, .int x6)]) C dX5_odds_63 (by decide) rfl ?_
    refine x_iload C dX5_odds_65 0 rfl ?_
    refine x_iload_n C dX5_odds_67 2 rfl rfl ?_
    refine x_icmp_gt (tgt := 95) C dX5_odds_68 (by decide) (fun c_26 => ?_) (fun c_26 => ?_)
    · have hM := ip c_26 hM
      refine x_sub (L' := [(1, .int x1), (2, .int x2), (3, .int x3), (4, .int x4), (5, .int x5), (6, .int x6)]) [1, 2, 3, 4, 5, 6] rfl ?_
      exact o_X5_odds_b95 C hR Hh49 x1 x2 x3 x4 x5 x6 w_21 hM
    · have hM := iq c_26 hM
      refine x_iload C dX5_odds_71 5 rfl ?_
      refine x_iload_n C dX5_odds_73 1 rfl rfl ?_
      refine x_iload C dX5_odds_74 0 rfl ?_
      obtain ⟨r_28, w_27, h_29, hM⟩ := cl hM
      refine x_callS (As := [.int x1, .int x7_24]) C (c_X5_raised E.l g x1 x7_24 w_21 h_29) k_X5_raised gw_595 rfl rfl ⟨Nat.le_of_ble_eq_true rfl, Nat.le_of_ble_eq_true rfl⟩ rfl rfl (Nat.le_of_ble_eq_true rfl) dX5_odds_76 ?_
      refine x_bipush (v := 10) C dX5_odds_79 (by decide) ?_
      refine x_iload_n C dX5_odds_81 1 rfl rfl ?_
      refine x_isub C dX5_odds_82 ?_
      refine x_iload C dX5_odds_83 4 rfl ?_
      refine x_iload C dX5_odds_85 0 rfl ?_
      refine x_isub C dX5_odds_87 ?_
      obtain ⟨r_31, w_30, h_32, hM⟩ := cl hM
      refine x_callS (As := [.int ((10 : Int32) - x1), .int (x4 - x7_24)]) C (c_X5_raised E.l g ((10 : Int32) - x1) (x4 - x7_24) w_27 h_32) k_X5_raised gw_595 rfl rfl ⟨Nat.le_of_ble_eq_true rfl, Nat.le_of_ble_eq_true rfl⟩ rfl rfl (Nat.le_of_ble_eq_true rfl) dX5_odds_88 ?_
      refine x_imul C dX5_odds_91 ?_
      refine x_iadd C dX5_odds_92 ?_
      obtain ⟨x5_33, e_34, hM⟩ := bd hM
      refine x_top e_34 ?_
      refine x_istore (L' := [(5, .int x5_33), (7, .int x7_24), (1, .int x1), (2, .int x2), (3, .int x3), (4, .int x4), (6, .int x6)]) C dX5_odds_93 (by decide) rfl ?_
      refine x_sub (L' := [(1, .int x1), (2, .int x2), (3, .int x3), (4, .int x4), (5, .int x5_33), (6, .int x6)]) [2, 3, 4, 5, 0, 6] rfl ?_
      exact o_X5_odds_b95 C hR Hh49 x1 x2 x3 x4 x5_33 x6 w_30 hM
theorem o_X5_odds_l49 {E : Ex} {g : Gx} (C : Ctx E RX5 cX5_odds rm_X5_odds 9 g) {rr : Int32} {wr : Wd} (hR : Rets E g (some .int) (some (.int rr)) wr) : ∀ (n : Nat) (x1 : Int32) (x2 : Int32) (x3 : Int32) (x4 : Int32) (x5 : Int32) (x6 : Int32) (w : Wd), f_X5_odds_l49 n x1 x2 x3 x4 x5 x6 w = some (rr, wr) → Xx E 9 g 49 [(1, .int x1), (2, .int x2), (3, .int x3), (4, .int x4), (5, .int x5), (6, .int x6)] [] w := by
  intro n
  induction n with
  | zero =>
    intro x1 x2 x3 x4 x5 x6 w hM
    rw [f_X5_odds_l49] at hM
    cases hM
  | succ n ih =>
    intro x1 x2 x3 x4 x5 x6 w hM
    rw [f_X5_odds_l49] at hM
    exact o_X5_odds_h49 C hR ih x1 x2 x3 x4 x5 x6 w hM
set_option maxHeartbeats 1000000 in
set_option maxRecDepth 20000 in
theorem o_X5_odds_b0 {E : Ex} {g : Gx} (C : Ctx E RX5 cX5_odds rm_X5_odds 9 g) {rr : Int32} {wr : Wd} (hR : Rets E g (some .int) (some (.int rr)) wr) (x1 : Int32) (x2 : Int32) (x3 : Int32) (w : Wd) (hM : f_X5_odds_b0 x1 x2 x3 w = some (rr, wr)) : Xx E 9 g 0 [(0, .ref (ad g 0)), (1, .int x1), (2, .int x2), (3, .int x3)] [] w := by
  unfold f_X5_odds_b0 at hM
  refine x_iload_n C dX5_odds_0 1 rfl rfl ?_
  refine x_if_lt (tgt := 29) C dX5_odds_1 (by decide) (fun c_1 => ?_) (fun c_1 => ?_)
  · have hM := ip c_1 hM
    refine x_iconst (v := -1) C dX5_odds_29 (by decide) ?_
    obtain ⟨rfl, rfl⟩ := rt hM
    exact x_iret C hR rfl dX5_odds_30
  · have hM := iq c_1 hM
    refine x_iload_n C dX5_odds_4 1 rfl rfl ?_
    refine x_bipush (v := 10) C dX5_odds_5 (by decide) ?_
    refine x_icmp_gt (tgt := 29) C dX5_odds_7 (by decide) (fun c_2 => ?_) (fun c_2 => ?_)
    · have hM := ip c_2 hM
      refine x_iconst (v := -1) C dX5_odds_29 (by decide) ?_
      obtain ⟨rfl, rfl⟩ := rt hM
      exact x_iret C hR rfl dX5_odds_30
    · have hM := iq c_2 hM
      refine x_iload_n C dX5_odds_10 2 rfl rfl ?_
      refine x_if_lt (tgt := 29) C dX5_odds_11 (by decide) (fun c_3 => ?_) (fun c_3 => ?_)
      · have hM := ip c_3 hM
        refine x_iconst (v := -1) C dX5_odds_29 (by decide) ?_
        obtain ⟨rfl, rfl⟩ := rt hM
        exact x_iret C hR rfl dX5_odds_30
      · have hM := iq c_3 hM
        refine x_iload_n C dX5_odds_14 2 rfl rfl ?_
        refine x_bipush (v := 6) C dX5_odds_15 (by decide) ?_
        refine x_icmp_gt (tgt := 29) C dX5_odds_17 (by decide) (fun c_4 => ?_) (fun c_4 => ?_)
        · have hM := ip c_4 hM
          refine x_iconst (v := -1) C dX5_odds_29 (by decide) ?_
          obtain ⟨rfl, rfl⟩ := rt hM
          exact x_iret C hR rfl dX5_odds_30
        · have hM := iq c_4 hM
          refine x_iload_n C dX5_odds_20 3 rfl rfl ?_
          refine x_if_lt (tgt := 29) C dX5_odds_21 (by decide) (fun c_5 => ?_) (fun c_5 => ?_)
          · have hM := ip c_5 hM
            refine x_iconst (v := -1) C dX5_odds_29 (by decide) ?_
            obtain ⟨rfl, rfl⟩ := rt hM
            exact x_iret C hR rfl dX5_odds_30
          · have hM := iq c_5 hM
            refine x_iload_n C dX5_odds_24 3 rfl rfl ?_
            refine x_iconst (v := 1) C dX5_odds_25 (by decide) ?_
            refine x_icmp_le (tgt := 31) C dX5_odds_26 (by decide) (fun c_6 => ?_) (fun c_6 => ?_)
            · have hM := ip c_6 hM
              refine x_aload_n C dX5_odds_31 0 rfl rfl ?_
              refine xg_5_3 C kd_0 gw_273 dX5_odds_32 ?_
              obtain ⟨r_8, w_7, h_9, hM⟩ := cl hM
              refine x_callVN (As := []) C (c_X4_wetOnes E.l g 14 kd_14 w h_9) k_X4_wetOnes kd_14 (by decide) rfl rfl nw_401 rfl rfl ⟨Nat.le_of_ble_eq_true rfl, Nat.le_of_ble_eq_true rfl⟩ rfl rfl (Nat.le_of_ble_eq_true rfl) dX5_odds_35 ?_
              obtain ⟨r_11, w_10, h_12, hM⟩ := cl hM
              refine x_callS (As := [.int r_8]) C (c_J6_bitCount_0f7a4 E.l g r_8 w_7 h_12) k_J6_bitCount_0f7a4 gw_421 rfl rfl ⟨Nat.le_of_ble_eq_true rfl, Nat.le_of_ble_eq_true rfl⟩ rfl rfl (Nat.le_of_ble_eq_true rfl) dX5_odds_38 ?_
              obtain ⟨x4_13, e_14, hM⟩ := bd hM
              refine x_top e_14 ?_
              refine x_istore (L' := [(4, .int x4_13), (0, .ref (ad g 0)), (1, .int x1), (2, .int x2), (3, .int x3)]) C dX5_odds_41 (by decide) rfl ?_
              refine x_iconst (v := 0) C dX5_odds_43 (by decide) ?_
              obtain ⟨x5_15, e_16, hM⟩ := bd hM
              refine x_top e_16 ?_
              refine x_istore (L' := [(5, .int x5_15), (4, .int x4_13), (0, .ref (ad g 0)), (1, .int x1), (2, .int x2), (3, .int x3)]) C dX5_odds_44 (by decide) rfl ?_
              refine x_iconst (v := 0) C dX5_odds_46 (by decide) ?_
              obtain ⟨x6_17, e_18, hM⟩ := bd hM
              refine x_top e_18 ?_
              refine x_istore (L' := [(6, .int x6_17), (5, .int x5_15), (4, .int x4_13), (0, .ref (ad g 0)), (1, .int x1), (2, .int x2), (3, .int x3)]) C dX5_odds_47 (by decide) rfl ?_
              refine x_sub (L' := [(1, .int x1), (2, .int x2), (3, .int x3), (4, .int x4_13), (5, .int x5_15), (6, .int x6_17)]) [4, 5, 6, 2, 1, 0] rfl ?_
              exact o_X5_odds_l49 C hR 300 x1 x2 x3 x4_13 x5_15 x6_17 w_10 hM
            · have hM := iq c_6 hM
              refine x_iconst (v := -1) C dX5_odds_29 (by decide) ?_
              obtain ⟨rfl, rfl⟩ := rt hM
              exact x_iret C hR rfl dX5_odds_30
theorem c_X5_odds (l : Launch) (g : Gx) (x1 : Int32) (x2 : Int32) (x3 : Int32) (w : Wd) {rr : Int32} {wr : Wd} (hM : f_X5_odds x1 x2 x3 w = some (rr, wr)) : MetM l yX5_odds cX5_odds 9 (some .int) rm_X5_odds g [.ref (ad g 0), .int x1, .int x2, .int x3] w (some (.int rr)) wr := by
  refine met_of (by decide) (Nat.le_of_ble_eq_true rfl) (fun E hl C hR => ?_)
  refine x_sub (L' := [(0, .ref (ad g 0)), (1, .int x1), (2, .int x2), (3, .int x3)]) [0, 1, 2, 3] rfl ?_
  exact o_X5_odds_b0 C hR x1 x2 x3 w hM
