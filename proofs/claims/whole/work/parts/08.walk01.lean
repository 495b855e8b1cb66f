abbrev rm_J6_bitCount_0f7a4 : Room := { frames := 0, cells := 0, slots := 0, locals := 0 }
set_option maxHeartbeats 1000000 in
set_option maxRecDepth 20000 in
theorem o_J6_bitCount_0f7a4_b0 {E : Ex} {g : Gx} (C : Ctx E RJ6 cJ6_bitCount_0f7a4 rm_J6_bitCount_0f7a4 1 g) {rr : Int32} {wr : Wd} (hR : Rets E g (some .int) (some (.int rr)) wr) (x0 : Int32) (w : Wd) (hM : f_J6_bitCount_0f7a4_b0 x0 w = some (rr, wr)) : Xx E 1 g 0 [(0, .int x0)] [] w := by
  unfold f_J6_bitCount_0f7a4_b0 at hM
  refine x_iload_n C dJ6_bitCount_0f7a4_0 0 rfl rfl ?_
  refine x_iload_n C dJ6_bitCount_0f7a4_1 0 rfl rfl ?_
  refine x_iconst (v := 1) C dJ6_bitCount_0f7a4_2 (by decide) ?_
  refine x_iushr C dJ6_bitCount_0f7a4_3 ?_
  refine x_ldcw (v := 1431655765) C gw_424 dJ6_bitCount_0f7a4_4 ?_
  refine x_iand C dJ6_bitCount_0f7a4_7 ?_
  refine x_isub C dJ6_bitCount_0f7a4_8 ?_
  obtain ⟨x0_1, e_2, hM⟩ := bd hM
  refine x_top e_2 ?_
  refine x_istore_n (L' := [(0, .int x0_1)]) C dJ6_bitCount_0f7a4_9 rfl (by decide) rfl ?_
  refine x_iload_n C dJ6_bitCount_0f7a4_10 0 rfl rfl ?_
  refine x_ldcw (v := 858993459) C gw_425 dJ6_bitCount_0f7a4_11 ?_
  refine x_iand C dJ6_bitCount_0f7a4_14 ?_
  refine x_iload_n C dJ6_bitCount_0f7a4_15 0 rfl rfl ?_
  refine x_iconst (v := 2) C dJ6_bitCount_0f7a4_16 (by decide) ?_
  refine x_iushr C dJ6_bitCount_0f7a4_17 ?_
  refine x_ldcw (v := 858993459) C gw_425 dJ6_bitCount_0f7a4_18 ?_
  refine x_iand C dJ6_bitCount_0f7a4_21 ?_
  refine x_iadd C dJ6_bitCount_0f7a4_22 ?_
  obtain ⟨x0_3, e_4, hM⟩ := bd hM
  refine x_top e_4 ?_
  refine x_istore_n (L' := [(0, .int x0_3)]) C dJ6_bitCount_0f7a4_23 rfl (by decide) rfl ?_
  refine x_iload_n C dJ6_bitCount_0f7a4_24 0 rfl rfl ?_
  refine x_iload_n C dJ6_bitCount_0f7a4_25 0 rfl rfl ?_
  refine x_iconst (v := 4) C dJ6_bitCount_0f7a4_26 (by decide) ?_
  refine x_iushr C dJ6_bitCount_0f7a4_27 ?_
  refine x_iadd C dJ6_bitCount_0f7a4_28 ?_
  refine x_ldcw (v := 252645135) C gw_426 dJ6_bitCount_0f7a4_29 ?_
  refine x_iand C dJ6_bitCount_0f7a4_32 ?_
  obtain ⟨x0_5, e_6, hM⟩ := bd hM
  refine x_top e_6 ?_
  refine x_istore_n (L' := [(0, .int x0_5)]) C dJ6_bitCount_0f7a4_33 rfl (by decide) rfl ?_
  refine x_iload_n C dJ6_bitCount_0f7a4_34 0 rfl rfl ?_
  refine x_iload_n C dJ6_bitCount_0f7a4_35 0 rfl rfl ?_
  refine x_bipush (v := 8) C dJ6_bitCount_0f7a4_36 (by decide) ?_
  refine x_iushr C dJ6_bitCount_0f7a4_38 ?_
  refine x_iadd C dJ6_bitCount_0f7a4_39 ?_
  obtain ⟨x0_7, e_8, hM⟩ := bd hM
  refine x_top e_8 ?_
  refine x_istore_n (L' := [(0, .int x0_7)]) C dJ6_bitCount_0f7a4_40 rfl (by decide) rfl ?_
  refine x_iload_n C dJ6_bitCount_0f7a4_41 0 rfl rfl ?_
  refine x_iload_n C dJ6_bitCount_0f7a4_42 0 rfl rfl ?_
  refine x_bipush (v := 16) C dJ6_bitCount_0f7a4_43 (by decide) ?_
  refine x_iushr C dJ6_bitCount_0f7a4_45 ?_
  refine x_iadd C dJ6_bitCount_0f7a4_46 ?_
  obtain ⟨x0_9, e_10, hM⟩ := bd hM
  refine x_top e_10 ?_
  refine x_istore_n (L' := [(0, .int x0_9)]) C dJ6_bitCount_0f7a4_47 rfl (by decide) rfl ?_
  refine x_iload_n C dJ6_bitCount_0f7a4_48 0 rfl rfl ?_
  refine x_bipush (v := 63) C dJ6_bitCount_0f7a4_49 (by decide) ?_
  refine x_iand C dJ6_bitCount_0f7a4_51 ?_
  obtain ⟨rfl, rfl⟩ := rt hM
  exact x_iret C hR rfl dJ6_bitCount_0f7a4_52
theorem c_J6_bitCount_0f7a4 (l : Launch) (g : Gx) (x0 : Int32) (w : Wd) {rr : Int32} {wr : Wd} (hM : f_J6_bitCount_0f7a4 x0 w = some (rr, wr)) : MetM l yJ6_bitCount_0f7a4 cJ6_bitCount_0f7a4 1 (some .int) rm_J6_bitCount_0f7a4 g [.int x0] w (some (.int rr)) wr := by
  refine met_of (by decide) (Nat.le_of_ble_eq_true rfl) (fun E hl C hR => ?_)
  refine x_sub (L' := [(0, .int x0)]) [0] rfl ?_
  exact o_J6_bitCount_0f7a4_b0 C hR x0 w hM
abbrev rm_X4_sizeOf : Room := { frames := 0, cells := 0, slots := 0, locals := 0 }
set_option maxHeartbeats 1000000 in
set_option maxRecDepth 20000 in
theorem o_X4_sizeOf_b27 {E : Ex} {g : Gx} (C : Ctx E RX4 cX4_sizeOf rm_X4_sizeOf 4 g) {rr : Int32} {wr : Wd} (hR : Rets E g (some .int) (some (.int rr)) wr) {k0 : Nat} (hk0 : kindOf k0 = 4) {kh4 : (Int32 → Int32 → Int32 → Wd → Option (Int32 × Wd))} (Hh4 : ∀ (x1 : Int32) (x2 : Int32) (x3 : Int32) (w : Wd), kh4 x1 x2 x3 w = some (rr, wr) → Xx E 4 g 4 [(0, .ref (ad g k0)), (1, .int x1), (2, .int x2), (3, .int x3)] [] w) (x1 : Int32) (x2 : Int32) (x3 : Int32) (w : Wd) (hM : f_X4_sizeOf_b27 k0 kh4 x1 x2 x3 w = some (rr, wr)) : Xx E 4 g 27 [(0, .ref (ad g k0)), (1, .int x1), (2, .int x2), (3, .int x3)] [] w := by
  unfold f_X4_sizeOf_b27 at hM
  obtain ⟨x3_1, e_2, hM⟩ := bd hM
  refine x_iinc (L' := [(3, .int x3_1), (0, .ref (ad g k0)), (1, .int x1), (2, .int x2)]) C dX4_sizeOf_27 3 rfl (v := x3_1) (by rw [e_2]; first | rfl | decide) (by decide) rfl ?_
  refine x_goto (tgt := 4) C dX4_sizeOf_30 (by decide) ?_
  refine x_sub (L' := [(0, .ref (ad g k0)), (1, .int x1), (2, .int x2), (3, .int x3_1)]) [1, 2, 3, 0] rfl ?_
  exact Hh4 x1 x2 x3_1 w hM
set_option maxHeartbeats 1000000 in
set_option maxRecDepth 20000 in
theorem o_X4_sizeOf_h4 {E : Ex} {g : Gx} (C : Ctx E RX4 cX4_sizeOf rm_X4_sizeOf 4 g) {rr : Int32} {wr : Wd} (hR : Rets E g (some .int) (some (.int rr)) wr) {k0 : Nat} (hk0 : kindOf k0 = 4) {kh4 : (Int32 → Int32 → Int32 → Wd → Option (Int32 × Wd))} (Hh4 : ∀ (x1 : Int32) (x2 : Int32) (x3 : Int32) (w : Wd), kh4 x1 x2 x3 w = some (rr, wr) → Xx E 4 g 4 [(0, .ref (ad g k0)), (1, .int x1), (2, .int x2), (3, .int x3)] [] w) (x1 : Int32) (x2 : Int32) (x3 : Int32) (w : Wd) (hM : f_X4_sizeOf_h4 k0 kh4 x1 x2 x3 w = some (rr, wr)) : Xx E 4 g 4 [(0, .ref (ad g k0)), (1, .int x1), (2, .int x2), (3, .int x3)] [] w := by
  unfold f_X4_sizeOf_h4 at hM
  refine x_iload_n C dX4_sizeOf_4 3 rfl rfl ?_
  refine x_bipush (v := 6) C dX4_sizeOf_5 (by decide) ?_
  refine x_icmp_ge (tgt := 33) C dX4_sizeOf_7 (by decide) (fun c_1 => ?_) (fun c_1 => ?_)
  · have hM := ip c_1 hM
    refine x_iload_n C dX4_sizeOf_33 2 rfl rfl ?_
    obtain ⟨rfl, rfl⟩ := rt hM
    exact x_iret C hR rfl dX4_sizeOf_34
  · have hM := iq c_1 hM
    refine x_iload_n C dX4_sizeOf_10 1 rfl rfl ?_
    refine x_iload_n C dX4_sizeOf_11 3 rfl rfl ?_
    refine x_ishr C dX4_sizeOf_12 ?_
    refine x_iconst (v := 1) C dX4_sizeOf_13 (by decide) ?_
    refine x_iand C dX4_sizeOf_14 ?_
    refine x_if_eq (tgt := 27) C dX4_sizeOf_15 (by decide) (fun c_2 => ?_) (fun c_2 => ?_)
    · have hM := ip c_2 hM
      refine x_sub (L' := [(0, .ref (ad g k0)), (1, .int x1), (2, .int x2), (3, .int x3)]) [0, 1, 2, 3] rfl ?_
      exact o_X4_sizeOf_b27 C hR hk0 Hh4 x1 x2 x3 w hM
    · have hM := iq c_2 hM
      refine x_iload_n C dX4_sizeOf_18 2 rfl rfl ?_
      refine x_aload_n C dX4_sizeOf_19 0 rfl rfl ?_
      refine xg_4_3 C hk0 gw_200 dX4_sizeOf_20 ?_
      refine x_iload_n C dX4_sizeOf_23 3 rfl rfl ?_
      obtain ⟨q_3, hM⟩ := gd hM
      refine x_iald C (kA4_2 hk0) (lA4_2 hk0) q_3 rfl dX4_sizeOf_24 ?_
      refine x_iadd C dX4_sizeOf_25 ?_
      obtain ⟨x2_4, e_5, hM⟩ := bd hM
      refine x_top e_5 ?_
      refine x_istore_n (L' := [(2, .int x2_4), (0, .ref (ad g k0)), (1, .int x1), (3, .int x3)]) C dX4_sizeOf_26 rfl (by decide) rfl ?_
      refine x_sub (L' := [(0, .ref (ad g k0)), (1, .int x1), (2, .int x2_4), (3, .int x3)]) [1, 2, 0, 3] rfl ?_
      exact o_X4_sizeOf_b27 C hR hk0 Hh4 x1 x2_4 x3 w hM
theorem o_X4_sizeOf_l4 {E : Ex} {g : Gx} (C : Ctx E RX4 cX4_sizeOf rm_X4_sizeOf 4 g) {rr : Int32} {wr : Wd} (hR : Rets E g (some .int) (some (.int rr)) wr) {k0 : Nat} (hk0 : kindOf k0 = 4) : ∀ (n : Nat) (x1 : Int32) (x2 : Int32) (x3 : Int32) (w : Wd), f_X4_sizeOf_l4 k0 n x1 x2 x3 w = some (rr, wr) → Xx E 4 g 4 [(0, .ref (ad g k0)), (1, .int x1), (2, .int x2), (3, .int x3)] [] w := by
  intro n
  induction n with
  | zero =>
    intro x1 x2 x3 w hM
    rw [f_X4_sizeOf_l4] at hM
    cases hM
  | succ n ih =>
    intro x1 x2 x3 w hM
    rw [f_X4_sizeOf_l4] at hM
    exact o_X4_sizeOf_h4 C hR hk0 ih x1 x2 x3 w hM
set_option maxHeartbeats 1000000 in
set_option maxRecDepth 20000 in
theorem o_X4_sizeOf_b0 {E : Ex} {g : Gx} (C : Ctx E RX4 cX4_sizeOf rm_X4_sizeOf 4 g) {rr : Int32} {wr : Wd} (hR : Rets E g (some .int) (some (.int rr)) wr) {k0 : Nat} (hk0 : kindOf k0 = 4) (x1 : Int32) (w : Wd) (hM : f_X4_sizeOf_b0 k0 x1 w = some (rr, wr)) : Xx E 4 g 0 [(0, .ref (ad g k0)), (1, .int x1)] [] w := by
  unfold f_X4_sizeOf_b0 at hM
  refine x_iconst (v := 0) C dX4_sizeOf_0 (by decide) ?_
  obtain ⟨x2_1, e_2, hM⟩ := bd hM
  refine x_top e_2 ?_
  refine x_istore_n (L' := [(2, .int x2_1), (0, .ref (ad g k0)), (1, .int x1)]) C dX4_sizeOf_1 rfl (by decide) rfl ?_
  refine x_iconst (v := 0) C dX4_sizeOf_2 (by decide) ?_
  obtain ⟨x3_3, e_4, hM⟩ := bd hM
  refine x_top e_4 ?_
  refine x_istore_n (L' := [(3, .int x3_3), (2, .int x2_1), (0, .ref (ad g k0)), (1, .int x1)]) C dX4_sizeOf_3 rfl (by decide) rfl ?_
  refine x_sub (L' := [(0, .ref (ad g k0)), (1, .int x1), (2, .int x2_1), (3, .int x3_3)]) [2, 3, 1, 0] rfl ?_
  exact o_X4_sizeOf_l4 C hR hk0 300 x1 x2_1 x3_3 w hM
theorem c_X4_sizeOf (l : Launch) (g : Gx) (k0 : Nat) (x1 : Int32) (hk0 : kindOf k0 = 4) (w : Wd) {rr : Int32} {wr : Wd} (hM : f_X4_sizeOf k0 x1 w = some (rr, wr)) : MetM l yX4_sizeOf cX4_sizeOf 4 (some .int) rm_X4_sizeOf g [.ref (ad g k0), .int x1] w (some (.int rr)) wr := by
  refine met_of (by decide) (Nat.le_of_ble_eq_true rfl) (fun E hl C hR => ?_)
  refine x_sub (L' := [(0, .ref (ad g k0)), (1, .int x1)]) [0, 1] rfl ?_
  exact o_X4_sizeOf_b0 C hR hk0 x1 w hM
abbrev rm_X5_fewestPotsOf : Room := { frames := 1, cells := 0, slots := 0, locals := 23 }
set_option maxHeartbeats 1000000 in
set_option maxRecDepth 20000 in
theorem o_X5_fewestPotsOf_b53 {E : Ex} {g : Gx} (C : Ctx E RX5 cX5_fewestPotsOf rm_X5_fewestPotsOf 4 g) {rr : Int32} {wr : Wd} (hR : Rets E g (some .int) (some (.int rr)) wr) {kh5 : (Int32 → Int32 → Int32 → Wd → Option (Int32 × Wd))} (Hh5 : ∀ (x1 : Int32) (x2 : Int32) (x3 : Int32) (w : Wd), kh5 x1 x2 x3 w = some (rr, wr) → Xx E 4 g 5 [(0, .ref (ad g 0)), (1, .int x1), (2, .int x2), (3, .int x3)] [] w) (x1 : Int32) (x2 : Int32) (x3 : Int32) (w : Wd) (hM : f_X5_fewestPotsOf_b53 kh5 x1 x2 x3 w = some (rr, wr)) : Xx E 4 g 53 [(0, .ref (ad g 0)), (1, .int x1), (2, .int x2), (3, .int x3)] [] w := by
  unfold f_X5_fewestPotsOf_b53 at hM
  obtain ⟨x3_1, e_2, hM⟩ := bd hM
  refine x_iinc (L' := [(3, .int x3_1), (0, .ref (ad g 0)), (1, .int x1), (2, .int x2)]) C dX5_fewestPotsOf_53 3 rfl (v := x3_1) (by rw [e_2]; first | rfl | decide) (by decide) rfl ?_
  refine x_goto (tgt := 5) C dX5_fewestPotsOf_56 (by decide) ?_
  refine x_sub (L' := [(0, .ref (ad g 0)), (1, .int x1), (2, .int x2), (3, .int x3_1)]) [1, 2, 3, 0] rfl ?_
  exact Hh5 x1 x2 x3_1 w hM
set_option maxHeartbeats 1000000 in
set_option maxRecDepth 20000 in
theorem o_X5_fewestPotsOf_h5 {E : Ex} {g : Gx} (C : Ctx E RX5 cX5_fewestPotsOf rm_X5_fewestPotsOf 4 g) {rr : Int32} {wr : Wd} (hR : Rets E g (some .int) (some (.int rr)) wr) {kh5 : (Int32 → Int32 → Int32 → Wd → Option (Int32 × Wd))} (Hh5 : ∀ (x1 : Int32) (x2 : Int32) (x3 : Int32) (w : Wd), kh5 x1 x2 x3 w = some (rr, wr) → Xx E 4 g 5 [(0, .ref (ad g 0)), (1, .int x1), (2, .int x2), (3, .int x3)] [] w) (x1 : Int32) (x2 : Int32) (x3 : Int32) (w : Wd) (hM : f_X5_fewestPotsOf_h5 kh5 x1 x2 x3 w = some (rr, wr)) : Xx E 4 g 5 [(0, .ref (ad g 0)), (1, .int x1), (2, .int x2), (3, .int x3)] [] w := by
  unfold f_X5_fewestPotsOf_h5 at hM
  refine x_iload_n C dX5_fewestPotsOf_5 3 rfl rfl ?_
  refine x_iload_n C dX5_fewestPotsOf_6 1 rfl rfl ?_
  refine x_icmp_gt (tgt := 59) C dX5_fewestPotsOf_7 (by decide) (fun c_1 => ?_) (fun c_1 => ?_)
  · have hM := ip c_1 hM
    refine x_iload_n C dX5_fewestPotsOf_59 2 rfl rfl ?_
    obtain ⟨rfl, rfl⟩ := rt hM
    exact x_iret C hR rfl dX5_fewestPotsOf_60
  · have hM := iq c_1 hM
    refine x_iload_n C dX5_fewestPotsOf_10 3 rfl rfl ?_
    refine x_iload_n C dX5_fewestPotsOf_11 1 rfl rfl ?_
    refine x_iconst (v := -1) C dX5_fewestPotsOf_12 (by decide) ?_
    refine x_ixor C dX5_fewestPotsOf_13 ?_
    refine x_iand C dX5_fewestPotsOf_14 ?_
    refine x_if_ne (tgt := 53) C dX5_fewestPotsOf_15 (by decide) (fun c_2 => ?_) (fun c_2 => ?_)
    · have hM := iq c_2 hM
      refine x_sub (L' := [(0, .ref (ad g 0)), (1, .int x1), (2, .int x2), (3, .int x3)]) [0, 1, 2, 3] rfl ?_
      exact o_X5_fewestPotsOf_b53 C hR Hh5 x1 x2 x3 w hM
    · have hM := ip c_2 hM
      refine x_aload_n C dX5_fewestPotsOf_18 0 rfl rfl ?_
      refine xg_5_3 C kd_0 gw_273 dX5_fewestPotsOf_19 ?_
      refine x_iload_n C dX5_fewestPotsOf_22 3 rfl rfl ?_
      obtain ⟨r_4, w_3, h_5, hM⟩ := cl hM
      refine x_callVN (As := [.int x3]) C (c_X4_sizeOf E.l g 14 x3 kd_14 w h_5) k_X4_sizeOf kd_14 (by decide) rfl rfl nw_435 rfl rfl ⟨Nat.le_of_ble_eq_true rfl, Nat.le_of_ble_eq_true rfl⟩ rfl rfl (Nat.le_of_ble_eq_true rfl) dX5_fewestPotsOf_23 ?_
      refine x_aload_n C dX5_fewestPotsOf_26 0 rfl rfl ?_
      refine xg_5_1 C kd_0 gw_271 dX5_fewestPotsOf_27 ?_
      refine xgN_2_3 C kd_4 nw_160 dX5_fewestPotsOf_30 ?_
      refine x_icmp_gt (tgt := 53) C dX5_fewestPotsOf_33 (by decide) (fun c_6 => ?_) (fun c_6 => ?_)
      · have hM := ip c_6 hM
        refine x_sub (L' := [(0, .ref (ad g 0)), (1, .int x1), (2, .int x2), (3, .int x3)]) [0, 1, 2, 3] rfl ?_
        exact o_X5_fewestPotsOf_b53 C hR Hh5 x1 x2 x3 w_3 hM
      · have hM := iq c_6 hM
        refine x_iload_n C dX5_fewestPotsOf_36 2 rfl rfl ?_
        refine x_iconst (v := 1) C dX5_fewestPotsOf_37 (by decide) ?_
        refine x_aload_n C dX5_fewestPotsOf_38 0 rfl rfl ?_
        refine xg_5_10 C kd_0 gw_280 dX5_fewestPotsOf_39 ?_
        refine x_iload_n C dX5_fewestPotsOf_42 1 rfl rfl ?_
        refine x_iload_n C dX5_fewestPotsOf_43 3 rfl rfl ?_
        refine x_iconst (v := -1) C dX5_fewestPotsOf_44 (by decide) ?_
        refine x_ixor C dX5_fewestPotsOf_45 ?_
        refine x_iand C dX5_fewestPotsOf_46 ?_
        obtain ⟨q_7, hM⟩ := gd hM
        refine x_iald C kd_90 ln_90 q_7 rfl dX5_fewestPotsOf_47 ?_
        refine x_iadd C dX5_fewestPotsOf_48 ?_
        refine x_mmin C gw_439 gw_347 gw_90 mc_min (Nat.le_of_ble_eq_true rfl) (Nat.le_of_ble_eq_true rfl) dX5_fewestPotsOf_49 ?_
        obtain ⟨x2_8, e_9, hM⟩ := bd hM
        refine x_top e_9 ?_
        refine x_istore_n (L' := [(2, .int x2_8), (0, .ref (ad g 0)), (1, .int x1), (3, .int x3)]) C dX5_fewestPotsOf_52 rfl (by decide) rfl ?_
        refine x_sub (L' := [(0, .ref (ad g 0)), (1, .int x1), (2, .int x2_8), (3, .int x3)]) [1, 2, 0, 3] rfl ?_
        exact o_X5_fewestPotsOf_b53 C hR Hh5 x1 x2_8 x3 w_3 hM
theorem o_X5_fewestPotsOf_l5 {E : Ex} {g : Gx} (C : Ctx E RX5 cX5_fewestPotsOf rm_X5_fewestPotsOf 4 g) {rr : Int32} {wr : Wd} (hR : Rets E g (some .int) (some (.int rr)) wr) : ∀ (n : Nat) (x1 : Int32) (x2 : Int32) (x3 : Int32) (w : Wd), f_X5_fewestPotsOf_l5 n x1 x2 x3 w = some (rr, wr) → Xx E 4 g 5 [(0, .ref (ad g 0)), (1, .int x1), (2, .int x2), (3, .int x3)] [] w := by
  intro n
  induction n with
  | zero =>
    intro x1 x2 x3 w hM
    rw [f_X5_fewestPotsOf_l5] at hM
    cases hM
  | succ n ih =>
    intro x1 x2 x3 w hM
    rw [f_X5_fewestPotsOf_l5] at hM
    exact o_X5_fewestPotsOf_h5 C hR ih x1 x2 x3 w hM
set_option maxHeartbeats 1000000 in
set_option maxRecDepth 20000 in
theorem o_X5_fewestPotsOf_b0 {E : Ex} {g : Gx} (C : Ctx E RX5 cX5_fewestPotsOf rm_X5_fewestPotsOf 4 g) {rr : Int32} {wr : Wd} (hR : Rets E g (some .int) (some (.int rr)) wr) (x1 : Int32) (w : Wd) (hM : f_X5_fewestPotsOf_b0 x1 w = some (rr, wr)) : Xx E 4 g 0 [(0, .ref (ad g 0)), (1, .int x1)] [] w := by
  unfold f_X5_fewestPotsOf_b0 at hM
  refine x_bipush (v := 6) C dX5_fewestPotsOf_0 (by decide) ?_
  obtain ⟨x2_1, e_2, hM⟩ := bd hM
  refine x_top e_2 ?_
  refine x_istore_n (L' := [(2, .int x2_1), (0, .ref (ad g 0)), (1, .int x1)]) C dX5_fewestPotsOf_2 rfl (by decide) rfl ?_
  refine x_iconst (v := 1) C dX5_fewestPotsOf_3 (by decide) ?_
  obtain ⟨x3_3, e_4, hM⟩ := bd hM
  refine x_top e_4 ?_
  refine x_istore_n (L' := [(3, .int x3_3), (2, .int x2_1), (0, .ref (ad g 0)), (1, .int x1)]) C dX5_fewestPotsOf_4 rfl (by decide) rfl ?_
  refine x_sub (L' := [(0, .ref (ad g 0)), (1, .int x1), (2, .int x2_1), (3, .int x3_3)]) [2, 3, 1, 0] rfl ?_
  exact o_X5_fewestPotsOf_l5 C hR 300 x1 x2_1 x3_3 w hM
theorem c_X5_fewestPotsOf (l : Launch) (g : Gx) (x1 : Int32) (w : Wd) {rr : Int32} {wr : Wd} (hM : f_X5_fewestPotsOf x1 w = some (rr, wr)) : MetM l yX5_fewestPotsOf cX5_fewestPotsOf 4 (some .int) rm_X5_fewestPotsOf g [.ref (ad g 0), .int x1] w (some (.int rr)) wr := by
  refine met_of (by decide) (Nat.le_of_ble_eq_true rfl) (fun E hl C hR => ?_)
  refine x_sub (L' := [(0, .ref (ad g 0)), (1, .int x1)]) [0, 1] rfl ?_
  exact o_X5_fewestPotsOf_b0 C hR x1 w hM
abbrev rm_X5_fewestPots : Room := { frames := 2, cells := 0, slots := 0, locals := 46 }
set_option maxHeartbeats 1000000 in
set_option maxRecDepth 20000 in
theorem o_X5_fewestPots_b46 {E : Ex} {g : Gx} (C : Ctx E RX5 cX5_fewestPots rm_X5_fewestPots 4 g) {rr : Int32} {wr : Wd} (hR : Rets E g (some .int) (some (.int rr)) wr) {kh10 : (Int32 → Int32 → Wd → Option (Int32 × Wd))} (Hh10 : ∀ (x1 : Int32) (x2 : Int32) (w : Wd), kh10 x1 x2 w = some (rr, wr) → Xx E 4 g 10 [(0, .ref (ad g 0)), (1, .int x1), (2, .int x2)] [] w) (x1 : Int32) (x2 : Int32) (w : Wd) (hM : f_X5_fewestPots_b46 kh10 x1 x2 w = some (rr, wr)) : Xx E 4 g 46 [(0, .ref (ad g 0)), (1, .int x1), (2, .int x2)] [] w := by
  unfold f_X5_fewestPots_b46 at hM
  obtain ⟨x2_1, e_2, hM⟩ := bd hM
  refine x_iinc (L' := [(2, .int x2_1), (0, .ref (ad g 0)), (1, .int x1)]) C dX5_fewestPots_46 2 rfl (v := x2_1) (by rw [e_2]; first | rfl | decide) (by decide) rfl ?_
  refine x_goto (tgt := 10) C dX5_fewestPots_49 (by decide) ?_
  refine x_sub (L' := [(0, .ref (ad g 0)), (1, .int x1), (2, .int x2_1)]) [1, 2, 0] rfl ?_
  exact Hh10 x1 x2_1 w hM
set_option maxHeartbeats 1000000 in
set_option maxRecDepth 20000 in
theorem o_X5_fewestPots_b86 {E : Ex} {g : Gx} (C : Ctx E RX5 cX5_fewestPots rm_X5_fewestPots 4 g) {rr : Int32} {wr : Wd} (hR : Rets E g (some .int) (some (.int rr)) wr) (x2 : Int32) (w : Wd) (hM : f_X5_fewestPots_b86 x2 w = some (rr, wr)) : Xx E 4 g 86 [(2, .int x2)] [] w := by
  unfold f_X5_fewestPots_b86 at hM
  refine x_iload_n C dX5_fewestPots_86 0 rfl rfl ?_
  obtain ⟨rfl, rfl⟩ := rt hM
  exact x_iret C hR rfl dX5_fewestPots_87
set_option maxHeartbeats 1000000 in
set_option maxRecDepth 20000 in
theorem o_X5_fewestPots_h56 {E : Ex} {g : Gx} (C : Ctx E RX5 cX5_fewestPots rm_X5_fewestPots 4 g) {rr : Int32} {wr : Wd} (hR : Rets E g (some .int) (some (.int rr)) wr) {kh56 : (Int32 → Int32 → Int32 → Wd → Option (Int32 × Wd))} (Hh56 : ∀ (x1 : Int32) (x2 : Int32) (x3 : Int32) (w : Wd), kh56 x1 x2 x3 w = some (rr, wr) → Xx E 4 g 56 [(0, .ref (ad g 0)), (1, .int x1), (2, .int x2), (3, .int x3)] [] w) (x1 : Int32) (x2 : Int32) (x3 : Int32) (w : Wd) (hM : f_X5_fewestPots_h56 kh56 x1 x2 x3 w = some (rr, wr)) : Xx E 4 g 56 [(0, .ref (ad g 0)), (1, .int x1), (2, .int x2), (3, .int x3)] [] w := by
  unfold f_X5_fewestPots_h56 at hM
  refine x_iload_n C dX5_fewestPots_56 3 rfl rfl ?_
  refine x_bipush (v := 64) C dX5_fewestPots_57 (by decide) ?_
  refine x_icmp_ge (tgt := 86) C dX5_fewestPots_59 (by decide) (fun c_1 => ?_) (fun c_1 => ?_)
  · have hM := ip c_1 hM
    refine x_sub (L' := [(2, .int x2)]) [2] rfl ?_
    exact o_X5_fewestPots_b86 C hR x2 w hM
  · have hM := iq c_1 hM
    refine x_iload_n C dX5_fewestPots_62 3 rfl rfl ?_
    refine x_iload_n C dX5_fewestPots_63 1 rfl rfl ?_
    refine x_icmp_gt (tgt := 86) C dX5_fewestPots_64 (by decide) (fun c_2 => ?_) (fun c_2 => ?_)
    · have hM := ip c_2 hM
      refine x_sub (L' := [(2, .int x2)]) [2] rfl ?_
      exact o_X5_fewestPots_b86 C hR x2 w hM
    · have hM := iq c_2 hM
      refine x_aload_n C dX5_fewestPots_67 0 rfl rfl ?_
      refine x_iload_n C dX5_fewestPots_68 3 rfl rfl ?_
      obtain ⟨r_4, w_3, h_5, hM⟩ := cl hM
      refine x_callV (As := [.int x3]) C (c_X5_fewestPotsOf E.l g x3 w h_5) k_X5_fewestPotsOf kd_0 (by decide) rfl rfl gw_431 rfl rfl ⟨Nat.le_of_ble_eq_true rfl, Nat.le_of_ble_eq_true rfl⟩ rfl rfl (Nat.le_of_ble_eq_true rfl) dX5_fewestPots_69 ?_
      obtain ⟨x2_6, e_7, hM⟩ := bd hM
      refine x_top e_7 ?_
      refine x_istore_n (L' := [(2, .int x2_6), (0, .ref (ad g 0)), (1, .int x1), (3, .int x3)]) C dX5_fewestPots_72 rfl (by decide) rfl ?_
      refine x_aload_n C dX5_fewestPots_73 1 rfl rfl ?_
      refine xg_5_10 C kd_0 gw_280 dX5_fewestPots_74 ?_
      refine x_iload_n C dX5_fewestPots_77 3 rfl rfl ?_
      refine x_iload_n C dX5_fewestPots_78 0 rfl rfl ?_
      obtain ⟨q_8, hM⟩ := gd hM
      obtain ⟨w_9, e_10, hM⟩ := bd hM
      refine x_iast C kd_90 ln_90 q_8 rfl dX5_fewestPots_79 ?_
      refine x_w e_10 ?_
      obtain ⟨x3_11, e_12, hM⟩ := bd hM
      refine x_iinc (L' := [(3, .int x3_11), (2, .int x2_6), (0, .ref (ad g 0)), (1, .int x1)]) C dX5_fewestPots_80 3 rfl (v := x3_11) (by rw [e_12]; first | rfl | decide) (by decide) rfl ?_
      refine x_goto (tgt := 56) C dX5_fewestPots_83 (by decide) ?_
      refine x_sub (L' := [(0, .ref (ad g 0)), (1, .int x1), (2, .int x2_6), (3, .int x3_11)]) [2, 3, 1, 0] rfl ?_
      exact Hh56 x1 x2_6 x3_11 w_9 hM
theorem o_X5_fewestPots_l56 {E : Ex} {g : Gx} (C : Ctx E RX5 cX5_fewestPots rm_X5_fewestPots 4 g) {rr : Int32} {wr : Wd} (hR : Rets E g (some .int) (some (.int rr)) wr) : ∀ (n : Nat) (x1 : Int32) (x2 : Int32) (x3 : Int32) (w : Wd), f_X5_fewestPots_l56 n x1 x2 x3 w = some (rr, wr) → Xx E 4 g 56 [(0, .ref (ad g 0)), (1, .int x1), (2, .int x2), (3, .int x3)] [] w := by
  intro n
  induction n with
  | zero =>
    intro x1 x2 x3 w hM
    rw [f_X5_fewestPots_l56] at hM
    cases hM
  | succ n ih =>
    intro x1 x2 x3 w hM
    rw [f_X5_fewestPots_l56] at hM
    exact o_X5_fewestPots_h56 C hR ih x1 x2 x3 w hM
set_option maxHeartbeats 1000000 in
set_option maxRecDepth 20000 in
theorem o_X5_fewestPots_h10 {E : Ex} {g : Gx} (C : Ctx E RX5 cX5_fewestPots rm_X5_fewestPots 4 g) {rr : Int32} {wr : Wd} (hR : Rets E g (some .int) (some (.int rr)) wr) {kh10 : (Int32 → Int32 → Wd → Option (Int32 × Wd))} (Hh10 : ∀ (x1 : Int32) (x2 : Int32) (w : Wd), kh10 x1 x2 w = some (rr, wr) → Xx E 4 g 10 [(0, .ref (ad g 0)), (1, .int x1), (2, .int x2)] [] w) (x1 : Int32) (x2 : Int32) (w : Wd) (hM : f_X5_fewestPots_h10 kh10 x1 x2 w = some (rr, wr)) : Xx E 4 g 10 [(0, .ref (ad g 0)), (1, .int x1), (2, .int x2)] [] w := by
  unfold f_X5_fewestPots_h10 at hM
  refine x_iload_n C dX5_fewestPots_10 2 rfl rfl ?_
  refine x_bipush (v := 6) C dX5_fewestPots_11 (by decide) ?_
  refine x_icmp_ge (tgt := 52) C dX5_fewestPots_13 (by decide) (fun c_1 => ?_) (fun c_1 => ?_)
  · have hM := ip c_1 hM
    refine x_iconst (v := 0) C dX5_fewestPots_52 (by decide) ?_
    obtain ⟨x2_2, e_3, hM⟩ := bd hM
    refine x_top e_3 ?_
    refine x_istore_n (L' := [(2, .int x2_2), (0, .ref (ad g 0)), (1, .int x1)]) C dX5_fewestPots_53 rfl (by decide) rfl ?_
    refine x_iconst (v := 1) C dX5_fewestPots_54 (by decide) ?_
    obtain ⟨x3_4, e_5, hM⟩ := bd hM
    refine x_top e_5 ?_
    refine x_istore_n (L' := [(3, .int x3_4), (2, .int x2_2), (0, .ref (ad g 0)), (1, .int x1)]) C dX5_fewestPots_55 rfl (by decide) rfl ?_
    refine x_sub (L' := [(0, .ref (ad g 0)), (1, .int x1), (2, .int x2_2), (3, .int x3_4)]) [2, 3, 1, 0] rfl ?_
    exact o_X5_fewestPots_l56 C hR 300 x1 x2_2 x3_4 w hM
  · have hM := iq c_1 hM
    refine x_iload_n C dX5_fewestPots_16 1 rfl rfl ?_
    refine x_iload_n C dX5_fewestPots_17 2 rfl rfl ?_
    refine x_ishr C dX5_fewestPots_18 ?_
    refine x_iconst (v := 1) C dX5_fewestPots_19 (by decide) ?_
    refine x_iand C dX5_fewestPots_20 ?_
    refine x_if_eq (tgt := 46) C dX5_fewestPots_21 (by decide) (fun c_6 => ?_) (fun c_6 => ?_)
    · have hM := ip c_6 hM
      refine x_sub (L' := [(0, .ref (ad g 0)), (1, .int x1), (2, .int x2)]) [0, 1, 2] rfl ?_
      exact o_X5_fewestPots_b46 C hR Hh10 x1 x2 w hM
    · have hM := iq c_6 hM
      refine x_aload_n C dX5_fewestPots_24 0 rfl rfl ?_
      refine xg_5_3 C kd_0 gw_273 dX5_fewestPots_25 ?_
      refine xgN_4_3 C kd_14 nw_201 dX5_fewestPots_28 ?_
      refine x_iload_n C dX5_fewestPots_31 2 rfl rfl ?_
      obtain ⟨q_7, hM⟩ := gd hM
      refine x_iald C kd_16 ln_16 q_7 rfl dX5_fewestPots_32 ?_
      refine x_aload_n C dX5_fewestPots_33 0 rfl rfl ?_
      refine xg_5_1 C kd_0 gw_271 dX5_fewestPots_34 ?_
      refine xgN_2_3 C kd_4 nw_160 dX5_fewestPots_37 ?_
      refine x_icmp_le (tgt := 46) C dX5_fewestPots_40 (by decide) (fun c_8 => ?_) (fun c_8 => ?_)
      · have hM := ip c_8 hM
        refine x_sub (L' := [(0, .ref (ad g 0)), (1, .int x1), (2, .int x2)]) [0, 1, 2] rfl ?_
        exact o_X5_fewestPots_b46 C hR Hh10 x1 x2 w hM
      · have hM := iq c_8 hM
        refine x_bipush (v := -9) C dX5_fewestPots_43 (by decide) ?_
        obtain ⟨rfl, rfl⟩ := rt hM
        exact x_iret C hR rfl dX5_fewestPots_45
theorem o_X5_fewestPots_l10 {E : Ex} {g : Gx} (C : Ctx E RX5 cX5_fewestPots rm_X5_fewestPots 4 g) {rr : Int32} {wr : Wd} (hR : Rets E g (some .int) (some (.int rr)) wr) : ∀ (n : Nat) (x1 : Int32) (x2 : Int32) (w : Wd), f_X5_fewestPots_l10 n x1 x2 w = some (rr, wr) → Xx E 4 g 10 [(0, .ref (ad g 0)), (1, .int x1), (2, .int x2)] [] w := by
  intro n
  induction n with
  | zero =>
    intro x1 x2 w hM
    rw [f_X5_fewestPots_l10] at hM
    cases hM
  | succ n ih =>
    intro x1 x2 w hM
    rw [f_X5_fewestPots_l10] at hM
    exact o_X5_fewestPots_h10 C hR ih x1 x2 w hM
set_option maxHeartbeats 1000000 in
set_option maxRecDepth 20000 in
theorem o_X5_fewestPots_b0 {E : Ex} {g : Gx} (C : Ctx E RX5 cX5_fewestPots rm_X5_fewestPots 4 g) {rr : Int32} {wr : Wd} (hR : Rets E g (some .int) (some (.int rr)) wr) (w : Wd) (hM : f_X5_fewestPots_b0 w = some (rr, wr)) : Xx E 4 g 0 [(0, .ref (ad g 0))] [] w := by
  unfold f_X5_fewestPots_b0 at hM
  refine x_aload_n C dX5_fewestPots_0 0 rfl rfl ?_
  refine xg_5_1 C kd_0 gw_271 dX5_fewestPots_1 ?_
  obtain ⟨r_2, w_1, h_3, hM⟩ := cl hM
  refine x_callVN (As := []) C (c_X2_all E.l g 4 kd_4 w h_3) k_X2_all kd_4 (by decide) rfl rfl nw_397 rfl rfl ⟨Nat.le_of_ble_eq_true rfl, Nat.le_of_ble_eq_true rfl⟩ rfl rfl (Nat.le_of_ble_eq_true rfl) dX5_fewestPots_4 ?_
  obtain ⟨x1_4, e_5, hM⟩ := bd hM
  refine x_top e_5 ?_
  refine x_istore_n (L' := [(1, .int x1_4), (0, .ref (ad g 0))]) C dX5_fewestPots_7 rfl (by decide) rfl ?_
  refine x_iconst (v := 0) C dX5_fewestPots_8 (by decide) ?_
  obtain ⟨x2_6, e_7, hM⟩ := bd hM
  refine x_top e_7 ?_
  refine x_istore_n (L' := [(2, .int x2_6), (1, .int x1_4), (0, .ref (ad g 0))]) C dX5_fewestPots_9 rfl (by decide) rfl ?_
  refine x_sub (L' := [(0, .ref (ad g 0)), (1, .int x1_4), (2, .int x2_6)]) [2, 1, 0] rfl ?_
  exact o_X5_fewestPots_l10 C hR 300 x1_4 x2_6 w_1 hM
theorem c_X5_fewestPots (l : Launch) (g : Gx) (w : Wd) {rr : Int32} {wr : Wd} (hM : f_X5_fewestPots w = some (rr, wr)) : MetM l yX5_fewestPots cX5_fewestPots 4 (some .int) rm_X5_fewestPots g [.ref (ad g 0)] w (some (.int rr)) wr := by
  refine met_of (by decide) (Nat.le_of_ble_eq_true rfl) (fun E hl C hR => ?_)
  refine x_sub (L' := [(0, .ref (ad g 0))]) [0] rfl ?_
  exact o_X5_fewestPots_b0 C hR w hM
abbrev rm_X5_now : Room := { frames := 3, cells := 0, slots := 0, locals := 69 }
set_option maxHeartbeats 1000000 in
set_option maxRecDepth 20000 in
theorem o_X5_now_b0 {E : Ex} {g : Gx} (C : Ctx E RX5 cX5_now rm_X5_now 2 g) {rr : Int32} {wr : Wd} (hR : Rets E g (some .int) (some (.int rr)) wr) (x1 : Int32) (w : Wd) (hM : f_X5_now_b0 x1 w = some (rr, wr)) : Xx E 2 g 0 [(0, .ref (ad g 0)), (1, .int x1)] [] w := by
  unfold f_X5_now_b0 at hM
  refine x_iload_n C dX5_now_0 1 rfl rfl ?_
  by_cases c_1 : x1 = 0
  · have hM := ip c_1 hM
    refine x_tableIn (off := 43) (tgt := 44) C dX5_now_1 (by rw [c_1]; decide) (by rw [c_1]; decide) (by rw [c_1]; rfl) (by decide) ?_
    refine x_aload_n C dX5_now_44 0 rfl rfl ?_
    refine xg_5_3 C kd_0 gw_273 dX5_now_45 ?_
    refine xgN_4_0 C kd_14 nw_195 dX5_now_48 ?_
    obtain ⟨rfl, rfl⟩ := rt hM
    exact x_iret C hR rfl dX5_now_51
  have hM := iq c_1 hM
  by_cases c_2 : x1 = 1
  · have hM := ip c_2 hM
    refine x_tableIn (off := 51) (tgt := 52) C dX5_now_1 (by rw [c_2]; decide) (by rw [c_2]; decide) (by rw [c_2]; rfl) (by decide) ?_
    refine x_aload_n C dX5_now_52 0 rfl rfl ?_
    refine xg_5_3 C kd_0 gw_273 dX5_now_53 ?_
    refine xgN_4_1 C kd_14 nw_197 dX5_now_56 ?_
    obtain ⟨rfl, rfl⟩ := rt hM
    exact x_iret C hR rfl dX5_now_59
  have hM := iq c_2 hM
  by_cases c_6 : x1 = 2
  · have hM := ip c_6 hM
    refine x_tableIn (off := 59) (tgt := 60) C dX5_now_1 (by rw [c_6]; decide) (by rw [c_6]; decide) (by rw [c_6]; rfl) (by decide) ?_
    refine x_aload_n C dX5_now_60 0 rfl rfl ?_
    obtain ⟨r_4, w_3, h_5, hM⟩ := cl hM
    refine x_callV (As := []) C (c_X5_dryOnes E.l g  w h_5) k_X5_dryOnes kd_0 (by decide) rfl rfl gw_393 rfl rfl ⟨Nat.le_of_ble_eq_true rfl, Nat.le_of_ble_eq_true rfl⟩ rfl rfl (Nat.le_of_ble_eq_true rfl) dX5_now_61 ?_
    obtain ⟨rfl, rfl⟩ := rt hM
    exact x_iret C hR rfl dX5_now_64
  have hM := iq c_6 hM
  by_cases c_10 : x1 = 3
  · have hM := ip c_10 hM
    refine x_tableIn (off := 64) (tgt := 65) C dX5_now_1 (by rw [c_10]; decide) (by rw [c_10]; decide) (by rw [c_10]; rfl) (by decide) ?_
    refine x_aload_n C dX5_now_65 0 rfl rfl ?_
    refine xg_5_3 C kd_0 gw_273 dX5_now_66 ?_
    obtain ⟨r_8, w_7, h_9, hM⟩ := cl hM
    refine x_callVN (As := []) C (c_X4_upOnes E.l g 14 kd_14 w h_9) k_X4_upOnes kd_14 (by decide) rfl rfl nw_409 rfl rfl ⟨Nat.le_of_ble_eq_true rfl, Nat.le_of_ble_eq_true rfl⟩ rfl rfl (Nat.le_of_ble_eq_true rfl) dX5_now_69 ?_
    obtain ⟨rfl, rfl⟩ := rt hM
    exact x_iret C hR rfl dX5_now_72
  have hM := iq c_10 hM
  by_cases c_17 : x1 = 4
  · have hM := ip c_17 hM
    refine x_tableIn (off := 72) (tgt := 73) C dX5_now_1 (by rw [c_17]; decide) (by rw [c_17]; decide) (by rw [c_17]; rfl) (by decide) ?_
    refine x_aload_n C dX5_now_73 0 rfl rfl ?_
    refine xg_5_3 C kd_0 gw_273 dX5_now_74 ?_
    obtain ⟨r_12, w_11, h_13, hM⟩ := cl hM
    refine x_callVN (As := []) C (c_X4_risenOnes E.l g 14 kd_14 w h_13) k_X4_risenOnes kd_14 (by decide) rfl rfl nw_413 rfl rfl ⟨Nat.le_of_ble_eq_true rfl, Nat.le_of_ble_eq_true rfl⟩ rfl rfl (Nat.le_of_ble_eq_true rfl) dX5_now_77 ?_
    obtain ⟨r_15, w_14, h_16, hM⟩ := cl hM
    refine x_callS (As := [.int r_12]) C (c_J6_bitCount_0f7a4 E.l g r_12 w_11 h_16) k_J6_bitCount_0f7a4 gw_421 rfl rfl ⟨Nat.le_of_ble_eq_true rfl, Nat.le_of_ble_eq_true rfl⟩ rfl rfl (Nat.le_of_ble_eq_true rfl) dX5_now_80 ?_
    obtain ⟨rfl, rfl⟩ := rt hM
    exact x_iret C hR rfl dX5_now_83
  have hM := iq c_17 hM
  by_cases c_21 : x1 = 5
  · have hM := ip c_21 hM
    refine x_tableIn (off := 83) (tgt := 84) C dX5_now_1 (by rw [c_21]; decide) (by rw [c_21]; decide) (by rw [c_21]; rfl) (by decide) ?_
    refine x_aload_n C dX5_now_84 0 rfl rfl ?_
    obtain ⟨r_19, w_18, h_20, hM⟩ := cl hM
    refine x_callV (As := []) C (c_X5_fewestPots E.l g  w h_20) k_X5_fewestPots kd_0 (by decide) rfl rfl gw_427 rfl rfl ⟨Nat.le_of_ble_eq_true rfl, Nat.le_of_ble_eq_true rfl⟩ rfl rfl (Nat.le_of_ble_eq_true rfl) dX5_now_85 ?_
    obtain ⟨rfl, rfl⟩ := rt hM
    exact x_iret C hR rfl dX5_now_88
  have hM := iq c_21 hM
  by_cases c_22 : x1 = 6
  · have hM := ip c_22 hM
    refine x_tableIn (off := 88) (tgt := 89) C dX5_now_1 (by rw [c_22]; decide) (by rw [c_22]; decide) (by rw [c_22]; rfl) (by decide) ?_
    refine x_aload_n C dX5_now_89 0 rfl rfl ?_
    refine xg_5_5 C kd_0 gw_275 dX5_now_90 ?_
    refine xgN_0_2 C kd_24 nw_231 dX5_now_93 ?_
    obtain ⟨rfl, rfl⟩ := rt hM
    exact x_iret C hR rfl dX5_now_96
  have hM := iq c_22 hM
  have tc_1 := lv_neT (a := 0) c_1 (by decide)
  have tc_2 := lv_neT (a := 1) c_2 (by decide)
  have tc_6 := lv_neT (a := 2) c_6 (by decide)
  have tc_10 := lv_neT (a := 3) c_10 (by decide)
  have tc_17 := lv_neT (a := 4) c_17 (by decide)
  have tc_21 := lv_neT (a := 5) c_21 (by decide)
  have tc_22 := lv_neT (a := 6) c_22 (by decide)
  refine x_tableOut (tgt := 97) C dX5_now_1 (by omega) (by decide) ?_
  refine x_iconst (v := -1) C dX5_now_97 (by decide) ?_
  obtain ⟨rfl, rfl⟩ := rt hM
  exact x_iret C hR rfl dX5_now_98
theorem c_X5_now (l : Launch) (g : Gx) (x1 : Int32) (w : Wd) {rr : Int32} {wr : Wd} (hM : f_X5_now x1 w = some (rr, wr)) : MetM l yX5_now cX5_now 2 (some .int) rm_X5_now g [.ref (ad g 0), .int x1] w (some (.int rr)) wr := by
  refine met_of (by decide) (Nat.le_of_ble_eq_true rfl) (fun E hl C hR => ?_)
  refine x_sub (L' := [(0, .ref (ad g 0)), (1, .int x1)]) [0, 1] rfl ?_
  exact o_X5_now_b0 C hR x1 w hM
abbrev rm_X4_risenAheadOf : Room := { frames := 1, cells := 0, slots := 0, locals := 21 }
set_option maxHeartbeats 1000000 in
set_option maxRecDepth 20000 in
theorem o_X4_risenAheadOf_b68 {E : Ex} {g : Gx} (C : Ctx E RX4 cX4_risenAheadOf rm_X4_risenAheadOf 5 g) {rr : Int32} {wr : Wd} (hR : Rets E g (some .int) (some (.int rr)) wr) {k0 : Nat} (hk0 : kindOf k0 = 4) {kh4 : (Int32 → Int32 → Int32 → Wd → Option (Int32 × Wd))} (Hh4 : ∀ (x1 : Int32) (x2 : Int32) (x3 : Int32) (w : Wd), kh4 x1 x2 x3 w = some (rr, wr) → Xx E 5 g 4 [(0, .ref (ad g k0)), (1, .int x1), (2, .int x2), (3, .int x3)] [] w) (x1 : Int32) (x2 : Int32) (x3 : Int32) (w : Wd) (hM : f_X4_risenAheadOf_b68 k0 kh4 x1 x2 x3 w = some (rr, wr)) : Xx E 5 g 68 [(0, .ref (ad g k0)), (1, .int x1), (2, .int x2), (3, .int x3)] [] w := by
  unfold f_X4_risenAheadOf_b68 at hM
  obtain ⟨x3_1, e_2, hM⟩ := bd hM
  refine x_iinc (L' := [(3, .int x3_1), (0, .ref (ad g k0)), (1, .int x1), (2, .int x2)]) C dX4_risenAheadOf_68 3 rfl (v := x3_1) (by rw [e_2]; first | rfl | decide) (by decide) rfl ?_
  refine x_goto (tgt := 4) C dX4_risenAheadOf_71 (by decide) ?_
  refine x_sub (L' := [(0, .ref (ad g k0)), (1, .int x1), (2, .int x2), (3, .int x3_1)]) [1, 2, 3, 0] rfl ?_
  exact Hh4 x1 x2 x3_1 w hM
set_option maxHeartbeats 1000000 in
set_option maxRecDepth 20000 in
theorem o_X4_risenAheadOf_b45 {E : Ex} {g : Gx} (C : Ctx E RX4 cX4_risenAheadOf rm_X4_risenAheadOf 5 g) {rr : Int32} {wr : Wd} (hR : Rets E g (some .int) (some (.int rr)) wr) {k0 : Nat} (hk0 : kindOf k0 = 4) {kh4 : (Int32 → Int32 → Int32 → Wd → Option (Int32 × Wd))} (Hh4 : ∀ (x1 : Int32) (x2 : Int32) (x3 : Int32) (w : Wd), kh4 x1 x2 x3 w = some (rr, wr) → Xx E 5 g 4 [(0, .ref (ad g k0)), (1, .int x1), (2, .int x2), (3, .int x3)] [] w) (x1 : Int32) (x2 : Int32) (x3 : Int32) (w : Wd) (hM : f_X4_risenAheadOf_b45 k0 kh4 x1 x2 x3 w = some (rr, wr)) : Xx E 5 g 45 [(0, .ref (ad g k0)), (1, .int x1), (2, .int x2), (3, .int x3)] [] w := by
  unfold f_X4_risenAheadOf_b45 at hM
  refine x_iconst (v := 1) C dX4_risenAheadOf_45 (by decide) ?_
  refine x_goto (tgt := 50) C dX4_risenAheadOf_46 (by decide) ?_
  obtain ⟨x4_1, e_2, hM⟩ := bd hM
  refine x_top e_2 ?_
  refine x_istore (L' := [(4, .int x4_1), (0, .ref (ad g k0)), (1, .int x1), (2, .int x2), (3, .int x3)]) C dX4_risenAheadOf_50 (by decide) rfl ?_
  refine x_aload_n C dX4_risenAheadOf_52 1 rfl rfl ?_
  refine x_iload_n C dX4_risenAheadOf_53 4 rfl rfl ?_
  obtain ⟨r_4, w_3, h_5, hM⟩ := cl hM
  refine x_callV (As := [.int x3]) C (c_X4_hasRisen E.l g k0 x3 hk0 w h_5) k_X4_hasRisen hk0 (by decide) rfl rfl gw_417 rfl rfl ⟨Nat.le_of_ble_eq_true rfl, Nat.le_of_ble_eq_true rfl⟩ rfl rfl (Nat.le_of_ble_eq_true rfl) dX4_risenAheadOf_54 ?_
  refine x_if_eq (tgt := 68) C dX4_risenAheadOf_57 (by decide) (fun c_6 => ?_) (fun c_6 => ?_)
  · have hM := ip c_6 hM
    refine x_sub (L' := [(0, .ref (ad g k0)), (1, .int x1), (2, .int x2), (3, .int x3)]) [1, 2, 3, 4] rfl ?_
    exact o_X4_risenAheadOf_b68 C hR hk0 Hh4 x1 x2 x3 w_3 hM
  · have hM := iq c_6 hM
    refine x_iload C dX4_risenAheadOf_60 0 rfl ?_
    refine x_if_eq (tgt := 68) C dX4_risenAheadOf_62 (by decide) (fun c_7 => ?_) (fun c_7 => ?_)
    · have hM := ip c_7 hM
      refine x_sub (L' := [(0, .ref (ad g k0)), (1, .int x1), (2, .int x2), (3, .int x3)]) [1, 2, 3, 4] rfl ?_
      exact o_X4_risenAheadOf_b68 C hR hk0 Hh4 x1 x2 x3 w_3 hM
    · have hM := iq c_7 hM
      obtain ⟨x2_8, e_9, hM⟩ := bd hM
      refine x_iinc (L' := [(2, .int x2_8), (4, .int x4_1), (0, .ref (ad g k0)), (1, .int x1), (3, .int x3)]) C dX4_risenAheadOf_65 3 rfl (v := x2_8) (by rw [e_9]; first | rfl | decide) (by decide) rfl ?_
      refine x_sub (L' := [(0, .ref (ad g k0)), (1, .int x1), (2, .int x2_8), (3, .int x3)]) [2, 3, 0, 4] rfl ?_
      exact o_X4_risenAheadOf_b68 C hR hk0 Hh4 x1 x2_8 x3 w_3 hM
set_option maxHeartbeats 1000000 in
set_option maxRecDepth 20000 in
theorem o_X4_risenAheadOf_b49 {E : Ex} {g : Gx} (C : Ctx E RX4 cX4_risenAheadOf rm_X4_risenAheadOf 5 g) {rr : Int32} {wr : Wd} (hR : Rets E g (some .int) (some (.int rr)) wr) {k0 : Nat} (hk0 : kindOf k0 = 4) {kh4 : (Int32 → Int32 → Int32 → Wd → Option (Int32 × Wd))} (Hh4 : ∀ (x1 : Int32) (x2 : Int32) (x3 : Int32) (w : Wd), kh4 x1 x2 x3 w = some (rr, wr) → Xx E 5 g 4 [(0, .ref (ad g k0)), (1, .int x1), (2, .int x2), (3, .int x3)] [] w) (x1 : Int32) (x2 : Int32) (x3 : Int32) (w : Wd) (hM : f_X4_risenAheadOf_b49 k0 kh4 x1 x2 x3 w = some (rr, wr)) : Xx E 5 g 49 [(0, .ref (ad g k0)), (1, .int x1), (2, .int x2), (3, .int x3)] [] w := by
  unfold f_X4_risenAheadOf_b49 at hM
  refine x_iconst (v := 0) C dX4_risenAheadOf_49 (by decide) ?_
  obtain ⟨x4_1, e_2, hM⟩ := bd hM
  refine x_top e_2 ?_
  refine x_istore (L' := [(4, .int x4_1), (0, .ref (ad g k0)), (1, .int x1), (2, .int x2), (3, .int x3)]) C dX4_risenAheadOf_50 (by decide) rfl ?_
  refine x_aload_n C dX4_risenAheadOf_52 1 rfl rfl ?_
  refine x_iload_n C dX4_risenAheadOf_53 4 rfl rfl ?_
  obtain ⟨r_4, w_3, h_5, hM⟩ := cl hM
  refine x_callV (As := [.int x3]) C (c_X4_hasRisen E.l g k0 x3 hk0 w h_5) k_X4_hasRisen hk0 (by decide) rfl rfl gw_417 rfl rfl ⟨Nat.le_of_ble_eq_true rfl, Nat.le_of_ble_eq_true rfl⟩ rfl rfl (Nat.le_of_ble_eq_true rfl) dX4_risenAheadOf_54 ?_
  refine x_if_eq (tgt := 68) C dX4_risenAheadOf_57 (by decide) (fun c_6 => ?_) (fun c_6 => ?_)
  · have hM := ip c_6 hM
    refine x_sub (L' := [(0, .ref (ad g k0)), (1, .int x1), (2, .int x2), (3, .int x3)]) [1, 2, 3, 4] rfl ?_
    exact o_X4_risenAheadOf_b68 C hR hk0 Hh4 x1 x2 x3 w_3 hM
  · have hM := iq c_6 hM
    refine x_iload C dX4_risenAheadOf_60 0 rfl ?_
    refine x_if_eq (tgt := 68) C dX4_risenAheadOf_62 (by decide) (fun c_7 => ?_) (fun c_7 => ?_)
    · have hM := ip c_7 hM
      refine x_sub (L' := [(0, .ref (ad g k0)), (1, .int x1), (2, .int x2), (3, .int x3)]) [1, 2, 3, 4] rfl ?_
      exact o_X4_risenAheadOf_b68 C hR hk0 Hh4 x1 x2 x3 w_3 hM
    · have hM := iq c_7 hM
      obtain ⟨x2_8, e_9, hM⟩ := bd hM
      refine x_iinc (L' := [(2, .int x2_8), (4, .int x4_1), (0, .ref (ad g k0)), (1, .int x1), (3, .int x3)]) C dX4_risenAheadOf_65 3 rfl (v := x2_8) (by rw [e_9]; first | rfl | decide) (by decide) rfl ?_
      refine x_sub (L' := [(0, .ref (ad g k0)), (1, .int x1), (2, .int x2_8), (3, .int x3)]) [2, 3, 0, 4] rfl ?_
      exact o_X4_risenAheadOf_b68 C hR hk0 Hh4 x1 x2_8 x3 w_3 hM
set_option maxHeartbeats 1000000 in
set_option maxRecDepth 20000 in
theorem o_X4_risenAheadOf_h4 {E : Ex} {g : Gx} (C : Ctx E RX4 cX4_risenAheadOf rm_X4_risenAheadOf 5 g) {rr : Int32} {wr : Wd} (hR : Rets E g (some .int) (some (.int rr)) wr) {k0 : Nat} (hk0 : kindOf k0 = 4) {kh4 : (Int32 → Int32 → Int32 → Wd → Option (Int32 × Wd))} (Hh4 : ∀ (x1 : Int32) (x2 : Int32) (x3 : Int32) (w : Wd), kh4 x1 x2 x3 w = some (rr, wr) → Xx E 5 g 4 [(0, .ref (ad g k0)), (1, .int x1), (2, .int x2), (3, .int x3)] [] w) (x1 : Int32) (x2 : Int32) (x3 : Int32) (w : Wd) (hM : f_X4_risenAheadOf_h4 k0 kh4 x1 x2 x3 w = some (rr, wr)) : Xx E 5 g 4 [(0, .ref (ad g k0)), (1, .int x1), (2, .int x2), (3, .int x3)] [] w := by
  unfold f_X4_risenAheadOf_h4 at hM
  refine x_iload_n C dX4_risenAheadOf_4 3 rfl rfl ?_
  refine x_bipush (v := 6) C dX4_risenAheadOf_5 (by decide) ?_
  refine x_icmp_ge (tgt := 74) C dX4_risenAheadOf_7 (by decide) (fun c_1 => ?_) (fun c_1 => ?_)
  · have hM := ip c_1 hM
    refine x_iload_n C dX4_risenAheadOf_74 2 rfl rfl ?_
    obtain ⟨rfl, rfl⟩ := rt hM
    exact x_iret C hR rfl dX4_risenAheadOf_75
  · have hM := iq c_1 hM
    refine x_aload_n C dX4_risenAheadOf_10 0 rfl rfl ?_
    refine xg_4_5 C hk0 gw_204 dX4_risenAheadOf_11 ?_
    refine x_iload_n C dX4_risenAheadOf_14 3 rfl rfl ?_
    obtain ⟨q_2, hM⟩ := gd hM
    refine x_iald C (kA4_4 hk0) (lA4_4 hk0) q_2 rfl dX4_risenAheadOf_15 ?_
    refine x_aload_n C dX4_risenAheadOf_16 0 rfl rfl ?_
    refine xg_4_5 C hk0 gw_204 dX4_risenAheadOf_17 ?_
    refine x_iload_n C dX4_risenAheadOf_20 1 rfl rfl ?_
    obtain ⟨q_3, hM⟩ := gd hM
    refine x_iald C (kA4_4 hk0) (lA4_4 hk0) q_3 rfl dX4_risenAheadOf_21 ?_
    refine x_icmp_lt (tgt := 45) C dX4_risenAheadOf_22 (by decide) (fun c_4 => ?_) (fun c_4 => ?_)
    · have hM := ip c_4 hM
      refine x_sub (L' := [(0, .ref (ad g k0)), (1, .int x1), (2, .int x2), (3, .int x3)]) [0, 1, 2, 3] rfl ?_
      exact o_X4_risenAheadOf_b45 C hR hk0 Hh4 x1 x2 x3 w hM
    · have hM := iq c_4 hM
      refine x_aload_n C dX4_risenAheadOf_25 0 rfl rfl ?_
      refine xg_4_5 C hk0 gw_204 dX4_risenAheadOf_26 ?_
      refine x_iload_n C dX4_risenAheadOf_29 3 rfl rfl ?_
      obtain ⟨q_5, hM⟩ := gd hM
      refine x_iald C (kA4_4 hk0) (lA4_4 hk0) q_5 rfl dX4_risenAheadOf_30 ?_
      refine x_aload_n C dX4_risenAheadOf_31 0 rfl rfl ?_
      refine xg_4_5 C hk0 gw_204 dX4_risenAheadOf_32 ?_
      refine x_iload_n C dX4_risenAheadOf_35 1 rfl rfl ?_
      obtain ⟨q_6, hM⟩ := gd hM
      refine x_iald C (kA4_4 hk0) (lA4_4 hk0) q_6 rfl dX4_risenAheadOf_36 ?_
      refine x_icmp_ne (tgt := 49) C dX4_risenAheadOf_37 (by decide) (fun c_7 => ?_) (fun c_7 => ?_)
      · have hM := iq c_7 hM
        refine x_sub (L' := [(0, .ref (ad g k0)), (1, .int x1), (2, .int x2), (3, .int x3)]) [0, 1, 2, 3] rfl ?_
        exact o_X4_risenAheadOf_b49 C hR hk0 Hh4 x1 x2 x3 w hM
      · have hM := ip c_7 hM
        refine x_iload_n C dX4_risenAheadOf_40 3 rfl rfl ?_
        refine x_iload_n C dX4_risenAheadOf_41 1 rfl rfl ?_
        refine x_icmp_ge (tgt := 49) C dX4_risenAheadOf_42 (by decide) (fun c_8 => ?_) (fun c_8 => ?_)
        · have hM := ip c_8 hM
          refine x_sub (L' := [(0, .ref (ad g k0)), (1, .int x1), (2, .int x2), (3, .int x3)]) [0, 1, 2, 3] rfl ?_
          exact o_X4_risenAheadOf_b49 C hR hk0 Hh4 x1 x2 x3 w hM
        · have hM := iq c_8 hM
          refine x_sub (L' := [(0, .ref (ad g k0)), (1, .int x1), (2, .int x2), (3, .int x3)]) [0, 1, 2, 3] rfl ?_
          exact o_X4_risenAheadOf_b45 C hR hk0 Hh4 x1 x2 x3 w hM
theorem o_X4_risenAheadOf_l4 {E : Ex} {g : Gx} (C : Ctx E RX4 cX4_risenAheadOf rm_X4_risenAheadOf 5 g) {rr : Int32} {wr : Wd} (hR : Rets E g (some .int) (some (.int rr)) wr) {k0 : Nat} (hk0 : kindOf k0 = 4) : ∀ (n : Nat) (x1 : Int32) (x2 : Int32) (x3 : Int32) (w : Wd), f_X4_risenAheadOf_l4 k0 n x1 x2 x3 w = some (rr, wr) → Xx E 5 g 4 [(0, .ref (ad g k0)), (1, .int x1), (2, .int x2), (3, .int x3)] [] w := by
  intro n
  induction n with
  | zero =>
    intro x1 x2 x3 w hM
    rw [f_X4_risenAheadOf_l4] at hM
    cases hM
  | succ n ih =>
    intro x1 x2 x3 w hM
    rw [f_X4_risenAheadOf_l4] at hM
    exact o_X4_risenAheadOf_h4 C hR hk0 ih x1 x2 x3 w hM
set_option maxHeartbeats 1000000 in
set_option maxRecDepth 20000 in
theorem o_X4_risenAheadOf_b0 {E : Ex} {g : Gx} (C : Ctx E RX4 cX4_risenAheadOf rm_X4_risenAheadOf 5 g) {rr : Int32} {wr : Wd} (hR : Rets E g (some .int) (some (.int rr)) wr) {k0 : Nat} (hk0 : kindOf k0 = 4) (x1 : Int32) (w : Wd) (hM : f_X4_risenAheadOf_b0 k0 x1 w = some (rr, wr)) : Xx E 5 g 0 [(0, .ref (ad g k0)), (1, .int x1)] [] w := by
  unfold f_X4_risenAheadOf_b0 at hM
  refine x_iconst (v := 0) C dX4_risenAheadOf_0 (by decide) ?_
  obtain ⟨x2_1, e_2, hM⟩ := bd hM
  refine x_top e_2 ?_
  refine x_istore_n (L' := [(2, .int x2_1), (0, .ref (ad g k0)), (1, .int x1)]) C dX4_risenAheadOf_1 rfl (by decide) rfl ?_
  refine x_iconst (v := 0) C dX4_risenAheadOf_2 (by decide) ?_
  obtain ⟨x3_3, e_4, hM⟩ := bd hM
  refine x_top e_4 ?_
  refine x_istore_n (L' := [(3, .int x3_3), (2, .int x2_1), (0, .ref (ad g k0)), (1, .int x1)]) C dX4_risenAheadOf_3 rfl (by decide) rfl ?_
  refine x_sub (L' := [(0, .ref (ad g k0)), (1, .int x1), (2, .int x2_1), (3, .int x3_3)]) [2, 3, 1, 0] rfl ?_
  exact o_X4_risenAheadOf_l4 C hR hk0 300 x1 x2_1 x3_3 w hM
theorem c_X4_risenAheadOf (l : Launch) (g : Gx) (k0 : Nat) (x1 : Int32) (hk0 : kindOf k0 = 4) (w : Wd) {rr : Int32} {wr : Wd} (hM : f_X4_risenAheadOf k0 x1 w = some (rr, wr)) : MetM l yX4_risenAheadOf cX4_risenAheadOf 5 (some .int) rm_X4_risenAheadOf g [.ref (ad g k0), .int x1] w (some (.int rr)) wr := by
  refine met_of (by decide) (Nat.le_of_ble_eq_true rfl) (fun E hl C hR => ?_)
  refine x_sub (L' := [(0, .ref (ad g k0)), (1, .int x1)]) [0, 1] rfl ?_
  exact o_X4_risenAheadOf_b0 C hR hk0 x1 w hM
abbrev rm_X5_order : Room := { frames := 2, cells := 0, slots := 0, locals := 45 }
set_option maxHeartbeats 1000000 in
set_option maxRecDepth 20000 in
theorem o_X5_order_b45 {E : Ex} {g : Gx} (C : Ctx E RX5 cX5_order rm_X5_order 3 g) {rr : Int32} {wr : Wd} (hR : Rets E g (some .int) (some (.int rr)) wr) {kh14 : (Int32 → Int32 → Wd → Option (Int32 × Wd))} (Hh14 : ∀ (x1 : Int32) (x2 : Int32) (w : Wd), kh14 x1 x2 w = some (rr, wr) → Xx E 3 g 14 [(0, .ref (ad g 0)), (1, .int x1), (2, .int x2)] [] w) (x1 : Int32) (x2 : Int32) (w : Wd) (hM : f_X5_order_b45 kh14 x1 x2 w = some (rr, wr)) : Xx E 3 g 45 [(0, .ref (ad g 0)), (1, .int x1), (2, .int x2)] [] w := by
  unfold f_X5_order_b45 at hM
  obtain ⟨x2_1, e_2, hM⟩ := bd hM
  refine x_iinc (L' := [(2, .int x2_1), (0, .ref (ad g 0)), (1, .int x1)]) C dX5_order_45 2 rfl (v := x2_1) (by rw [e_2]; first | rfl | decide) (by decide) rfl ?_
  refine x_goto (tgt := 14) C dX5_order_48 (by decide) ?_
  refine x_sub (L' := [(0, .ref (ad g 0)), (1, .int x1), (2, .int x2_1)]) [1, 2, 0] rfl ?_
  exact Hh14 x1 x2_1 w hM
set_option maxHeartbeats 1000000 in
set_option maxRecDepth 20000 in
theorem o_X5_order_h14 {E : Ex} {g : Gx} (C : Ctx E RX5 cX5_order rm_X5_order 3 g) {rr : Int32} {wr : Wd} (hR : Rets E g (some .int) (some (.int rr)) wr) {kh14 : (Int32 → Int32 → Wd → Option (Int32 × Wd))} (Hh14 : ∀ (x1 : Int32) (x2 : Int32) (w : Wd), kh14 x1 x2 w = some (rr, wr) → Xx E 3 g 14 [(0, .ref (ad g 0)), (1, .int x1), (2, .int x2)] [] w) (x1 : Int32) (x2 : Int32) (w : Wd) (hM : f_X5_order_h14 kh14 x1 x2 w = some (rr, wr)) : Xx E 3 g 14 [(0, .ref (ad g 0)), (1, .int x1), (2, .int x2)] [] w := by
  unfold f_X5_order_h14 at hM
  refine x_iload_n C dX5_order_14 2 rfl rfl ?_
  refine x_bipush (v := 6) C dX5_order_15 (by decide) ?_
  refine x_icmp_ge (tgt := 51) C dX5_order_17 (by decide) (fun c_1 => ?_) (fun c_1 => ?_)
  · have hM := ip c_1 hM
    refine x_bipush (v := -9) C dX5_order_51 (by decide) ?_
    obtain ⟨rfl, rfl⟩ := rt hM
    exact x_iret C hR rfl dX5_order_53
  · have hM := iq c_1 hM
    refine x_aload_n C dX5_order_20 0 rfl rfl ?_
    refine xg_5_3 C kd_0 gw_273 dX5_order_21 ?_
    refine x_iload_n C dX5_order_24 2 rfl rfl ?_
    obtain ⟨r_3, w_2, h_4, hM⟩ := cl hM
    refine x_callVN (As := [.int x2]) C (c_X4_hasRisen E.l g 14 x2 kd_14 w h_4) k_X4_hasRisen kd_14 (by decide) rfl rfl nw_444 rfl rfl ⟨Nat.le_of_ble_eq_true rfl, Nat.le_of_ble_eq_true rfl⟩ rfl rfl (Nat.le_of_ble_eq_true rfl) dX5_order_25 ?_
    refine x_if_eq (tgt := 45) C dX5_order_28 (by decide) (fun c_5 => ?_) (fun c_5 => ?_)
    · have hM := ip c_5 hM
      refine x_sub (L' := [(0, .ref (ad g 0)), (1, .int x1), (2, .int x2)]) [0, 1, 2] rfl ?_
      exact o_X5_order_b45 C hR Hh14 x1 x2 w_2 hM
    · have hM := iq c_5 hM
      refine x_aload_n C dX5_order_31 0 rfl rfl ?_
      refine xg_5_3 C kd_0 gw_273 dX5_order_32 ?_
      refine x_iload_n C dX5_order_35 2 rfl rfl ?_
      obtain ⟨r_7, w_6, h_8, hM⟩ := cl hM
      refine x_callVN (As := [.int x2]) C (c_X4_risenAheadOf E.l g 14 x2 kd_14 w_2 h_8) k_X4_risenAheadOf kd_14 (by decide) rfl rfl nw_445 rfl rfl ⟨Nat.le_of_ble_eq_true rfl, Nat.le_of_ble_eq_true rfl⟩ rfl rfl (Nat.le_of_ble_eq_true rfl) dX5_order_36 ?_
      refine x_iload_n C dX5_order_39 1 rfl rfl ?_
      refine x_icmp_ne (tgt := 45) C dX5_order_40 (by decide) (fun c_9 => ?_) (fun c_9 => ?_)
      · have hM := iq c_9 hM
        refine x_sub (L' := [(0, .ref (ad g 0)), (1, .int x1), (2, .int x2)]) [0, 1, 2] rfl ?_
        exact o_X5_order_b45 C hR Hh14 x1 x2 w_6 hM
      · have hM := ip c_9 hM
        refine x_iload_n C dX5_order_43 2 rfl rfl ?_
        obtain ⟨rfl, rfl⟩ := rt hM
        exact x_iret C hR rfl dX5_order_44
theorem o_X5_order_l14 {E : Ex} {g : Gx} (C : Ctx E RX5 cX5_order rm_X5_order 3 g) {rr : Int32} {wr : Wd} (hR : Rets E g (some .int) (some (.int rr)) wr) : ∀ (n : Nat) (x1 : Int32) (x2 : Int32) (w : Wd), f_X5_order_l14 n x1 x2 w = some (rr, wr) → Xx E 3 g 14 [(0, .ref (ad g 0)), (1, .int x1), (2, .int x2)] [] w := by
  intro n
  induction n with
  | zero =>
    intro x1 x2 w hM
    rw [f_X5_order_l14] at hM
    cases hM
  | succ n ih =>
    intro x1 x2 w hM
    rw [f_X5_order_l14] at hM
    exact o_X5_order_h14 C hR ih x1 x2 w hM
set_option maxHeartbeats 1000000 in
set_option maxRecDepth 20000 in
theorem o_X5_order_b0 {E : Ex} {g : Gx} (C : Ctx E RX5 cX5_order rm_X5_order 3 g) {rr : Int32} {wr : Wd} (hR : Rets E g (some .int) (some (.int rr)) wr) (x1 : Int32) (w : Wd) (hM : f_X5_order_b0 x1 w = some (rr, wr)) : Xx E 3 g 0 [(0, .ref (ad g 0)), (1, .int x1)] [] w := by
  unfold f_X5_order_b0 at hM
  refine x_iload_n C dX5_order_0 1 rfl rfl ?_
  refine x_if_lt (tgt := 10) C dX5_order_1 (by decide) (fun c_1 => ?_) (fun c_1 => ?_)
  · have hM := ip c_1 hM
    refine x_iconst (v := -1) C dX5_order_10 (by decide) ?_
    obtain ⟨rfl, rfl⟩ := rt hM
    exact x_iret C hR rfl dX5_order_11
  · have hM := iq c_1 hM
    refine x_iload_n C dX5_order_4 1 rfl rfl ?_
    refine x_bipush (v := 6) C dX5_order_5 (by decide) ?_
    refine x_icmp_lt (tgt := 12) C dX5_order_7 (by decide) (fun c_2 => ?_) (fun c_2 => ?_)
    · have hM := ip c_2 hM
      refine x_iconst (v := 0) C dX5_order_12 (by decide) ?_
      obtain ⟨x2_3, e_4, hM⟩ := bd hM
      refine x_top e_4 ?_
      refine x_istore_n (L' := [(2, .int x2_3), (0, .ref (ad g 0)), (1, .int x1)]) C dX5_order_13 rfl (by decide) rfl ?_
      refine x_sub (L' := [(0, .ref (ad g 0)), (1, .int x1), (2, .int x2_3)]) [1, 2, 0] rfl ?_
      exact o_X5_order_l14 C hR 300 x1 x2_3 w hM
    · have hM := iq c_2 hM
      refine x_iconst (v := -1) C dX5_order_10 (by decide) ?_
      obtain ⟨rfl, rfl⟩ := rt hM
      exact x_iret C hR rfl dX5_order_11
theorem c_X5_order (l : Launch) (g : Gx) (x1 : Int32) (w : Wd) {rr : Int32} {wr : Wd} (hM : f_X5_order x1 w = some (rr, wr)) : MetM l yX5_order cX5_order 3 (some .int) rm_X5_order g [.ref (ad g 0), .int x1] w (some (.int rr)) wr := by
  refine met_of (by decide) (Nat.le_of_ble_eq_true rfl) (fun E hl C hR => ?_)
  refine x_sub (L' := [(0, .ref (ad g 0)), (1, .int x1)]) [0, 1] rfl ?_
  exact o_X5_order_b0 C hR x1 w hM
abbrev rm_X0_place : Room := { frames := 0, cells := 0, slots := 0, locals := 0 }
set_option maxHeartbeats 1000000 in
set_option maxRecDepth 20000 in
theorem o_X0_place_b28 {E : Ex} {g : Gx} (C : Ctx E RX0 cX0_place rm_X0_place 1 g) {rr : Option Nat} {wr : Wd} (hR : Rets E g (some (.object "DumplingPolls$Stew")) (some (rfv g rr)) wr) (w : Wd) (hM : f_X0_place_b28 w = some (rr, wr)) : Xx E 1 g 28 [] [] w := by
  unfold f_X0_place_b28 at hM
  refine x_null C dX0_place_28 ?_
  obtain ⟨rfl, rfl⟩ := rt hM
  exact x_aret (v := .null) C hR (Or.inl rfl) rfl dX0_place_29
set_option maxHeartbeats 1000000 in
set_option maxRecDepth 20000 in
theorem o_X0_place_b0 {E : Ex} {g : Gx} (C : Ctx E RX0 cX0_place rm_X0_place 1 g) {rr : Option Nat} {wr : Wd} (hR : Rets E g (some (.object "DumplingPolls$Stew")) (some (rfv g rr)) wr) (w : Wd) (hM : f_X0_place_b0 w = some (rr, wr)) : Xx E 1 g 0 [(0, .ref (ad g 24))] [] w := by
  unfold f_X0_place_b0 at hM
  refine x_aload_n C dX0_place_0 0 rfl rfl ?_
  refine xg_0_1 C kd_24 gw_229 dX0_place_1 ?_
  refine x_if_lt (tgt := 28) C dX0_place_4 (by decide) (fun c_1 => ?_) (fun c_1 => ?_)
  · have hM := ip c_1 hM
    refine x_sub (L' := []) [] rfl ?_
    exact o_X0_place_b28 C hR w hM
  · have hM := iq c_1 hM
    refine x_aload_n C dX0_place_7 0 rfl rfl ?_
    refine xg_0_1 C kd_24 gw_229 dX0_place_8 ?_
    refine x_bipush (v := 10) C dX0_place_11 (by decide) ?_
    refine x_icmp_ge (tgt := 28) C dX0_place_13 (by decide) (fun c_2 => ?_) (fun c_2 => ?_)
    · have hM := ip c_2 hM
      refine x_sub (L' := []) [] rfl ?_
      exact o_X0_place_b28 C hR w hM
    · have hM := iq c_2 hM
      refine x_aload_n C dX0_place_16 0 rfl rfl ?_
      refine xg_0_0 C kd_24 gw_228 dX0_place_17 ?_
      refine x_aload_n C dX0_place_20 0 rfl rfl ?_
      refine xg_0_1 C kd_24 gw_229 dX0_place_21 ?_
      obtain ⟨q_3, hM⟩ := gd hM
      refine x_aald C q_3 dX0_place_24 ?_
      refine x_goto (tgt := 29) C dX0_place_25 (by decide) ?_
      obtain ⟨rfl, rfl⟩ := rt hM
      exact x_aret C hR (Or.inr ⟨_, rfl⟩) rfl dX0_place_29
theorem c_X0_place (l : Launch) (g : Gx) (w : Wd) {rr : Option Nat} {wr : Wd} (hM : f_X0_place w = some (rr, wr)) : MetM l yX0_place cX0_place 1 (some (.object "DumplingPolls$Stew")) rm_X0_place g [.ref (ad g 24)] w (some (rfv g rr)) wr := by
  refine met_of (by decide) (Nat.le_of_ble_eq_true rfl) (fun E hl C hR => ?_)
  refine x_sub (L' := [(0, .ref (ad g 24))]) [0] rfl ?_
  exact o_X0_place_b0 C hR w hM
abbrev rm_X0_remember : Room := { frames := 3, cells := 0, slots := 0, locals := 60 }
set_option maxHeartbeats 1000000 in
set_option maxRecDepth 20000 in
theorem o_X0_remember_b0 {E : Ex} {g : Gx} (C : Ctx E RX0 cX0_remember rm_X0_remember 2 g) {rr : Unit} {wr : Wd} (hR : Rets E g none none wr) {k1 : Nat} (hk1 : kindOf k1 = 4) (w : Wd) (hM : f_X0_remember_b0 k1 w = some (rr, wr)) : Xx E 2 g 0 [(0, .ref (ad g 24)), (1, .ref (ad g k1))] [] w := by
  unfold f_X0_remember_b0 at hM
  refine x_aload_n C dX0_remember_0 0 rfl rfl ?_
  obtain ⟨r_2, w_1, h_3, hM⟩ := cl hM
  refine x_callV (As := []) C (c_X0_place E.l g  w h_3) k_X0_place kd_24 (by decide) rfl rfl gw_458 rfl rfl ⟨Nat.le_of_ble_eq_true rfl, Nat.le_of_ble_eq_true rfl⟩ rfl rfl (Nat.le_of_ble_eq_true rfl) dX0_remember_1 ?_
  refine x_aload_n C dX0_remember_4 1 rfl rfl ?_
  obtain ⟨r_5, w_4, h_6, hM⟩ := cl hM
  refine x_callSv (As := [rfv g r_2, .ref (ad g k1)]) C (c_X0_copyInto E.l g r_2 (some k1) w_1 h_6) k_X0_copyInto gw_462 rfl rfl ⟨Nat.le_of_ble_eq_true rfl, Nat.le_of_ble_eq_true rfl⟩ rfl rfl (Nat.le_of_ble_eq_true rfl) dX0_remember_5 ?_
  refine x_aload_n C dX0_remember_8 0 rfl rfl ?_
  refine x_aload_n C dX0_remember_9 0 rfl rfl ?_
  refine xg_0_1 C kd_24 gw_229 dX0_remember_10 ?_
  refine x_iconst (v := 1) C dX0_remember_13 (by decide) ?_
  refine x_iadd C dX0_remember_14 ?_
  refine x_bipush (v := 10) C dX0_remember_15 (by decide) ?_
  refine x_icmp_ge (tgt := 29) C dX0_remember_17 (by decide) (fun c_7 => ?_) (fun c_7 => ?_)
  · have hM := ip c_7 hM
    refine x_iconst (v := 0) C dX0_remember_29 (by decide) ?_
    obtain ⟨w_8, e_9, hM⟩ := bd hM
    refine xp_0_1 C kd_24 gw_229 dX0_remember_30 ?_
    refine x_w e_9 ?_
    refine x_aload_n C dX0_remember_33 0 rfl rfl ?_
    refine x_bipush (v := 10) C dX0_remember_34 (by decide) ?_
    refine x_aload_n C dX0_remember_36 0 rfl rfl ?_
    refine xg_0_2 C kd_24 gw_230 dX0_remember_37 ?_
    refine x_iconst (v := 1) C dX0_remember_40 (by decide) ?_
    refine x_iadd C dX0_remember_41 ?_
    refine x_mmin C gw_470 gw_347 gw_90 mc_min (Nat.le_of_ble_eq_true rfl) (Nat.le_of_ble_eq_true rfl) dX0_remember_42 ?_
    obtain ⟨w_10, e_11, hM⟩ := bd hM
    refine xp_0_2 C kd_24 gw_230 dX0_remember_45 ?_
    refine x_w e_11 ?_
    obtain ⟨rfl, rfl⟩ := rt hM
    exact x_vret C hR rfl dX0_remember_48
  · have hM := iq c_7 hM
    refine x_aload_n C dX0_remember_20 0 rfl rfl ?_
    refine xg_0_1 C kd_24 gw_229 dX0_remember_21 ?_
    refine x_iconst (v := 1) C dX0_remember_24 (by decide) ?_
    refine x_iadd C dX0_remember_25 ?_
    refine x_goto (tgt := 30) C dX0_remember_26 (by decide) ?_
    obtain ⟨w_12, e_13, hM⟩ := bd hM
    refine xp_0_1 C kd_24 gw_229 dX0_remember_30 ?_
    refine x_w e_13 ?_
    refine x_aload_n C dX0_remember_33 0 rfl rfl ?_
    refine x_bipush (v := 10) C dX0_remember_34 (by decide) ?_
    refine x_aload_n C dX0_remember_36 0 rfl rfl ?_
    refine xg_0_2 C kd_24 gw_230 dX0_remember_37 ?_
    refine x_iconst (v := 1) C dX0_remember_40 (by decide) ?_
    refine x_iadd C dX0_remember_41 ?_
    refine x_mmin C gw_470 gw_347 gw_90 mc_min (Nat.le_of_ble_eq_true rfl) (Nat.le_of_ble_eq_true rfl) dX0_remember_42 ?_
    obtain ⟨w_14, e_15, hM⟩ := bd hM
    refine xp_0_2 C kd_24 gw_230 dX0_remember_45 ?_
    refine x_w e_15 ?_
    obtain ⟨rfl, rfl⟩ := rt hM
    exact x_vret C hR rfl dX0_remember_48
theorem c_X0_remember (l : Launch) (g : Gx) (k1 : Nat) (hk1 : kindOf k1 = 4) (w : Wd) {rr : Unit} {wr : Wd} (hM : f_X0_remember k1 w = some (rr, wr)) : MetM l yX0_remember cX0_remember 2 none rm_X0_remember g [.ref (ad g 24), .ref (ad g k1)] w none wr := by
  refine met_of (by decide) (Nat.le_of_ble_eq_true rfl) (fun E hl C hR => ?_)
  refine x_sub (L' := [(0, .ref (ad g 24)), (1, .ref (ad g k1))]) [0, 1] rfl ?_
  exact o_X0_remember_b0 C hR hk1 w hM
abbrev rm_X4_drop : Room := { frames := 0, cells := 0, slots := 0, locals := 0 }
set_option maxHeartbeats 1000000 in
set_option maxRecDepth 20000 in
theorem o_X4_drop_b0 {E : Ex} {g : Gx} (C : Ctx E RX4 cX4_drop rm_X4_drop 2 g) {rr : Unit} {wr : Wd} (hR : Rets E g none none wr) {k0 : Nat} (hk0 : kindOf k0 = 4) (x1 : Int32) (w : Wd) (hM : f_X4_drop_b0 k0 x1 w = some (rr, wr)) : Xx E 2 g 0 [(0, .ref (ad g k0)), (1, .int x1)] [] w := by
  unfold f_X4_drop_b0 at hM
  refine x_aload_n C dX4_drop_0 0 rfl rfl ?_
  refine xg_4_2 C hk0 gw_198 dX4_drop_1 ?_
  refine x_iload_n C dX4_drop_4 1 rfl rfl ?_
  refine x_bipush (v := 10) C dX4_drop_5 (by decide) ?_
  obtain ⟨q_1, hM⟩ := gd hM
  obtain ⟨w_2, e_3, hM⟩ := bd hM
  refine x_iast C (kA4_1 hk0) (lA4_1 hk0) q_1 rfl dX4_drop_7 ?_
  refine x_w e_3 ?_
  obtain ⟨rfl, rfl⟩ := rt hM
  exact x_vret C hR rfl dX4_drop_8
theorem c_X4_drop (l : Launch) (g : Gx) (k0 : Nat) (x1 : Int32) (hk0 : kindOf k0 = 4) (w : Wd) {rr : Unit} {wr : Wd} (hM : f_X4_drop k0 x1 w = some (rr, wr)) : MetM l yX4_drop cX4_drop 2 none rm_X4_drop g [.ref (ad g k0), .int x1] w none wr := by
  refine met_of (by decide) (Nat.le_of_ble_eq_true rfl) (fun E hl C hR => ?_)
  refine x_sub (L' := [(0, .ref (ad g k0)), (1, .int x1)]) [0, 1] rfl ?_
  exact o_X4_drop_b0 C hR hk0 x1 w hM
abbrev rm_X5_drops : Room := { frames := 4, cells := 0, slots := 0, locals := 81 }
set_option maxHeartbeats 1000000 in
set_option maxRecDepth 20000 in
theorem o_X5_drops_b0 {E : Ex} {g : Gx} (C : Ctx E RX5 cX5_drops rm_X5_drops 2 g) {rr : Int32} {wr : Wd} (hR : Rets E g (some .int) (some (.int rr)) wr) (x1 : Int32) (w : Wd) (hM : f_X5_drops_b0 x1 w = some (rr, wr)) : Xx E 2 g 0 [(0, .ref (ad g 0)), (1, .int x1)] [] w := by
  unfold f_X5_drops_b0 at hM
  refine x_aload_n C dX5_drops_0 0 rfl rfl ?_
  refine x_iload_n C dX5_drops_1 1 rfl rfl ?_
  obtain ⟨r_2, w_1, h_3, hM⟩ := cl hM
  refine x_callV (As := [.int x1]) C (c_X5_isTold E.l g x1 w h_3) k_X5_isTold kd_0 (by decide) rfl rfl gw_385 rfl rfl ⟨Nat.le_of_ble_eq_true rfl, Nat.le_of_ble_eq_true rfl⟩ rfl rfl (Nat.le_of_ble_eq_true rfl) dX5_drops_2 ?_
  refine x_if_ne (tgt := 10) C dX5_drops_5 (by decide) (fun c_4 => ?_) (fun c_4 => ?_)
  · have hM := iq c_4 hM
    refine x_aload_n C dX5_drops_10 0 rfl rfl ?_
    refine xg_5_3 C kd_0 gw_273 dX5_drops_11 ?_
    refine x_iload_n C dX5_drops_14 1 rfl rfl ?_
    obtain ⟨r_6, w_5, h_7, hM⟩ := cl hM
    refine x_callVN (As := [.int x1]) C (c_X4_isDry E.l g 14 x1 kd_14 w_1 h_7) k_X4_isDry kd_14 (by decide) rfl rfl nw_453 rfl rfl ⟨Nat.le_of_ble_eq_true rfl, Nat.le_of_ble_eq_true rfl⟩ rfl rfl (Nat.le_of_ble_eq_true rfl) dX5_drops_15 ?_
    refine x_if_ne (tgt := 24) C dX5_drops_18 (by decide) (fun c_8 => ?_) (fun c_8 => ?_)
    · have hM := iq c_8 hM
      refine x_aload_n C dX5_drops_24 0 rfl rfl ?_
      refine xg_5_5 C kd_0 gw_275 dX5_drops_25 ?_
      refine x_aload_n C dX5_drops_28 0 rfl rfl ?_
      refine xg_5_3 C kd_0 gw_273 dX5_drops_29 ?_
      obtain ⟨r_10, w_9, h_11, hM⟩ := cl hM
      refine x_callVNv (As := [.ref (ad g 14)]) C (c_X0_remember E.l g 14 kd_14 w_5 h_11) k_X0_remember kd_24 (by decide) rfl rfl nw_454 rfl rfl ⟨Nat.le_of_ble_eq_true rfl, Nat.le_of_ble_eq_true rfl⟩ rfl rfl (Nat.le_of_ble_eq_true rfl) dX5_drops_32 ?_
      refine x_aload_n C dX5_drops_35 0 rfl rfl ?_
      refine xg_5_3 C kd_0 gw_273 dX5_drops_36 ?_
      refine x_iload_n C dX5_drops_39 1 rfl rfl ?_
      obtain ⟨r_13, w_12, h_14, hM⟩ := cl hM
      refine x_callVNv (As := [.int x1]) C (c_X4_drop E.l g 14 x1 kd_14 w_9 h_14) k_X4_drop kd_14 (by decide) rfl rfl nw_471 rfl rfl ⟨Nat.le_of_ble_eq_true rfl, Nat.le_of_ble_eq_true rfl⟩ rfl rfl (Nat.le_of_ble_eq_true rfl) dX5_drops_40 ?_
      refine x_aload_n C dX5_drops_43 0 rfl rfl ?_
      refine xg_5_3 C kd_0 gw_273 dX5_drops_44 ?_
      obtain ⟨r_16, w_15, h_17, hM⟩ := cl hM
      refine x_callVN (As := []) C (c_X4_wetOnes E.l g 14 kd_14 w_12 h_17) k_X4_wetOnes kd_14 (by decide) rfl rfl nw_401 rfl rfl ⟨Nat.le_of_ble_eq_true rfl, Nat.le_of_ble_eq_true rfl⟩ rfl rfl (Nat.le_of_ble_eq_true rfl) dX5_drops_47 ?_
      obtain ⟨r_19, w_18, h_20, hM⟩ := cl hM
      refine x_callS (As := [.int r_16]) C (c_J6_bitCount_0f7a4 E.l g r_16 w_15 h_20) k_J6_bitCount_0f7a4 gw_421 rfl rfl ⟨Nat.le_of_ble_eq_true rfl, Nat.le_of_ble_eq_true rfl⟩ rfl rfl (Nat.le_of_ble_eq_true rfl) dX5_drops_50 ?_
      obtain ⟨rfl, rfl⟩ := rt hM
      exact x_iret C hR rfl dX5_drops_53
    · have hM := ip c_8 hM
      refine x_bipush (v := -2) C dX5_drops_21 (by decide) ?_
      obtain ⟨rfl, rfl⟩ := rt hM
      exact x_iret C hR rfl dX5_drops_23
  · have hM := ip c_4 hM
    refine x_iconst (v := -1) C dX5_drops_8 (by decide) ?_
    obtain ⟨rfl, rfl⟩ := rt hM
    exact x_iret C hR rfl dX5_drops_9
theorem c_X5_drops (l : Launch) (g : Gx) (x1 : Int32) (w : Wd) {rr : Int32} {wr : Wd} (hM : f_X5_drops x1 w = some (rr, wr)) : MetM l yX5_drops cX5_drops 2 (some .int) rm_X5_drops g [.ref (ad g 0), .int x1] w (some (.int rr)) wr := by
  refine met_of (by decide) (Nat.le_of_ble_eq_true rfl) (fun E hl C hR => ?_)
  refine x_sub (L' := [(0, .ref (ad g 0)), (1, .int x1)]) [0, 1] rfl ?_
  exact o_X5_drops_b0 C hR x1 w hM
abbrev rm_X4_swell : Room := { frames := 1, cells := 0, slots := 0, locals := 21 }
set_option maxHeartbeats 1000000 in
set_option maxRecDepth 20000 in
theorem o_X4_swell_b40 {E : Ex} {g : Gx} (C : Ctx E RX4 cX4_swell rm_X4_swell 3 g) {rr : Unit} {wr : Wd} (hR : Rets E g none none wr) {k0 : Nat} (hk0 : kindOf k0 = 4) {k1 : Nat} (hk1 : kindOf k1 = 2) {kh2 : (Int32 → Wd → Option (Unit × Wd))} (Hh2 : ∀ (x2 : Int32) (w : Wd), kh2 x2 w = some (rr, wr) → Xx E 3 g 2 [(0, .ref (ad g k0)), (1, .ref (ad g k1)), (2, .int x2)] [] w) (x2 : Int32) (w : Wd) (hM : f_X4_swell_b40 k0 k1 kh2 x2 w = some (rr, wr)) : Xx E 3 g 40 [(0, .ref (ad g k0)), (1, .ref (ad g k1)), (2, .int x2)] [] w := by
  unfold f_X4_swell_b40 at hM
  obtain ⟨x2_1, e_2, hM⟩ := bd hM
  refine x_iinc (L' := [(2, .int x2_1), (0, .ref (ad g k0)), (1, .ref (ad g k1))]) C dX4_swell_40 2 rfl (v := x2_1) (by rw [e_2]; first | rfl | decide) (by decide) rfl ?_
  refine x_goto (tgt := 2) C dX4_swell_43 (by decide) ?_
  refine x_sub (L' := [(0, .ref (ad g k0)), (1, .ref (ad g k1)), (2, .int x2_1)]) [1, 2, 0] rfl ?_
  exact Hh2 x2_1 w hM
set_option maxHeartbeats 1000000 in
set_option maxRecDepth 20000 in
theorem o_X4_swell_h2 {E : Ex} {g : Gx} (C : Ctx E RX4 cX4_swell rm_X4_swell 3 g) {rr : Unit} {wr : Wd} (hR : Rets E g none none wr) {k0 : Nat} (hk0 : kindOf k0 = 4) {k1 : Nat} (hk1 : kindOf k1 = 2) {kh2 : (Int32 → Wd → Option (Unit × Wd))} (Hh2 : ∀ (x2 : Int32) (w : Wd), kh2 x2 w = some (rr, wr) → Xx E 3 g 2 [(0, .ref (ad g k0)), (1, .ref (ad g k1)), (2, .int x2)] [] w) (x2 : Int32) (w : Wd) (hM : f_X4_swell_h2 k0 k1 kh2 x2 w = some (rr, wr)) : Xx E 3 g 2 [(0, .ref (ad g k0)), (1, .ref (ad g k1)), (2, .int x2)] [] w := by
  unfold f_X4_swell_h2 at hM
  refine x_iload_n C dX4_swell_2 2 rfl rfl ?_
  refine x_bipush (v := 6) C dX4_swell_3 (by decide) ?_
  refine x_icmp_ge (tgt := 46) C dX4_swell_5 (by decide) (fun c_1 => ?_) (fun c_1 => ?_)
  · have hM := ip c_1 hM
    obtain ⟨rfl, rfl⟩ := rt hM
    exact x_vret C hR rfl dX4_swell_46
  · have hM := iq c_1 hM
    refine x_aload_n C dX4_swell_8 0 rfl rfl ?_
    refine x_iload_n C dX4_swell_9 2 rfl rfl ?_
    obtain ⟨r_3, w_2, h_4, hM⟩ := cl hM
    refine x_callV (As := [.int x2]) C (c_X4_isDry E.l g k0 x2 hk0 w h_4) k_X4_isDry hk0 (by decide) rfl rfl gw_405 rfl rfl ⟨Nat.le_of_ble_eq_true rfl, Nat.le_of_ble_eq_true rfl⟩ rfl rfl (Nat.le_of_ble_eq_true rfl) dX4_swell_10 ?_
    refine x_if_ne (tgt := 40) C dX4_swell_13 (by decide) (fun c_5 => ?_) (fun c_5 => ?_)
    · have hM := iq c_5 hM
      refine x_sub (L' := [(0, .ref (ad g k0)), (1, .ref (ad g k1)), (2, .int x2)]) [0, 1, 2] rfl ?_
      exact o_X4_swell_b40 C hR hk0 hk1 Hh2 x2 w_2 hM
    · have hM := ip c_5 hM
      refine x_aload_n C dX4_swell_16 0 rfl rfl ?_
      refine xg_4_3 C hk0 gw_200 dX4_swell_17 ?_
      refine x_iload_n C dX4_swell_20 2 rfl rfl ?_
      refine x_bipush (v := 30) C dX4_swell_21 (by decide) ?_
      refine x_aload_n C dX4_swell_23 0 rfl rfl ?_
      refine xg_4_3 C hk0 gw_200 dX4_swell_24 ?_
      refine x_iload_n C dX4_swell_27 2 rfl rfl ?_
      obtain ⟨q_6, hM⟩ := gd hM
      refine x_iald C (kA4_2 hk0) (lA4_2 hk0) q_6 rfl dX4_swell_28 ?_
      refine x_aload_n C dX4_swell_29 1 rfl rfl ?_
      refine xgN_2_6 C hk1 nw_168 dX4_swell_30 ?_
      refine x_iload_n C dX4_swell_33 2 rfl rfl ?_
      obtain ⟨q_7, hM⟩ := gd hM
      refine x_iald C (kA2_3 hk1) (lA2_3 hk1) q_7 rfl dX4_swell_34 ?_
      refine x_iadd C dX4_swell_35 ?_
      refine x_mmin C gw_487 gw_347 gw_90 mc_min (Nat.le_of_ble_eq_true rfl) (Nat.le_of_ble_eq_true rfl) dX4_swell_36 ?_
      obtain ⟨q_8, hM⟩ := gd hM
      obtain ⟨w_9, e_10, hM⟩ := bd hM
      refine x_iast C (kA4_2 hk0) (lA4_2 hk0) q_8 rfl dX4_swell_39 ?_
      refine x_w e_10 ?_
      refine x_sub (L' := [(0, .ref (ad g k0)), (1, .ref (ad g k1)), (2, .int x2)]) [0, 1, 2] rfl ?_
      exact o_X4_swell_b40 C hR hk0 hk1 Hh2 x2 w_9 hM
theorem o_X4_swell_l2 {E : Ex} {g : Gx} (C : Ctx E RX4 cX4_swell rm_X4_swell 3 g) {rr : Unit} {wr : Wd} (hR : Rets E g none none wr) {k0 : Nat} (hk0 : kindOf k0 = 4) {k1 : Nat} (hk1 : kindOf k1 = 2) : ∀ (n : Nat) (x2 : Int32) (w : Wd), f_X4_swell_l2 k0 k1 n x2 w = some (rr, wr) → Xx E 3 g 2 [(0, .ref (ad g k0)), (1, .ref (ad g k1)), (2, .int x2)] [] w := by
  intro n
  induction n with
  | zero =>
    intro x2 w hM
    rw [f_X4_swell_l2] at hM
    cases hM
  | succ n ih =>
    intro x2 w hM
    rw [f_X4_swell_l2] at hM
    exact o_X4_swell_h2 C hR hk0 hk1 ih x2 w hM
set_option maxHeartbeats 1000000 in
set_option maxRecDepth 20000 in
theorem o_X4_swell_b0 {E : Ex} {g : Gx} (C : Ctx E RX4 cX4_swell rm_X4_swell 3 g) {rr : Unit} {wr : Wd} (hR : Rets E g none none wr) {k0 : Nat} (hk0 : kindOf k0 = 4) {k1 : Nat} (hk1 : kindOf k1 = 2) (w : Wd) (hM : f_X4_swell_b0 k0 k1 w = some (rr, wr)) : Xx E 3 g 0 [(0, .ref (ad g k0)), (1, .ref (ad g k1))] [] w := by
  unfold f_X4_swell_b0 at hM
  refine x_iconst (v := 0) C dX4_swell_0 (by decide) ?_
  obtain ⟨x2_1, e_2, hM⟩ := bd hM
  refine x_top e_2 ?_
  refine x_istore_n (L' := [(2, .int x2_1), (0, .ref (ad g k0)), (1, .ref (ad g k1))]) C dX4_swell_1 rfl (by decide) rfl ?_
  refine x_sub (L' := [(0, .ref (ad g k0)), (1, .ref (ad g k1)), (2, .int x2_1)]) [1, 2, 0] rfl ?_
  exact o_X4_swell_l2 C hR hk0 hk1 300 x2_1 w hM
theorem c_X4_swell (l : Launch) (g : Gx) (k0 : Nat) (k1 : Nat) (hk0 : kindOf k0 = 4) (hk1 : kindOf k1 = 2) (w : Wd) {rr : Unit} {wr : Wd} (hM : f_X4_swell k0 k1 w = some (rr, wr)) : MetM l yX4_swell cX4_swell 3 none rm_X4_swell g [.ref (ad g k0), .ref (ad g k1)] w none wr := by
  refine met_of (by decide) (Nat.le_of_ble_eq_true rfl) (fun E hl C hR => ?_)
  refine x_sub (L' := [(0, .ref (ad g k0)), (1, .ref (ad g k1))]) [0, 1] rfl ?_
  exact o_X4_swell_b0 C hR hk0 hk1 w hM
abbrev rm_X4_liftOf : Room := { frames := 0, cells := 0, slots := 0, locals := 0 }
set_option maxHeartbeats 1000000 in
set_option maxRecDepth 20000 in
theorem o_X4_liftOf_b44 {E : Ex} {g : Gx} (C : Ctx E RX4 cX4_liftOf rm_X4_liftOf 5 g) {rr : Int32} {wr : Wd} (hR : Rets E g (some .int) (some (.int rr)) wr) {k0 : Nat} (hk0 : kindOf k0 = 4) {k2 : Nat} (hk2 : kindOf k2 = 2) {kh5 : (Int32 → Int32 → Int32 → Wd → Option (Int32 × Wd))} (Hh5 : ∀ (x1 : Int32) (x3 : Int32) (x4 : Int32) (w : Wd), kh5 x1 x3 x4 w = some (rr, wr) → Xx E 5 g 5 [(0, .ref (ad g k0)), (1, .int x1), (2, .ref (ad g k2)), (3, .int x3), (4, .int x4)] [] w) (x1 : Int32) (x3 : Int32) (x4 : Int32) (w : Wd) (hM : f_X4_liftOf_b44 k0 k2 kh5 x1 x3 x4 w = some (rr, wr)) : Xx E 5 g 44 [(0, .ref (ad g k0)), (1, .int x1), (2, .ref (ad g k2)), (3, .int x3), (4, .int x4)] [] w := by
  unfold f_X4_liftOf_b44 at hM
  obtain ⟨x4_1, e_2, hM⟩ := bd hM
  refine x_iinc (L' := [(4, .int x4_1), (0, .ref (ad g k0)), (1, .int x1), (2, .ref (ad g k2)), (3, .int x3)]) C dX4_liftOf_44 4 rfl (v := x4_1) (by rw [e_2]; first | rfl | decide) (by decide) rfl ?_
  refine x_goto (tgt := 5) C dX4_liftOf_47 (by decide) ?_
  refine x_sub (L' := [(0, .ref (ad g k0)), (1, .int x1), (2, .ref (ad g k2)), (3, .int x3), (4, .int x4_1)]) [1, 2, 3, 4, 0] rfl ?_
  exact Hh5 x1 x3 x4_1 w hM
set_option maxHeartbeats 1000000 in
set_option maxRecDepth 20000 in
theorem o_X4_liftOf_h5 {E : Ex} {g : Gx} (C : Ctx E RX4 cX4_liftOf rm_X4_liftOf 5 g) {rr : Int32} {wr : Wd} (hR : Rets E g (some .int) (some (.int rr)) wr) {k0 : Nat} (hk0 : kindOf k0 = 4) {k2 : Nat} (hk2 : kindOf k2 = 2) {kh5 : (Int32 → Int32 → Int32 → Wd → Option (Int32 × Wd))} (Hh5 : ∀ (x1 : Int32) (x3 : Int32) (x4 : Int32) (w : Wd), kh5 x1 x3 x4 w = some (rr, wr) → Xx E 5 g 5 [(0, .ref (ad g k0)), (1, .int x1), (2, .ref (ad g k2)), (3, .int x3), (4, .int x4)] [] w) (x1 : Int32) (x3 : Int32) (x4 : Int32) (w : Wd) (hM : f_X4_liftOf_h5 k0 k2 kh5 x1 x3 x4 w = some (rr, wr)) : Xx E 5 g 5 [(0, .ref (ad g k0)), (1, .int x1), (2, .ref (ad g k2)), (3, .int x3), (4, .int x4)] [] w := by
  unfold f_X4_liftOf_h5 at hM
  refine x_iload C dX4_liftOf_5 4 rfl ?_
  refine x_bipush (v := 6) C dX4_liftOf_7 (by decide) ?_
  refine x_icmp_ge (tgt := 50) C dX4_liftOf_9 (by decide) (fun c_1 => ?_) (fun c_1 => ?_)
  · have hM := ip c_1 hM
    refine x_iload_n C dX4_liftOf_50 3 rfl rfl ?_
    obtain ⟨rfl, rfl⟩ := rt hM
    exact x_iret C hR rfl dX4_liftOf_51
  · have hM := iq c_1 hM
    refine x_iload_n C dX4_liftOf_12 1 rfl rfl ?_
    refine x_iload C dX4_liftOf_13 4 rfl ?_
    refine x_ishr C dX4_liftOf_15 ?_
    refine x_iconst (v := 1) C dX4_liftOf_16 (by decide) ?_
    refine x_iand C dX4_liftOf_17 ?_
    refine x_if_eq (tgt := 44) C dX4_liftOf_18 (by decide) (fun c_2 => ?_) (fun c_2 => ?_)
    · have hM := ip c_2 hM
      refine x_sub (L' := [(0, .ref (ad g k0)), (1, .int x1), (2, .ref (ad g k2)), (3, .int x3), (4, .int x4)]) [0, 1, 2, 3, 4] rfl ?_
      exact o_X4_liftOf_b44 C hR hk0 hk2 Hh5 x1 x3 x4 w hM
    · have hM := iq c_2 hM
      refine x_iload_n C dX4_liftOf_21 3 rfl rfl ?_
      refine x_aload_n C dX4_liftOf_22 0 rfl rfl ?_
      refine xg_4_3 C hk0 gw_200 dX4_liftOf_23 ?_
      refine x_iload C dX4_liftOf_26 4 rfl ?_
      obtain ⟨q_3, hM⟩ := gd hM
      refine x_iald C (kA4_2 hk0) (lA4_2 hk0) q_3 rfl dX4_liftOf_28 ?_
      refine x_aload_n C dX4_liftOf_29 0 rfl rfl ?_
      refine xg_4_1 C hk0 gw_196 dX4_liftOf_30 ?_
      refine x_iadd C dX4_liftOf_33 ?_
      refine x_aload_n C dX4_liftOf_34 2 rfl rfl ?_
      refine xgN_2_4 C hk2 nw_163 dX4_liftOf_35 ?_
      refine x_iload C dX4_liftOf_38 4 rfl ?_
      obtain ⟨q_4, hM⟩ := gd hM
      refine x_iald C (kA2_1 hk2) (lA2_1 hk2) q_4 rfl dX4_liftOf_40 ?_
      refine x_isub C dX4_liftOf_41 ?_
      refine x_iadd C dX4_liftOf_42 ?_
      obtain ⟨x3_5, e_6, hM⟩ := bd hM
      refine x_top e_6 ?_
      refine x_istore_n (L' := [(3, .int x3_5), (0, .ref (ad g k0)), (1, .int x1), (2, .ref (ad g k2)), (4, .int x4)]) C dX4_liftOf_43 rfl (by decide) rfl ?_
      refine x_sub (L' := [(0, .ref (ad g k0)), (1, .int x1), (2, .ref (ad g k2)), (3, .int x3_5), (4, .int x4)]) [1, 2, 3, 0, 4] rfl ?_
      exact o_X4_liftOf_b44 C hR hk0 hk2 Hh5 x1 x3_5 x4 w hM
theorem o_X4_liftOf_l5 {E : Ex} {g : Gx} (C : Ctx E RX4 cX4_liftOf rm_X4_liftOf 5 g) {rr : Int32} {wr : Wd} (hR : Rets E g (some .int) (some (.int rr)) wr) {k0 : Nat} (hk0 : kindOf k0 = 4) {k2 : Nat} (hk2 : kindOf k2 = 2) : ∀ (n : Nat) (x1 : Int32) (x3 : Int32) (x4 : Int32) (w : Wd), f_X4_liftOf_l5 k0 k2 n x1 x3 x4 w = some (rr, wr) → Xx E 5 g 5 [(0, .ref (ad g k0)), (1, .int x1), (2, .ref (ad g k2)), (3, .int x3), (4, .int x4)] [] w := by
  intro n
  induction n with
  | zero =>
    intro x1 x3 x4 w hM
    rw [f_X4_liftOf_l5] at hM
    cases hM
  | succ n ih =>
    intro x1 x3 x4 w hM
    rw [f_X4_liftOf_l5] at hM
    exact o_X4_liftOf_h5 C hR hk0 hk2 ih x1 x3 x4 w hM
set_option maxHeartbeats 1000000 in
set_option maxRecDepth 20000 in
theorem o_X4_liftOf_b0 {E : Ex} {g : Gx} (C : Ctx E RX4 cX4_liftOf rm_X4_liftOf 5 g) {rr : Int32} {wr : Wd} (hR : Rets E g (some .int) (some (.int rr)) wr) {k0 : Nat} (hk0 : kindOf k0 = 4) {k2 : Nat} (hk2 : kindOf k2 = 2) (x1 : Int32) (w : Wd) (hM : f_X4_liftOf_b0 k0 k2 x1 w = some (rr, wr)) : Xx E 5 g 0 [(0, .ref (ad g k0)), (1, .int x1), (2, .ref (ad g k2))] [] w := by
  unfold f_X4_liftOf_b0 at hM
  refine x_iconst (v := 0) C dX4_liftOf_0 (by decide) ?_
  obtain ⟨x3_1, e_2, hM⟩ := bd hM
  refine x_top e_2 ?_
  refine x_istore_n (L' := [(3, .int x3_1), (0, .ref (ad g k0)), (1, .int x1), (2, .ref (ad g k2))]) C dX4_liftOf_1 rfl (by decide) rfl ?_
  refine x_iconst (v := 0) C dX4_liftOf_2 (by decide) ?_
  obtain ⟨x4_3, e_4, hM⟩ := bd hM
  refine x_top e_4 ?_
  refine x_istore (L' := [(4, .int x4_3), (3, .int x3_1), (0, .ref (ad g k0)), (1, .int x1), (2, .ref (ad g k2))]) C dX4_liftOf_3 (by decide) rfl ?_
  refine x_sub (L' := [(0, .ref (ad g k0)), (1, .int x1), (2, .ref (ad g k2)), (3, .int x3_1), (4, .int x4_3)]) [2, 3, 4, 1, 0] rfl ?_
  exact o_X4_liftOf_l5 C hR hk0 hk2 300 x1 x3_1 x4_3 w hM
theorem c_X4_liftOf (l : Launch) (g : Gx) (k0 : Nat) (k2 : Nat) (x1 : Int32) (hk0 : kindOf k0 = 4) (hk2 : kindOf k2 = 2) (w : Wd) {rr : Int32} {wr : Wd} (hM : f_X4_liftOf k0 k2 x1 w = some (rr, wr)) : MetM l yX4_liftOf cX4_liftOf 5 (some .int) rm_X4_liftOf g [.ref (ad g k0), .int x1, .ref (ad g k2)] w (some (.int rr)) wr := by
  refine met_of (by decide) (Nat.le_of_ble_eq_true rfl) (fun E hl C hR => ?_)
  refine x_sub (L' := [(0, .ref (ad g k0)), (1, .int x1), (2, .ref (ad g k2))]) [0, 1, 2] rfl ?_
  exact o_X4_liftOf_b0 C hR hk0 hk2 x1 w hM
abbrev rm_X5_moved : Room := { frames := 1, cells := 0, slots := 0, locals := 13 }
set_option maxHeartbeats 1000000 in
set_option maxRecDepth 20000 in
theorem o_X5_moved_b0 {E : Ex} {g : Gx} (C : Ctx E RX5 cX5_moved rm_X5_moved 2 g) {rr : Int32} {wr : Wd} (hR : Rets E g (some .int) (some (.int rr)) wr) (x0 : Int32) (x1 : Int32) (w : Wd) (hM : f_X5_moved_b0 x0 x1 w = some (rr, wr)) : Xx E 2 g 0 [(0, .int x0), (1, .int x1)] [] w := by
  unfold f_X5_moved_b0 at hM
  refine x_iload_n C dX5_moved_0 1 rfl rfl ?_
  refine x_if_le (tgt := 12) C dX5_moved_1 (by decide) (fun c_1 => ?_) (fun c_1 => ?_)
  · have hM := ip c_1 hM
    refine x_iload_n C dX5_moved_12 1 rfl rfl ?_
    refine x_if_ge (tgt := 27) C dX5_moved_13 (by decide) (fun c_2 => ?_) (fun c_2 => ?_)
    · have hM := ip c_2 hM
      refine x_iload_n C dX5_moved_27 0 rfl rfl ?_
      obtain ⟨rfl, rfl⟩ := rt hM
      exact x_iret C hR rfl dX5_moved_28
    · have hM := iq c_2 hM
      refine x_bipush (v := 10) C dX5_moved_16 (by decide) ?_
      refine x_iload_n C dX5_moved_18 0 rfl rfl ?_
      refine x_iconst (v := 1) C dX5_moved_19 (by decide) ?_
      refine x_iadd C dX5_moved_20 ?_
      refine x_mmin C gw_439 gw_347 gw_90 mc_min (Nat.le_of_ble_eq_true rfl) (Nat.le_of_ble_eq_true rfl) dX5_moved_21 ?_
      refine x_goto (tgt := 28) C dX5_moved_24 (by decide) ?_
      obtain ⟨rfl, rfl⟩ := rt hM
      exact x_iret C hR rfl dX5_moved_28
  · have hM := iq c_1 hM
    refine x_iconst (v := 0) C dX5_moved_4 (by decide) ?_
    refine x_iload_n C dX5_moved_5 0 rfl rfl ?_
    refine x_iconst (v := 1) C dX5_moved_6 (by decide) ?_
    refine x_isub C dX5_moved_7 ?_
    refine x_mmax C gw_499 gw_500 gw_90 mc_max (Nat.le_of_ble_eq_true rfl) (Nat.le_of_ble_eq_true rfl) dX5_moved_8 ?_
    obtain ⟨rfl, rfl⟩ := rt hM
    exact x_iret C hR rfl dX5_moved_11
theorem c_X5_moved (l : Launch) (g : Gx) (x0 : Int32) (x1 : Int32) (w : Wd) {rr : Int32} {wr : Wd} (hM : f_X5_moved x0 x1 w = some (rr, wr)) : MetM l yX5_moved cX5_moved 2 (some .int) rm_X5_moved g [.int x0, .int x1] w (some (.int rr)) wr := by
  refine met_of (by decide) (Nat.le_of_ble_eq_true rfl) (fun E hl C hR => ?_)
  refine x_sub (L' := [(0, .int x0), (1, .int x1)]) [0, 1] rfl ?_
  exact o_X5_moved_b0 C hR x0 x1 w hM
abbrev rm_X4_moveLumps : Room := { frames := 2, cells := 0, slots := 0, locals := 34 }
set_option maxHeartbeats 1000000 in
set_option maxRecDepth 20000 in
theorem o_X4_moveLumps_b42 {E : Ex} {g : Gx} (C : Ctx E RX4 cX4_moveLumps rm_X4_moveLumps 3 g) {rr : Unit} {wr : Wd} (hR : Rets E g none none wr) {k0 : Nat} (hk0 : kindOf k0 = 4) {k1 : Nat} (hk1 : kindOf k1 = 2) {kh2 : (Int32 → Wd → Option (Unit × Wd))} (Hh2 : ∀ (x2 : Int32) (w : Wd), kh2 x2 w = some (rr, wr) → Xx E 3 g 2 [(0, .ref (ad g k0)), (1, .ref (ad g k1)), (2, .int x2)] [] w) (x2 : Int32) (w : Wd) (hM : f_X4_moveLumps_b42 k0 k1 kh2 x2 w = some (rr, wr)) : Xx E 3 g 42 [(0, .ref (ad g k0)), (1, .ref (ad g k1)), (2, .int x2)] [] w := by
  unfold f_X4_moveLumps_b42 at hM
  obtain ⟨x2_1, e_2, hM⟩ := bd hM
  refine x_iinc (L' := [(2, .int x2_1), (0, .ref (ad g k0)), (1, .ref (ad g k1))]) C dX4_moveLumps_42 2 rfl (v := x2_1) (by rw [e_2]; first | rfl | decide) (by decide) rfl ?_
  refine x_goto (tgt := 2) C dX4_moveLumps_45 (by decide) ?_
  refine x_sub (L' := [(0, .ref (ad g k0)), (1, .ref (ad g k1)), (2, .int x2_1)]) [1, 2, 0] rfl ?_
  exact Hh2 x2_1 w hM
set_option maxHeartbeats 1000000 in
set_option maxRecDepth 20000 in
theorem o_X4_moveLumps_h2 {E : Ex} {g : Gx} (C : Ctx E RX4 cX4_moveLumps rm_X4_moveLumps 3 g) {rr : Unit} {wr : Wd} (hR : Rets E g none none wr) {k0 : Nat} (hk0 : kindOf k0 = 4) {k1 : Nat} (hk1 : kindOf k1 = 2) {kh2 : (Int32 → Wd → Option (Unit × Wd))} (Hh2 : ∀ (x2 : Int32) (w : Wd), kh2 x2 w = some (rr, wr) → Xx E 3 g 2 [(0, .ref (ad g k0)), (1, .ref (ad g k1)), (2, .int x2)] [] w) (x2 : Int32) (w : Wd) (hM : f_X4_moveLumps_h2 k0 k1 kh2 x2 w = some (rr, wr)) : Xx E 3 g 2 [(0, .ref (ad g k0)), (1, .ref (ad g k1)), (2, .int x2)] [] w := by
  unfold f_X4_moveLumps_h2 at hM
  refine x_iload_n C dX4_moveLumps_2 2 rfl rfl ?_
  refine x_bipush (v := 6) C dX4_moveLumps_3 (by decide) ?_
  refine x_icmp_ge (tgt := 48) C dX4_moveLumps_5 (by decide) (fun c_1 => ?_) (fun c_1 => ?_)
  · have hM := ip c_1 hM
    obtain ⟨rfl, rfl⟩ := rt hM
    exact x_vret C hR rfl dX4_moveLumps_48
  · have hM := iq c_1 hM
    refine x_aload_n C dX4_moveLumps_8 0 rfl rfl ?_
    refine x_iload_n C dX4_moveLumps_9 2 rfl rfl ?_
    obtain ⟨r_3, w_2, h_4, hM⟩ := cl hM
    refine x_callV (As := [.int x2]) C (c_X4_isDry E.l g k0 x2 hk0 w h_4) k_X4_isDry hk0 (by decide) rfl rfl gw_405 rfl rfl ⟨Nat.le_of_ble_eq_true rfl, Nat.le_of_ble_eq_true rfl⟩ rfl rfl (Nat.le_of_ble_eq_true rfl) dX4_moveLumps_10 ?_
    refine x_if_ne (tgt := 42) C dX4_moveLumps_13 (by decide) (fun c_5 => ?_) (fun c_5 => ?_)
    · have hM := iq c_5 hM
      refine x_sub (L' := [(0, .ref (ad g k0)), (1, .ref (ad g k1)), (2, .int x2)]) [0, 1, 2] rfl ?_
      exact o_X4_moveLumps_b42 C hR hk0 hk1 Hh2 x2 w_2 hM
    · have hM := ip c_5 hM
      refine x_aload_n C dX4_moveLumps_16 0 rfl rfl ?_
      refine xg_4_2 C hk0 gw_198 dX4_moveLumps_17 ?_
      refine x_iload_n C dX4_moveLumps_20 2 rfl rfl ?_
      refine x_aload_n C dX4_moveLumps_21 0 rfl rfl ?_
      refine xg_4_2 C hk0 gw_198 dX4_moveLumps_22 ?_
      refine x_iload_n C dX4_moveLumps_25 2 rfl rfl ?_
      obtain ⟨q_6, hM⟩ := gd hM
      refine x_iald C (kA4_1 hk0) (lA4_1 hk0) q_6 rfl dX4_moveLumps_26 ?_
      refine x_aload_n C dX4_moveLumps_27 0 rfl rfl ?_
      refine x_aload_n C dX4_moveLumps_28 0 rfl rfl ?_
      refine xg_4_4 C hk0 gw_202 dX4_moveLumps_29 ?_
      refine x_iload_n C dX4_moveLumps_32 2 rfl rfl ?_
      obtain ⟨q_7, hM⟩ := gd hM
      refine x_iald C (kA4_3 hk0) (lA4_3 hk0) q_7 rfl dX4_moveLumps_33 ?_
      refine x_aload_n C dX4_moveLumps_34 1 rfl rfl ?_
      obtain ⟨r_9, w_8, h_10, hM⟩ := cl hM
      refine x_callV (As := [.int (wget w_2 (k0 + 3) x2.toNatClampNeg), .ref (ad g k1)]) C (c_X4_liftOf E.l g k0 k1 (wget w_2 (k0 + 3) x2.toNatClampNeg) hk0 hk1 w_2 h_10) k_X4_liftOf hk0 (by decide) rfl rfl gw_492 rfl rfl ⟨Nat.le_of_ble_eq_true rfl, Nat.le_of_ble_eq_true rfl⟩ rfl rfl (Nat.le_of_ble_eq_true rfl) dX4_moveLumps_35 ?_
      obtain ⟨r_12, w_11, h_13, hM⟩ := cl hM
      refine x_callSN (As := [.int (wget w_2 (k0 + 1) x2.toNatClampNeg), .int r_9]) C (c_X5_moved E.l g (wget w_2 (k0 + 1) x2.toNatClampNeg) r_9 w_8 h_13) k_X5_moved nw_496 rfl rfl ⟨Nat.le_of_ble_eq_true rfl, Nat.le_of_ble_eq_true rfl⟩ rfl rfl (Nat.le_of_ble_eq_true rfl) dX4_moveLumps_38 ?_
      obtain ⟨q_14, hM⟩ := gd hM
      obtain ⟨w_15, e_16, hM⟩ := bd hM
      refine x_iast C (kA4_1 hk0) (lA4_1 hk0) q_14 rfl dX4_moveLumps_41 ?_
      refine x_w e_16 ?_
      refine x_sub (L' := [(0, .ref (ad g k0)), (1, .ref (ad g k1)), (2, .int x2)]) [0, 1, 2] rfl ?_
      exact o_X4_moveLumps_b42 C hR hk0 hk1 Hh2 x2 w_15 hM
theorem o_X4_moveLumps_l2 {E : Ex} {g : Gx} (C : Ctx E RX4 cX4_moveLumps rm_X4_moveLumps 3 g) {rr : Unit} {wr : Wd} (hR : Rets E g none none wr) {k0 : Nat} (hk0 : kindOf k0 = 4) {k1 : Nat} (hk1 : kindOf k1 = 2) : ∀ (n : Nat) (x2 : Int32) (w : Wd), f_X4_moveLumps_l2 k0 k1 n x2 w = some (rr, wr) → Xx E 3 g 2 [(0, .ref (ad g k0)), (1, .ref (ad g k1)), (2, .int x2)] [] w := by
  intro n
  induction n with
  | zero =>
    intro x2 w hM
    rw [f_X4_moveLumps_l2] at hM
    cases hM
  | succ n ih =>
    intro x2 w hM
    rw [f_X4_moveLumps_l2] at hM
    exact o_X4_moveLumps_h2 C hR hk0 hk1 ih x2 w hM
set_option maxHeartbeats 1000000 in
set_option maxRecDepth 20000 in
theorem o_X4_moveLumps_b0 {E : Ex} {g : Gx} (C : Ctx E RX4 cX4_moveLumps rm_X4_moveLumps 3 g) {rr : Unit} {wr : Wd} (hR : Rets E g none none wr) {k0 : Nat} (hk0 : kindOf k0 = 4) {k1 : Nat} (hk1 : kindOf k1 = 2) (w : Wd) (hM : f_X4_moveLumps_b0 k0 k1 w = some (rr, wr)) : Xx E 3 g 0 [(0, .ref (ad g k0)), (1, .ref (ad g k1))] [] w := by
  unfold f_X4_moveLumps_b0 at hM
  refine x_iconst (v := 0) C dX4_moveLumps_0 (by decide) ?_
  obtain ⟨x2_1, e_2, hM⟩ := bd hM
  refine x_top e_2 ?_
  refine x_istore_n (L' := [(2, .int x2_1), (0, .ref (ad g k0)), (1, .ref (ad g k1))]) C dX4_moveLumps_1 rfl (by decide) rfl ?_
  refine x_sub (L' := [(0, .ref (ad g k0)), (1, .ref (ad g k1)), (2, .int x2_1)]) [1, 2, 0] rfl ?_
  exact o_X4_moveLumps_l2 C hR hk0 hk1 300 x2_1 w hM
theorem c_X4_moveLumps (l : Launch) (g : Gx) (k0 : Nat) (k1 : Nat) (hk0 : kindOf k0 = 4) (hk1 : kindOf k1 = 2) (w : Wd) {rr : Unit} {wr : Wd} (hM : f_X4_moveLumps k0 k1 w = some (rr, wr)) : MetM l yX4_moveLumps cX4_moveLumps 3 none rm_X4_moveLumps g [.ref (ad g k0), .ref (ad g k1)] w none wr := by
  refine met_of (by decide) (Nat.le_of_ble_eq_true rfl) (fun E hl C hR => ?_)
  refine x_sub (L' := [(0, .ref (ad g k0)), (1, .ref (ad g k1))]) [0, 1] rfl ?_
  exact o_X4_moveLumps_b0 C hR hk0 hk1 w hM
abbrev rm_X4_canStick : Room := { frames := 1, cells := 0, slots := 0, locals := 13 }
set_option maxHeartbeats 1000000 in
set_option maxRecDepth 20000 in
theorem o_X4_canStick_b25 {E : Ex} {g : Gx} (C : Ctx E RX4 cX4_canStick rm_X4_canStick 5 g) {rr : Int32} {wr : Wd} (hR : Rets E g (some .boolean) (some (.int rr)) wr) {k0 : Nat} (hk0 : kindOf k0 = 4) (x1 : Int32) (x2 : Int32) (x3 : Int32) (w : Wd) (hM : f_X4_canStick_b25 k0 x1 x2 x3 w = some (rr, wr)) : Xx E 5 g 25 [(0, .ref (ad g k0)), (1, .int x1), (2, .int x2), (3, .int x3)] [] w := by
  unfold f_X4_canStick_b25 at hM
  refine x_iconst (v := 0) C dX4_canStick_25 (by decide) ?_
  obtain ⟨x4_1, e_2, hM⟩ := bd hM
  refine x_top e_2 ?_
  refine x_istore (L' := [(4, .int x4_1), (0, .ref (ad g k0)), (1, .int x1), (2, .int x2), (3, .int x3)]) C dX4_canStick_26 (by decide) rfl ?_
  refine x_iload C dX4_canStick_28 0 rfl ?_
  refine x_if_eq (tgt := 85) C dX4_canStick_30 (by decide) (fun c_3 => ?_) (fun c_3 => ?_)
  · have hM := ip c_3 hM
    refine x_iconst (v := 0) C dX4_canStick_85 (by decide) ?_
    obtain ⟨rfl, rfl⟩ := rt hM
    exact x_zret C hR (by rfl) rfl dX4_canStick_86
  · have hM := iq c_3 hM
    refine x_aload_n C dX4_canStick_33 1 rfl rfl ?_
    refine xg_4_2 C hk0 gw_198 dX4_canStick_34 ?_
    refine x_iload_n C dX4_canStick_37 3 rfl rfl ?_
    obtain ⟨q_4, hM⟩ := gd hM
    refine x_iald C (kA4_1 hk0) (lA4_1 hk0) q_4 rfl dX4_canStick_38 ?_
    refine x_aload_n C dX4_canStick_39 1 rfl rfl ?_
    refine xg_4_2 C hk0 gw_198 dX4_canStick_40 ?_
    refine x_iload_n C dX4_canStick_43 2 rfl rfl ?_
    obtain ⟨q_5, hM⟩ := gd hM
    refine x_iald C (kA4_1 hk0) (lA4_1 hk0) q_5 rfl dX4_canStick_44 ?_
    refine x_icmp_ne (tgt := 85) C dX4_canStick_45 (by decide) (fun c_6 => ?_) (fun c_6 => ?_)
    · have hM := iq c_6 hM
      refine x_iconst (v := 0) C dX4_canStick_85 (by decide) ?_
      obtain ⟨rfl, rfl⟩ := rt hM
      exact x_zret C hR (by rfl) rfl dX4_canStick_86
    · have hM := ip c_6 hM
      refine x_aload_n C dX4_canStick_48 1 rfl rfl ?_
      refine xg_4_4 C hk0 gw_202 dX4_canStick_49 ?_
      refine x_iload_n C dX4_canStick_52 2 rfl rfl ?_
      obtain ⟨q_7, hM⟩ := gd hM
      refine x_iald C (kA4_3 hk0) (lA4_3 hk0) q_7 rfl dX4_canStick_53 ?_
      refine x_iload_n C dX4_canStick_54 3 rfl rfl ?_
      refine x_ishr C dX4_canStick_55 ?_
      refine x_iconst (v := 1) C dX4_canStick_56 (by decide) ?_
      refine x_iand C dX4_canStick_57 ?_
      refine x_if_ne (tgt := 85) C dX4_canStick_58 (by decide) (fun c_8 => ?_) (fun c_8 => ?_)
      · have hM := iq c_8 hM
        refine x_iconst (v := 0) C dX4_canStick_85 (by decide) ?_
        obtain ⟨rfl, rfl⟩ := rt hM
        exact x_zret C hR (by rfl) rfl dX4_canStick_86
      · have hM := ip c_8 hM
        refine x_aload_n C dX4_canStick_61 1 rfl rfl ?_
        refine xg_4_3 C hk0 gw_200 dX4_canStick_62 ?_
        refine x_iload_n C dX4_canStick_65 2 rfl rfl ?_
        obtain ⟨q_9, hM⟩ := gd hM
        refine x_iald C (kA4_2 hk0) (lA4_2 hk0) q_9 rfl dX4_canStick_66 ?_
        refine x_aload_n C dX4_canStick_67 1 rfl rfl ?_
        refine xg_4_3 C hk0 gw_200 dX4_canStick_68 ?_
        refine x_iload_n C dX4_canStick_71 3 rfl rfl ?_
        obtain ⟨q_10, hM⟩ := gd hM
        refine x_iald C (kA4_2 hk0) (lA4_2 hk0) q_10 rfl dX4_canStick_72 ?_
        refine x_isub C dX4_canStick_73 ?_
        refine x_mabs (y := 0) C gw_510 gw_511 gw_90 mc_abs (Nat.le_of_ble_eq_true rfl) (Nat.le_of_ble_eq_true rfl) dX4_canStick_74 ?_
        refine x_iload_n C dX4_canStick_77 4 rfl rfl ?_
        refine x_icmp_gt (tgt := 85) C dX4_canStick_78 (by decide) (fun c_11 => ?_) (fun c_11 => ?_)
        · have hM := ip c_11 hM
          refine x_iconst (v := 0) C dX4_canStick_85 (by decide) ?_
          obtain ⟨rfl, rfl⟩ := rt hM
          exact x_zret C hR (by rfl) rfl dX4_canStick_86
        · have hM := iq c_11 hM
          refine x_iconst (v := 1) C dX4_canStick_81 (by decide) ?_
          refine x_goto (tgt := 86) C dX4_canStick_82 (by decide) ?_
          obtain ⟨rfl, rfl⟩ := rt hM
          exact x_zret C hR (by rfl) rfl dX4_canStick_86
set_option maxHeartbeats 1000000 in
set_option maxRecDepth 20000 in
theorem o_X4_canStick_b0 {E : Ex} {g : Gx} (C : Ctx E RX4 cX4_canStick rm_X4_canStick 5 g) {rr : Int32} {wr : Wd} (hR : Rets E g (some .boolean) (some (.int rr)) wr) {k0 : Nat} (hk0 : kindOf k0 = 4) (x1 : Int32) (x2 : Int32) (x3 : Int32) (w : Wd) (hM : f_X4_canStick_b0 k0 x1 x2 x3 w = some (rr, wr)) : Xx E 5 g 0 [(0, .ref (ad g k0)), (1, .int x1), (2, .int x2), (3, .int x3)] [] w := by
  unfold f_X4_canStick_b0 at hM
  refine x_aload_n C dX4_canStick_0 0 rfl rfl ?_
  refine xg_4_2 C hk0 gw_198 dX4_canStick_1 ?_
  refine x_iload_n C dX4_canStick_4 1 rfl rfl ?_
  obtain ⟨q_1, hM⟩ := gd hM
  refine x_iald C (kA4_1 hk0) (lA4_1 hk0) q_1 rfl dX4_canStick_5 ?_
  refine x_iconst (v := 1) C dX4_canStick_6 (by decide) ?_
  refine x_icmp_lt (tgt := 25) C dX4_canStick_7 (by decide) (fun c_2 => ?_) (fun c_2 => ?_)
  · have hM := ip c_2 hM
    refine x_sub (L' := [(0, .ref (ad g k0)), (1, .int x1), (2, .int x2), (3, .int x3)]) [0, 1, 2, 3] rfl ?_
    exact o_X4_canStick_b25 C hR hk0 x1 x2 x3 w hM
  · have hM := iq c_2 hM
    refine x_aload_n C dX4_canStick_10 0 rfl rfl ?_
    refine xg_4_2 C hk0 gw_198 dX4_canStick_11 ?_
    refine x_iload_n C dX4_canStick_14 1 rfl rfl ?_
    obtain ⟨q_3, hM⟩ := gd hM
    refine x_iald C (kA4_1 hk0) (lA4_1 hk0) q_3 rfl dX4_canStick_15 ?_
    refine x_bipush (v := 10) C dX4_canStick_16 (by decide) ?_
    refine x_icmp_ge (tgt := 25) C dX4_canStick_18 (by decide) (fun c_4 => ?_) (fun c_4 => ?_)
    · have hM := ip c_4 hM
      refine x_sub (L' := [(0, .ref (ad g k0)), (1, .int x1), (2, .int x2), (3, .int x3)]) [0, 1, 2, 3] rfl ?_
      exact o_X4_canStick_b25 C hR hk0 x1 x2 x3 w hM
    · have hM := iq c_4 hM
      refine x_iconst (v := 1) C dX4_canStick_21 (by decide) ?_
      refine x_goto (tgt := 26) C dX4_canStick_22 (by decide) ?_
      obtain ⟨x4_5, e_6, hM⟩ := bd hM
      refine x_top e_6 ?_
      refine x_istore (L' := [(4, .int x4_5), (0, .ref (ad g k0)), (1, .int x1), (2, .int x2), (3, .int x3)]) C dX4_canStick_26 (by decide) rfl ?_
      refine x_iload C dX4_canStick_28 0 rfl ?_
      refine x_if_eq (tgt := 85) C dX4_canStick_30 (by decide) (fun c_7 => ?_) (fun c_7 => ?_)
      · have hM := ip c_7 hM
        refine x_iconst (v := 0) C dX4_canStick_85 (by decide) ?_
        obtain ⟨rfl, rfl⟩ := rt hM
        exact x_zret C hR (by rfl) rfl dX4_canStick_86
      · have hM := iq c_7 hM
        refine x_aload_n C dX4_canStick_33 1 rfl rfl ?_
        refine xg_4_2 C hk0 gw_198 dX4_canStick_34 ?_
        refine x_iload_n C dX4_canStick_37 3 rfl rfl ?_
        obtain ⟨q_8, hM⟩ := gd hM
        refine x_iald C (kA4_1 hk0) (lA4_1 hk0) q_8 rfl dX4_canStick_38 ?_
        refine x_aload_n C dX4_canStick_39 1 rfl rfl ?_
        refine xg_4_2 C hk0 gw_198 dX4_canStick_40 ?_
        refine x_iload_n C dX4_canStick_43 2 rfl rfl ?_
        obtain ⟨q_9, hM⟩ := gd hM
        refine x_iald C (kA4_1 hk0) (lA4_1 hk0) q_9 rfl dX4_canStick_44 ?_
        refine x_icmp_ne (tgt := 85) C dX4_canStick_45 (by decide) (fun c_10 => ?_) (fun c_10 => ?_)
        · have hM := iq c_10 hM
          refine x_iconst (v := 0) C dX4_canStick_85 (by decide) ?_
          obtain ⟨rfl, rfl⟩ := rt hM
          exact x_zret C hR (by rfl) rfl dX4_canStick_86
        · have hM := ip c_10 hM
          refine x_aload_n C dX4_canStick_48 1 rfl rfl ?_
          refine xg_4_4 C hk0 gw_202 dX4_canStick_49 ?_
          refine x_iload_n C dX4_canStick_52 2 rfl rfl ?_
          obtain ⟨q_11, hM⟩ := gd hM
          refine x_iald C (kA4_3 hk0) (lA4_3 hk0) q_11 rfl dX4_canStick_53 ?_
          refine x_iload_n C dX4_canStick_54 3 rfl rfl ?_
          refine x_ishr C dX4_canStick_55 ?_
          refine x_iconst (v := 1) C dX4_canStick_56 (by decide) ?_
          refine x_iand C dX4_canStick_57 ?_
          refine x_if_ne (tgt := 85) C dX4_canStick_58 (by decide) (fun c_12 => ?_) (fun c_12 => ?_)
          · have hM := iq c_12 hM
            refine x_iconst (v := 0) C dX4_canStick_85 (by decide) ?_
            obtain ⟨rfl, rfl⟩ := rt hM
            exact x_zret C hR (by rfl) rfl dX4_canStick_86
          · have hM := ip c_12 hM
            refine x_aload_n C dX4_canStick_61 1 rfl rfl ?_
            refine xg_4_3 C hk0 gw_200 dX4_canStick_62 ?_
            refine x_iload_n C dX4_canStick_65 2 rfl rfl ?_
            obtain ⟨q_13, hM⟩ := gd hM
            refine x_iald C (kA4_2 hk0) (lA4_2 hk0) q_13 rfl dX4_canStick_66 ?_
            refine x_aload_n C dX4_canStick_67 1 rfl rfl ?_
            refine xg_4_3 C hk0 gw_200 dX4_canStick_68 ?_
            refine x_iload_n C dX4_canStick_71 3 rfl rfl ?_
            obtain ⟨q_14, hM⟩ := gd hM
            refine x_iald C (kA4_2 hk0) (lA4_2 hk0) q_14 rfl dX4_canStick_72 ?_
            refine x_isub C dX4_canStick_73 ?_
            refine x_mabs (y := 0) C gw_510 gw_511 gw_90 mc_abs (Nat.le_of_ble_eq_true rfl) (Nat.le_of_ble_eq_true rfl) dX4_canStick_74 ?_
            refine x_iload_n C dX4_canStick_77 4 rfl rfl ?_
            refine x_icmp_gt (tgt := 85) C dX4_canStick_78 (by decide) (fun c_15 => ?_) (fun c_15 => ?_)
            · have hM := ip c_15 hM
              refine x_iconst (v := 0) C dX4_canStick_85 (by decide) ?_
              obtain ⟨rfl, rfl⟩ := rt hM
              exact x_zret C hR (by rfl) rfl dX4_canStick_86
            · have hM := iq c_15 hM
              refine x_iconst (v := 1) C dX4_canStick_81 (by decide) ?_
              refine x_goto (tgt := 86) C dX4_canStick_82 (by decide) ?_
              obtain ⟨rfl, rfl⟩ := rt hM
              exact x_zret C hR (by rfl) rfl dX4_canStick_86
theorem c_X4_canStick (l : Launch) (g : Gx) (k0 : Nat) (x1 : Int32) (x2 : Int32) (x3 : Int32) (hk0 : kindOf k0 = 4) (w : Wd) {rr : Int32} {wr : Wd} (hM : f_X4_canStick k0 x1 x2 x3 w = some (rr, wr)) : MetM l yX4_canStick cX4_canStick 5 (some .boolean) rm_X4_canStick g [.ref (ad g k0), .int x1, .int x2, .int x3] w (some (.int rr)) wr := by
  refine met_of (by decide) (Nat.le_of_ble_eq_true rfl) (fun E hl C hR => ?_)
  refine x_sub (L' := [(0, .ref (ad g k0)), (1, .int x1), (2, .int x2), (3, .int x3)]) [0, 1, 2, 3] rfl ?_
  exact o_X4_canStick_b0 C hR hk0 x1 x2 x3 w hM
abbrev rm_X4_join : Room := { frames := 0, cells := 0, slots := 0, locals := 0 }
set_option maxHeartbeats 1000000 in
set_option maxRecDepth 20000 in
theorem o_X4_join_b23 {E : Ex} {g : Gx} (C : Ctx E RX4 cX4_join rm_X4_join 3 g) {rr : Unit} {wr : Wd} (hR : Rets E g none none wr) {k0 : Nat} (hk0 : kindOf k0 = 4) {kh2 : (Int32 → Int32 → Wd → Option (Unit × Wd))} (Hh2 : ∀ (x1 : Int32) (x2 : Int32) (w : Wd), kh2 x1 x2 w = some (rr, wr) → Xx E 3 g 2 [(0, .ref (ad g k0)), (1, .int x1), (2, .int x2)] [] w) (x1 : Int32) (x2 : Int32) (w : Wd) (hM : f_X4_join_b23 k0 kh2 x1 x2 w = some (rr, wr)) : Xx E 3 g 23 [(0, .ref (ad g k0)), (1, .int x1), (2, .int x2)] [] w := by
  unfold f_X4_join_b23 at hM
  obtain ⟨x2_1, e_2, hM⟩ := bd hM
  refine x_iinc (L' := [(2, .int x2_1), (0, .ref (ad g k0)), (1, .int x1)]) C dX4_join_23 2 rfl (v := x2_1) (by rw [e_2]; first | rfl | decide) (by decide) rfl ?_
  refine x_goto (tgt := 2) C dX4_join_26 (by decide) ?_
  refine x_sub (L' := [(0, .ref (ad g k0)), (1, .int x1), (2, .int x2_1)]) [1, 2, 0] rfl ?_
  exact Hh2 x1 x2_1 w hM
set_option maxHeartbeats 1000000 in
set_option maxRecDepth 20000 in
theorem o_X4_join_h2 {E : Ex} {g : Gx} (C : Ctx E RX4 cX4_join rm_X4_join 3 g) {rr : Unit} {wr : Wd} (hR : Rets E g none none wr) {k0 : Nat} (hk0 : kindOf k0 = 4) {kh2 : (Int32 → Int32 → Wd → Option (Unit × Wd))} (Hh2 : ∀ (x1 : Int32) (x2 : Int32) (w : Wd), kh2 x1 x2 w = some (rr, wr) → Xx E 3 g 2 [(0, .ref (ad g k0)), (1, .int x1), (2, .int x2)] [] w) (x1 : Int32) (x2 : Int32) (w : Wd) (hM : f_X4_join_h2 k0 kh2 x1 x2 w = some (rr, wr)) : Xx E 3 g 2 [(0, .ref (ad g k0)), (1, .int x1), (2, .int x2)] [] w := by
  unfold f_X4_join_h2 at hM
  refine x_iload_n C dX4_join_2 2 rfl rfl ?_
  refine x_bipush (v := 6) C dX4_join_3 (by decide) ?_
  refine x_icmp_ge (tgt := 29) C dX4_join_5 (by decide) (fun c_1 => ?_) (fun c_1 => ?_)
  · have hM := ip c_1 hM
    obtain ⟨rfl, rfl⟩ := rt hM
    exact x_vret C hR rfl dX4_join_29
  · have hM := iq c_1 hM
    refine x_iload_n C dX4_join_8 1 rfl rfl ?_
    refine x_iload_n C dX4_join_9 2 rfl rfl ?_
    refine x_ishr C dX4_join_10 ?_
    refine x_iconst (v := 1) C dX4_join_11 (by decide) ?_
    refine x_iand C dX4_join_12 ?_
    refine x_if_eq (tgt := 23) C dX4_join_13 (by decide) (fun c_2 => ?_) (fun c_2 => ?_)
    · have hM := ip c_2 hM
      refine x_sub (L' := [(0, .ref (ad g k0)), (1, .int x1), (2, .int x2)]) [0, 1, 2] rfl ?_
      exact o_X4_join_b23 C hR hk0 Hh2 x1 x2 w hM
    · have hM := iq c_2 hM
      refine x_aload_n C dX4_join_16 0 rfl rfl ?_
      refine xg_4_4 C hk0 gw_202 dX4_join_17 ?_
      refine x_iload_n C dX4_join_20 2 rfl rfl ?_
      refine x_iload_n C dX4_join_21 1 rfl rfl ?_
      obtain ⟨q_3, hM⟩ := gd hM
      obtain ⟨w_4, e_5, hM⟩ := bd hM
      refine x_iast C (kA4_3 hk0) (lA4_3 hk0) q_3 rfl dX4_join_22 ?_
      refine x_w e_5 ?_
      refine x_sub (L' := [(0, .ref (ad g k0)), (1, .int x1), (2, .int x2)]) [0, 1, 2] rfl ?_
      exact o_X4_join_b23 C hR hk0 Hh2 x1 x2 w_4 hM
theorem o_X4_join_l2 {E : Ex} {g : Gx} (C : Ctx E RX4 cX4_join rm_X4_join 3 g) {rr : Unit} {wr : Wd} (hR : Rets E g none none wr) {k0 : Nat} (hk0 : kindOf k0 = 4) : ∀ (n : Nat) (x1 : Int32) (x2 : Int32) (w : Wd), f_X4_join_l2 k0 n x1 x2 w = some (rr, wr) → Xx E 3 g 2 [(0, .ref (ad g k0)), (1, .int x1), (2, .int x2)] [] w := by
  intro n
  induction n with
  | zero =>
    intro x1 x2 w hM
    rw [f_X4_join_l2] at hM
    cases hM
  | succ n ih =>
    intro x1 x2 w hM
    rw [f_X4_join_l2] at hM
    exact o_X4_join_h2 C hR hk0 ih x1 x2 w hM
set_option maxHeartbeats 1000000 in
set_option maxRecDepth 20000 in
theorem o_X4_join_b0 {E : Ex} {g : Gx} (C : Ctx E RX4 cX4_join rm_X4_join 3 g) {rr : Unit} {wr : Wd} (hR : Rets E g none none wr) {k0 : Nat} (hk0 : kindOf k0 = 4) (x1 : Int32) (w : Wd) (hM : f_X4_join_b0 k0 x1 w = some (rr, wr)) : Xx E 3 g 0 [(0, .ref (ad g k0)), (1, .int x1)] [] w := by
  unfold f_X4_join_b0 at hM
  refine x_iconst (v := 0) C dX4_join_0 (by decide) ?_
  obtain ⟨x2_1, e_2, hM⟩ := bd hM
  refine x_top e_2 ?_
  refine x_istore_n (L' := [(2, .int x2_1), (0, .ref (ad g k0)), (1, .int x1)]) C dX4_join_1 rfl (by decide) rfl ?_
  refine x_sub (L' := [(0, .ref (ad g k0)), (1, .int x1), (2, .int x2_1)]) [1, 2, 0] rfl ?_
  exact o_X4_join_l2 C hR hk0 300 x1 x2_1 w hM
theorem c_X4_join (l : Launch) (g : Gx) (k0 : Nat) (x1 : Int32) (hk0 : kindOf k0 = 4) (w : Wd) {rr : Unit} {wr : Wd} (hM : f_X4_join k0 x1 w = some (rr, wr)) : MetM l yX4_join cX4_join 3 none rm_X4_join g [.ref (ad g k0), .int x1] w none wr := by
  refine met_of (by decide) (Nat.le_of_ble_eq_true rfl) (fun E hl C hR => ?_)
  refine x_sub (L' := [(0, .ref (ad g k0)), (1, .int x1)]) [0, 1] rfl ?_
  exact o_X4_join_b0 C hR hk0 x1 w hM
abbrev rm_X4_stick : Room := { frames := 2, cells := 0, slots := 0, locals := 37 }
set_option maxHeartbeats 1000000 in
set_option maxRecDepth 20000 in
theorem o_X4_stick_b45 {E : Ex} {g : Gx} (C : Ctx E RX4 cX4_stick rm_X4_stick 4 g) {rr : Unit} {wr : Wd} (hR : Rets E g none none wr) {k0 : Nat} (hk0 : kindOf k0 = 4) {kh2 : (Int32 → Int32 → Wd → Option (Unit × Wd))} (Hh2 : ∀ (x1 : Int32) (x2 : Int32) (w : Wd), kh2 x1 x2 w = some (rr, wr) → Xx E 4 g 2 [(0, .ref (ad g k0)), (1, .int x1), (2, .int x2)] [] w) {kh12 : (Int32 → Int32 → Int32 → Wd → Option (Unit × Wd))} (Hh12 : ∀ (x1 : Int32) (x2 : Int32) (x3 : Int32) (w : Wd), kh12 x1 x2 x3 w = some (rr, wr) → Xx E 4 g 12 [(0, .ref (ad g k0)), (1, .int x1), (2, .int x2), (3, .int x3)] [] w) (x1 : Int32) (x2 : Int32) (x3 : Int32) (w : Wd) (hM : f_X4_stick_b45 k0 kh2 kh12 x1 x2 x3 w = some (rr, wr)) : Xx E 4 g 45 [(0, .ref (ad g k0)), (1, .int x1), (2, .int x2), (3, .int x3)] [] w := by
  unfold f_X4_stick_b45 at hM
  obtain ⟨x3_1, e_2, hM⟩ := bd hM
  refine x_iinc (L' := [(3, .int x3_1), (0, .ref (ad g k0)), (1, .int x1), (2, .int x2)]) C dX4_stick_45 3 rfl (v := x3_1) (by rw [e_2]; first | rfl | decide) (by decide) rfl ?_
  refine x_goto (tgt := 12) C dX4_stick_48 (by decide) ?_
  refine x_sub (L' := [(0, .ref (ad g k0)), (1, .int x1), (2, .int x2), (3, .int x3_1)]) [1, 2, 3, 0] rfl ?_
  exact Hh12 x1 x2 x3_1 w hM
set_option maxHeartbeats 1000000 in
set_option maxRecDepth 20000 in
theorem o_X4_stick_h12 {E : Ex} {g : Gx} (C : Ctx E RX4 cX4_stick rm_X4_stick 4 g) {rr : Unit} {wr : Wd} (hR : Rets E g none none wr) {k0 : Nat} (hk0 : kindOf k0 = 4) {kh2 : (Int32 → Int32 → Wd → Option (Unit × Wd))} (Hh2 : ∀ (x1 : Int32) (x2 : Int32) (w : Wd), kh2 x1 x2 w = some (rr, wr) → Xx E 4 g 2 [(0, .ref (ad g k0)), (1, .int x1), (2, .int x2)] [] w) {kh12 : (Int32 → Int32 → Int32 → Wd → Option (Unit × Wd))} (Hh12 : ∀ (x1 : Int32) (x2 : Int32) (x3 : Int32) (w : Wd), kh12 x1 x2 x3 w = some (rr, wr) → Xx E 4 g 12 [(0, .ref (ad g k0)), (1, .int x1), (2, .int x2), (3, .int x3)] [] w) (x1 : Int32) (x2 : Int32) (x3 : Int32) (w : Wd) (hM : f_X4_stick_h12 k0 kh2 kh12 x1 x2 x3 w = some (rr, wr)) : Xx E 4 g 12 [(0, .ref (ad g k0)), (1, .int x1), (2, .int x2), (3, .int x3)] [] w := by
  unfold f_X4_stick_h12 at hM
  refine x_iload_n C dX4_stick_12 3 rfl rfl ?_
  refine x_bipush (v := 6) C dX4_stick_13 (by decide) ?_
  refine x_icmp_ge (tgt := 51) C dX4_stick_15 (by decide) (fun c_1 => ?_) (fun c_1 => ?_)
  · have hM := ip c_1 hM
    obtain ⟨x2_2, e_3, hM⟩ := bd hM
    refine x_iinc (L' := [(2, .int x2_2), (0, .ref (ad g k0)), (1, .int x1), (3, .int x3)]) C dX4_stick_51 2 rfl (v := x2_2) (by rw [e_3]; first | rfl | decide) (by decide) rfl ?_
    refine x_goto (tgt := 2) C dX4_stick_54 (by decide) ?_
    refine x_sub (L' := [(0, .ref (ad g k0)), (1, .int x1), (2, .int x2_2)]) [1, 2, 0] rfl ?_
    exact Hh2 x1 x2_2 w hM
  · have hM := iq c_1 hM
    refine x_aload_n C dX4_stick_18 0 rfl rfl ?_
    refine x_iload_n C dX4_stick_19 2 rfl rfl ?_
    refine x_iload_n C dX4_stick_20 3 rfl rfl ?_
    refine x_iload_n C dX4_stick_21 1 rfl rfl ?_
    obtain ⟨r_5, w_4, h_6, hM⟩ := cl hM
    refine x_callV (As := [.int x2, .int x3, .int x1]) C (c_X4_canStick E.l g k0 x2 x3 x1 hk0 w h_6) k_X4_canStick hk0 (by decide) rfl rfl gw_506 rfl rfl ⟨Nat.le_of_ble_eq_true rfl, Nat.le_of_ble_eq_true rfl⟩ rfl rfl (Nat.le_of_ble_eq_true rfl) dX4_stick_22 ?_
    refine x_if_eq (tgt := 45) C dX4_stick_25 (by decide) (fun c_7 => ?_) (fun c_7 => ?_)
    · have hM := ip c_7 hM
      refine x_sub (L' := [(0, .ref (ad g k0)), (1, .int x1), (2, .int x2), (3, .int x3)]) [0, 1, 2, 3] rfl ?_
      exact o_X4_stick_b45 C hR hk0 Hh2 Hh12 x1 x2 x3 w_4 hM
    · have hM := iq c_7 hM
      refine x_aload_n C dX4_stick_28 0 rfl rfl ?_
      refine x_aload_n C dX4_stick_29 0 rfl rfl ?_
      refine xg_4_4 C hk0 gw_202 dX4_stick_30 ?_
      refine x_iload_n C dX4_stick_33 2 rfl rfl ?_
      obtain ⟨q_8, hM⟩ := gd hM
      refine x_iald C (kA4_3 hk0) (lA4_3 hk0) q_8 rfl dX4_stick_34 ?_
      refine x_aload_n C dX4_stick_35 0 rfl rfl ?_
      refine xg_4_4 C hk0 gw_202 dX4_stick_36 ?_
      refine x_iload_n C dX4_stick_39 3 rfl rfl ?_
      obtain ⟨q_9, hM⟩ := gd hM
      refine x_iald C (kA4_3 hk0) (lA4_3 hk0) q_9 rfl dX4_stick_40 ?_
      refine x_ior C dX4_stick_41 ?_
      obtain ⟨r_11, w_10, h_12, hM⟩ := cl hM
      refine x_callVv (As := [.int ((wget w_4 (k0 + 3) x2.toNatClampNeg) ||| (wget w_4 (k0 + 3) x3.toNatClampNeg))]) C (c_X4_join E.l g k0 ((wget w_4 (k0 + 3) x2.toNatClampNeg) ||| (wget w_4 (k0 + 3) x3.toNatClampNeg)) hk0 w_4 h_12) k_X4_join hk0 (by decide) rfl rfl gw_513 rfl rfl ⟨Nat.le_of_ble_eq_true rfl, Nat.le_of_ble_eq_true rfl⟩ rfl rfl (Nat.le_of_ble_eq_true rfl) dX4_stick_42 ?_
      refine x_sub (L' := [(0, .ref (ad g k0)), (1, .int x1), (2, .int x2), (3, .int x3)]) [0, 1, 2, 3] rfl ?_
      exact o_X4_stick_b45 C hR hk0 Hh2 Hh12 x1 x2 x3 w_10 hM
theorem o_X4_stick_l12 {E : Ex} {g : Gx} (C : Ctx E RX4 cX4_stick rm_X4_stick 4 g) {rr : Unit} {wr : Wd} (hR : Rets E g none none wr) {k0 : Nat} (hk0 : kindOf k0 = 4) {kh2 : (Int32 → Int32 → Wd → Option (Unit × Wd))} (Hh2 : ∀ (x1 : Int32) (x2 : Int32) (w : Wd), kh2 x1 x2 w = some (rr, wr) → Xx E 4 g 2 [(0, .ref (ad g k0)), (1, .int x1), (2, .int x2)] [] w) : ∀ (n : Nat) (x1 : Int32) (x2 : Int32) (x3 : Int32) (w : Wd), f_X4_stick_l12 k0 kh2 n x1 x2 x3 w = some (rr, wr) → Xx E 4 g 12 [(0, .ref (ad g k0)), (1, .int x1), (2, .int x2), (3, .int x3)] [] w := by
  intro n
  induction n with
  | zero =>
    intro x1 x2 x3 w hM
    rw [f_X4_stick_l12] at hM
    cases hM
  | succ n ih =>
    intro x1 x2 x3 w hM
    rw [f_X4_stick_l12] at hM
    exact o_X4_stick_h12 C hR hk0 Hh2 ih x1 x2 x3 w hM
set_option maxHeartbeats 1000000 in
set_option maxRecDepth 20000 in
theorem o_X4_stick_h2 {E : Ex} {g : Gx} (C : Ctx E RX4 cX4_stick rm_X4_stick 4 g) {rr : Unit} {wr : Wd} (hR : Rets E g none none wr) {k0 : Nat} (hk0 : kindOf k0 = 4) {kh2 : (Int32 → Int32 → Wd → Option (Unit × Wd))} (Hh2 : ∀ (x1 : Int32) (x2 : Int32) (w : Wd), kh2 x1 x2 w = some (rr, wr) → Xx E 4 g 2 [(0, .ref (ad g k0)), (1, .int x1), (2, .int x2)] [] w) (x1 : Int32) (x2 : Int32) (w : Wd) (hM : f_X4_stick_h2 k0 kh2 x1 x2 w = some (rr, wr)) : Xx E 4 g 2 [(0, .ref (ad g k0)), (1, .int x1), (2, .int x2)] [] w := by
  unfold f_X4_stick_h2 at hM
  refine x_iload_n C dX4_stick_2 2 rfl rfl ?_
  refine x_bipush (v := 6) C dX4_stick_3 (by decide) ?_
  refine x_icmp_ge (tgt := 57) C dX4_stick_5 (by decide) (fun c_1 => ?_) (fun c_1 => ?_)
  · have hM := ip c_1 hM
    obtain ⟨rfl, rfl⟩ := rt hM
    exact x_vret C hR rfl dX4_stick_57
  · have hM := iq c_1 hM
    refine x_iload_n C dX4_stick_8 2 rfl rfl ?_
    refine x_iconst (v := 1) C dX4_stick_9 (by decide) ?_
    refine x_iadd C dX4_stick_10 ?_
    obtain ⟨x3_2, e_3, hM⟩ := bd hM
    refine x_top e_3 ?_
    refine x_istore_n (L' := [(3, .int x3_2), (0, .ref (ad g k0)), (1, .int x1), (2, .int x2)]) C dX4_stick_11 rfl (by decide) rfl ?_
    refine x_sub (L' := [(0, .ref (ad g k0)), (1, .int x1), (2, .int x2), (3, .int x3_2)]) [1, 2, 3, 0] rfl ?_
    exact o_X4_stick_l12 C hR hk0 Hh2 300 x1 x2 x3_2 w hM
theorem o_X4_stick_l2 {E : Ex} {g : Gx} (C : Ctx E RX4 cX4_stick rm_X4_stick 4 g) {rr : Unit} {wr : Wd} (hR : Rets E g none none wr) {k0 : Nat} (hk0 : kindOf k0 = 4) : ∀ (n : Nat) (x1 : Int32) (x2 : Int32) (w : Wd), f_X4_stick_l2 k0 n x1 x2 w = some (rr, wr) → Xx E 4 g 2 [(0, .ref (ad g k0)), (1, .int x1), (2, .int x2)] [] w := by
  intro n
  induction n with
  | zero =>
    intro x1 x2 w hM
    rw [f_X4_stick_l2] at hM
    cases hM
  | succ n ih =>
    intro x1 x2 w hM
    rw [f_X4_stick_l2] at hM
    exact o_X4_stick_h2 C hR hk0 ih x1 x2 w hM
set_option maxHeartbeats 1000000 in
set_option maxRecDepth 20000 in
theorem o_X4_stick_b0 {E : Ex} {g : Gx} (C : Ctx E RX4 cX4_stick rm_X4_stick 4 g) {rr : Unit} {wr : Wd} (hR : Rets E g none none wr) {k0 : Nat} (hk0 : kindOf k0 = 4) (x1 : Int32) (w : Wd) (hM : f_X4_stick_b0 k0 x1 w = some (rr, wr)) : Xx E 4 g 0 [(0, .ref (ad g k0)), (1, .int x1)] [] w := by
  unfold f_X4_stick_b0 at hM
  refine x_iconst (v := 0) C dX4_stick_0 (by decide) ?_
  obtain ⟨x2_1, e_2, hM⟩ := bd hM
  refine x_top e_2 ?_
  refine x_istore_n (L' := [(2, .int x2_1), (0, .ref (ad g k0)), (1, .int x1)]) C dX4_stick_1 rfl (by decide) rfl ?_
  refine x_sub (L' := [(0, .ref (ad g k0)), (1, .int x1), (2, .int x2_1)]) [1, 2, 0] rfl ?_
  exact o_X4_stick_l2 C hR hk0 300 x1 x2_1 w hM
theorem c_X4_stick (l : Launch) (g : Gx) (k0 : Nat) (x1 : Int32) (hk0 : kindOf k0 = 4) (w : Wd) {rr : Unit} {wr : Wd} (hM : f_X4_stick k0 x1 w = some (rr, wr)) : MetM l yX4_stick cX4_stick 4 none rm_X4_stick g [.ref (ad g k0), .int x1] w none wr := by
  refine met_of (by decide) (Nat.le_of_ble_eq_true rfl) (fun E hl C hR => ?_)
  refine x_sub (L' := [(0, .ref (ad g k0)), (1, .int x1)]) [0, 1] rfl ?_
  exact o_X4_stick_b0 C hR hk0 x1 w hM
abbrev rm_X4_passMinute : Room := { frames := 3, cells := 0, slots := 0, locals := 60 }
set_option maxHeartbeats 1000000 in
set_option maxRecDepth 20000 in
theorem o_X4_passMinute_b63 {E : Ex} {g : Gx} (C : Ctx E RX4 cX4_passMinute rm_X4_passMinute 3 g) {rr : Unit} {wr : Wd} (hR : Rets E g none none wr) {k0 : Nat} (hk0 : kindOf k0 = 4) {k1 : Nat} (hk1 : kindOf k1 = 2) {kh30 : (Int32 → Wd → Option (Unit × Wd))} (Hh30 : ∀ (x2 : Int32) (w : Wd), kh30 x2 w = some (rr, wr) → Xx E 3 g 30 [(0, .ref (ad g k0)), (2, .int x2)] [] w) (x2 : Int32) (w : Wd) (hM : f_X4_passMinute_b63 k0 k1 kh30 x2 w = some (rr, wr)) : Xx E 3 g 63 [(0, .ref (ad g k0)), (2, .int x2)] [] w := by
  unfold f_X4_passMinute_b63 at hM
  obtain ⟨x2_1, e_2, hM⟩ := bd hM
  refine x_iinc (L' := [(2, .int x2_1), (0, .ref (ad g k0))]) C dX4_passMinute_63 1 rfl (v := x2_1) (by rw [e_2]; first | rfl | decide) (by decide) rfl ?_
  refine x_goto (tgt := 30) C dX4_passMinute_66 (by decide) ?_
  refine x_sub (L' := [(0, .ref (ad g k0)), (2, .int x2_1)]) [1, 0] rfl ?_
  exact Hh30 x2_1 w hM
set_option maxHeartbeats 1000000 in
set_option maxRecDepth 20000 in
theorem o_X4_passMinute_h30 {E : Ex} {g : Gx} (C : Ctx E RX4 cX4_passMinute rm_X4_passMinute 3 g) {rr : Unit} {wr : Wd} (hR : Rets E g none none wr) {k0 : Nat} (hk0 : kindOf k0 = 4) {k1 : Nat} (hk1 : kindOf k1 = 2) {kh30 : (Int32 → Wd → Option (Unit × Wd))} (Hh30 : ∀ (x2 : Int32) (w : Wd), kh30 x2 w = some (rr, wr) → Xx E 3 g 30 [(0, .ref (ad g k0)), (2, .int x2)] [] w) (x2 : Int32) (w : Wd) (hM : f_X4_passMinute_h30 k0 k1 kh30 x2 w = some (rr, wr)) : Xx E 3 g 30 [(0, .ref (ad g k0)), (2, .int x2)] [] w := by
  unfold f_X4_passMinute_h30 at hM
  refine x_iload_n C dX4_passMinute_30 1 rfl rfl ?_
  refine x_bipush (v := 6) C dX4_passMinute_31 (by decide) ?_
  refine x_icmp_ge (tgt := 69) C dX4_passMinute_33 (by decide) (fun c_1 => ?_) (fun c_1 => ?_)
  · have hM := ip c_1 hM
    obtain ⟨rfl, rfl⟩ := rt hM
    exact x_vret C hR rfl dX4_passMinute_69
  · have hM := iq c_1 hM
    refine x_aload_n C dX4_passMinute_36 0 rfl rfl ?_
    refine xg_4_2 C hk0 gw_198 dX4_passMinute_37 ?_
    refine x_iload_n C dX4_passMinute_40 1 rfl rfl ?_
    obtain ⟨q_2, hM⟩ := gd hM
    refine x_iald C (kA4_1 hk0) (lA4_1 hk0) q_2 rfl dX4_passMinute_41 ?_
    refine x_if_ne (tgt := 63) C dX4_passMinute_42 (by decide) (fun c_3 => ?_) (fun c_3 => ?_)
    · have hM := iq c_3 hM
      refine x_sub (L' := [(0, .ref (ad g k0)), (2, .int x2)]) [0, 1] rfl ?_
      exact o_X4_passMinute_b63 C hR hk0 hk1 Hh30 x2 w hM
    · have hM := ip c_3 hM
      refine x_aload_n C dX4_passMinute_45 0 rfl rfl ?_
      refine x_iload_n C dX4_passMinute_46 1 rfl rfl ?_
      obtain ⟨r_5, w_4, h_6, hM⟩ := cl hM
      refine x_callV (As := [.int x2]) C (c_X4_hasRisen E.l g k0 x2 hk0 w h_6) k_X4_hasRisen hk0 (by decide) rfl rfl gw_417 rfl rfl ⟨Nat.le_of_ble_eq_true rfl, Nat.le_of_ble_eq_true rfl⟩ rfl rfl (Nat.le_of_ble_eq_true rfl) dX4_passMinute_47 ?_
      refine x_if_ne (tgt := 63) C dX4_passMinute_50 (by decide) (fun c_7 => ?_) (fun c_7 => ?_)
      · have hM := iq c_7 hM
        refine x_sub (L' := [(0, .ref (ad g k0)), (2, .int x2)]) [0, 1] rfl ?_
        exact o_X4_passMinute_b63 C hR hk0 hk1 Hh30 x2 w_4 hM
      · have hM := ip c_7 hM
        refine x_aload_n C dX4_passMinute_53 0 rfl rfl ?_
        refine xg_4_5 C hk0 gw_204 dX4_passMinute_54 ?_
        refine x_iload_n C dX4_passMinute_57 1 rfl rfl ?_
        refine x_aload_n C dX4_passMinute_58 0 rfl rfl ?_
        refine xg_4_0 C hk0 gw_194 dX4_passMinute_59 ?_
        obtain ⟨q_8, hM⟩ := gd hM
        obtain ⟨w_9, e_10, hM⟩ := bd hM
        refine x_iast C (kA4_4 hk0) (lA4_4 hk0) q_8 rfl dX4_passMinute_62 ?_
        refine x_w e_10 ?_
        refine x_sub (L' := [(0, .ref (ad g k0)), (2, .int x2)]) [0, 1] rfl ?_
        exact o_X4_passMinute_b63 C hR hk0 hk1 Hh30 x2 w_9 hM
theorem o_X4_passMinute_l30 {E : Ex} {g : Gx} (C : Ctx E RX4 cX4_passMinute rm_X4_passMinute 3 g) {rr : Unit} {wr : Wd} (hR : Rets E g none none wr) {k0 : Nat} (hk0 : kindOf k0 = 4) {k1 : Nat} (hk1 : kindOf k1 = 2) : ∀ (n : Nat) (x2 : Int32) (w : Wd), f_X4_passMinute_l30 k0 k1 n x2 w = some (rr, wr) → Xx E 3 g 30 [(0, .ref (ad g k0)), (2, .int x2)] [] w := by
  intro n
  induction n with
  | zero =>
    intro x2 w hM
    rw [f_X4_passMinute_l30] at hM
    cases hM
  | succ n ih =>
    intro x2 w hM
    rw [f_X4_passMinute_l30] at hM
    exact o_X4_passMinute_h30 C hR hk0 hk1 ih x2 w hM
set_option maxHeartbeats 1000000 in
set_option maxRecDepth 20000 in
theorem o_X4_passMinute_b0 {E : Ex} {g : Gx} (C : Ctx E RX4 cX4_passMinute rm_X4_passMinute 3 g) {rr : Unit} {wr : Wd} (hR : Rets E g none none wr) {k0 : Nat} (hk0 : kindOf k0 = 4) {k1 : Nat} (hk1 : kindOf k1 = 2) (w : Wd) (hM : f_X4_passMinute_b0 k0 k1 w = some (rr, wr)) : Xx E 3 g 0 [(0, .ref (ad g k0)), (1, .ref (ad g k1))] [] w := by
  unfold f_X4_passMinute_b0 at hM
  refine x_aload_n C dX4_passMinute_0 0 rfl rfl ?_
  refine x_dup C dX4_passMinute_1 rfl ?_
  refine xg_4_0 C hk0 gw_194 dX4_passMinute_2 ?_
  refine x_iconst (v := 1) C dX4_passMinute_5 (by decide) ?_
  refine x_iadd C dX4_passMinute_6 ?_
  obtain ⟨w_1, e_2, hM⟩ := bd hM
  refine xp_4_0 C hk0 gw_194 dX4_passMinute_7 ?_
  refine x_w e_2 ?_
  refine x_aload_n C dX4_passMinute_10 0 rfl rfl ?_
  refine x_aload_n C dX4_passMinute_11 1 rfl rfl ?_
  obtain ⟨r_4, w_3, h_5, hM⟩ := cl hM
  refine x_callVv (As := [.ref (ad g k1)]) C (c_X4_swell E.l g k0 k1 hk0 hk1 w_1 h_5) k_X4_swell hk0 (by decide) rfl rfl gw_483 rfl rfl ⟨Nat.le_of_ble_eq_true rfl, Nat.le_of_ble_eq_true rfl⟩ rfl rfl (Nat.le_of_ble_eq_true rfl) dX4_passMinute_12 ?_
  refine x_aload_n C dX4_passMinute_15 0 rfl rfl ?_
  refine x_aload_n C dX4_passMinute_16 1 rfl rfl ?_
  obtain ⟨r_7, w_6, h_8, hM⟩ := cl hM
  refine x_callVv (As := [.ref (ad g k1)]) C (c_X4_moveLumps E.l g k0 k1 hk0 hk1 w_3 h_8) k_X4_moveLumps hk0 (by decide) rfl rfl gw_488 rfl rfl ⟨Nat.le_of_ble_eq_true rfl, Nat.le_of_ble_eq_true rfl⟩ rfl rfl (Nat.le_of_ble_eq_true rfl) dX4_passMinute_17 ?_
  refine x_aload_n C dX4_passMinute_20 0 rfl rfl ?_
  refine x_aload_n C dX4_passMinute_21 1 rfl rfl ?_
  refine xgN_2_2 C hk1 nw_156 dX4_passMinute_22 ?_
  obtain ⟨r_10, w_9, h_11, hM⟩ := cl hM
  refine x_callVv (As := [.int (wget w_6 k1 2)]) C (c_X4_stick E.l g k0 (wget w_6 k1 2) hk0 w_6 h_11) k_X4_stick hk0 (by decide) rfl rfl gw_502 rfl rfl ⟨Nat.le_of_ble_eq_true rfl, Nat.le_of_ble_eq_true rfl⟩ rfl rfl (Nat.le_of_ble_eq_true rfl) dX4_passMinute_25 ?_
  refine x_iconst (v := 0) C dX4_passMinute_28 (by decide) ?_
  obtain ⟨x2_12, e_13, hM⟩ := bd hM
  refine x_top e_13 ?_
  refine x_istore_n (L' := [(2, .int x2_12), (0, .ref (ad g k0)), (1, .ref (ad g k1))]) C dX4_passMinute_29 rfl (by decide) rfl ?_
  refine x_sub (L' := [(0, .ref (ad g k0)), (2, .int x2_12)]) [1, 0] rfl ?_
  exact o_X4_passMinute_l30 C hR hk0 hk1 300 x2_12 w_9 hM
theorem c_X4_passMinute (l : Launch) (g : Gx) (k0 : Nat) (k1 : Nat) (hk0 : kindOf k0 = 4) (hk1 : kindOf k1 = 2) (w : Wd) {rr : Unit} {wr : Wd} (hM : f_X4_passMinute k0 k1 w = some (rr, wr)) : MetM l yX4_passMinute cX4_passMinute 3 none rm_X4_passMinute g [.ref (ad g k0), .ref (ad g k1)] w none wr := by
  refine met_of (by decide) (Nat.le_of_ble_eq_true rfl) (fun E hl C hR => ?_)
  refine x_sub (L' := [(0, .ref (ad g k0)), (1, .ref (ad g k1))]) [0, 1] rfl ?_
  exact o_X4_passMinute_b0 C hR hk0 hk1 w hM
abbrev rm_X5_minute : Room := { frames := 4, cells := 0, slots := 0, locals := 82 }
set_option maxHeartbeats 1000000 in
set_option maxRecDepth 20000 in
theorem o_X5_minute_b0 {E : Ex} {g : Gx} (C : Ctx E RX5 cX5_minute rm_X5_minute 1 g) {rr : Int32} {wr : Wd} (hR : Rets E g (some .int) (some (.int rr)) wr) (w : Wd) (hM : f_X5_minute_b0 w = some (rr, wr)) : Xx E 1 g 0 [(0, .ref (ad g 0))] [] w := by
  unfold f_X5_minute_b0 at hM
  refine x_aload_n C dX5_minute_0 0 rfl rfl ?_
  refine xg_5_3 C kd_0 gw_273 dX5_minute_1 ?_
  refine xgN_4_0 C kd_14 nw_195 dX5_minute_4 ?_
  refine x_bipush (v := 99) C dX5_minute_7 (by decide) ?_
  refine x_icmp_lt (tgt := 15) C dX5_minute_9 (by decide) (fun c_1 => ?_) (fun c_1 => ?_)
  · have hM := ip c_1 hM
    refine x_aload_n C dX5_minute_15 0 rfl rfl ?_
    refine xg_5_5 C kd_0 gw_275 dX5_minute_16 ?_
    refine x_aload_n C dX5_minute_19 0 rfl rfl ?_
    refine xg_5_3 C kd_0 gw_273 dX5_minute_20 ?_
    obtain ⟨r_3, w_2, h_4, hM⟩ := cl hM
    refine x_callVNv (As := [.ref (ad g 14)]) C (c_X0_remember E.l g 14 kd_14 w h_4) k_X0_remember kd_24 (by decide) rfl rfl nw_454 rfl rfl ⟨Nat.le_of_ble_eq_true rfl, Nat.le_of_ble_eq_true rfl⟩ rfl rfl (Nat.le_of_ble_eq_true rfl) dX5_minute_23 ?_
    refine x_aload_n C dX5_minute_26 0 rfl rfl ?_
    refine xg_5_3 C kd_0 gw_273 dX5_minute_27 ?_
    refine x_aload_n C dX5_minute_30 0 rfl rfl ?_
    refine xg_5_1 C kd_0 gw_271 dX5_minute_31 ?_
    obtain ⟨r_6, w_5, h_7, hM⟩ := cl hM
    refine x_callVNv (As := [.ref (ad g 4)]) C (c_X4_passMinute E.l g 14 4 kd_14 kd_4 w_2 h_7) k_X4_passMinute kd_14 (by decide) rfl rfl nw_479 rfl rfl ⟨Nat.le_of_ble_eq_true rfl, Nat.le_of_ble_eq_true rfl⟩ rfl rfl (Nat.le_of_ble_eq_true rfl) dX5_minute_34 ?_
    refine x_aload_n C dX5_minute_37 0 rfl rfl ?_
    refine xg_5_3 C kd_0 gw_273 dX5_minute_38 ?_
    obtain ⟨r_9, w_8, h_10, hM⟩ := cl hM
    refine x_callVN (As := []) C (c_X4_upOnes E.l g 14 kd_14 w_5 h_10) k_X4_upOnes kd_14 (by decide) rfl rfl nw_409 rfl rfl ⟨Nat.le_of_ble_eq_true rfl, Nat.le_of_ble_eq_true rfl⟩ rfl rfl (Nat.le_of_ble_eq_true rfl) dX5_minute_41 ?_
    obtain ⟨r_12, w_11, h_13, hM⟩ := cl hM
    refine x_callS (As := [.int r_9]) C (c_J6_bitCount_0f7a4 E.l g r_9 w_8 h_13) k_J6_bitCount_0f7a4 gw_421 rfl rfl ⟨Nat.le_of_ble_eq_true rfl, Nat.le_of_ble_eq_true rfl⟩ rfl rfl (Nat.le_of_ble_eq_true rfl) dX5_minute_44 ?_
    obtain ⟨rfl, rfl⟩ := rt hM
    exact x_iret C hR rfl dX5_minute_47
  · have hM := iq c_1 hM
    refine x_bipush (v := -2) C dX5_minute_12 (by decide) ?_
    obtain ⟨rfl, rfl⟩ := rt hM
    exact x_iret C hR rfl dX5_minute_14
theorem c_X5_minute (l : Launch) (g : Gx) (w : Wd) {rr : Int32} {wr : Wd} (hM : f_X5_minute w = some (rr, wr)) : MetM l yX5_minute cX5_minute 1 (some .int) rm_X5_minute g [.ref (ad g 0)] w (some (.int rr)) wr := by
  refine met_of (by decide) (Nat.le_of_ble_eq_true rfl) (fun E hl C hR => ?_)
  refine x_sub (L' := [(0, .ref (ad g 0))]) [0] rfl ?_
  exact o_X5_minute_b0 C hR w hM
abbrev rm_X5_heats : Room := { frames := 4, cells := 0, slots := 0, locals := 81 }
set_option maxHeartbeats 1000000 in
set_option maxRecDepth 20000 in
theorem o_X5_heats_b0 {E : Ex} {g : Gx} (C : Ctx E RX5 cX5_heats rm_X5_heats 3 g) {rr : Int32} {wr : Wd} (hR : Rets E g (some .int) (some (.int rr)) wr) (x1 : Int32) (w : Wd) (hM : f_X5_heats_b0 x1 w = some (rr, wr)) : Xx E 3 g 0 [(0, .ref (ad g 0)), (1, .int x1)] [] w := by
  unfold f_X5_heats_b0 at hM
  refine x_iload_n C dX5_heats_0 1 rfl rfl ?_
  refine x_if_lt (tgt := 10) C dX5_heats_1 (by decide) (fun c_1 => ?_) (fun c_1 => ?_)
  · have hM := ip c_1 hM
    refine x_iconst (v := -1) C dX5_heats_10 (by decide) ?_
    obtain ⟨rfl, rfl⟩ := rt hM
    exact x_iret C hR rfl dX5_heats_11
  · have hM := iq c_1 hM
    refine x_iload_n C dX5_heats_4 1 rfl rfl ?_
    refine x_bipush (v := 9) C dX5_heats_5 (by decide) ?_
    refine x_icmp_le (tgt := 12) C dX5_heats_7 (by decide) (fun c_2 => ?_) (fun c_2 => ?_)
    · have hM := ip c_2 hM
      refine x_aload_n C dX5_heats_12 0 rfl rfl ?_
      refine xg_5_3 C kd_0 gw_273 dX5_heats_13 ?_
      refine xgN_4_1 C kd_14 nw_197 dX5_heats_16 ?_
      refine x_iload_n C dX5_heats_19 1 rfl rfl ?_
      refine x_icmp_ne (tgt := 26) C dX5_heats_20 (by decide) (fun c_3 => ?_) (fun c_3 => ?_)
      · have hM := iq c_3 hM
        refine x_aload_n C dX5_heats_26 0 rfl rfl ?_
        refine xg_5_5 C kd_0 gw_275 dX5_heats_27 ?_
        refine x_aload_n C dX5_heats_30 0 rfl rfl ?_
        refine xg_5_3 C kd_0 gw_273 dX5_heats_31 ?_
        obtain ⟨r_5, w_4, h_6, hM⟩ := cl hM
        refine x_callVNv (As := [.ref (ad g 14)]) C (c_X0_remember E.l g 14 kd_14 w h_6) k_X0_remember kd_24 (by decide) rfl rfl nw_454 rfl rfl ⟨Nat.le_of_ble_eq_true rfl, Nat.le_of_ble_eq_true rfl⟩ rfl rfl (Nat.le_of_ble_eq_true rfl) dX5_heats_34 ?_
        refine x_aload_n C dX5_heats_37 0 rfl rfl ?_
        refine xg_5_3 C kd_0 gw_273 dX5_heats_38 ?_
        refine xgN_4_1 C kd_14 nw_197 dX5_heats_41 ?_
        obtain ⟨x2_7, e_8, hM⟩ := bd hM
        refine x_top e_8 ?_
        refine x_istore_n (L' := [(2, .int x2_7), (0, .ref (ad g 0)), (1, .int x1)]) C dX5_heats_44 rfl (by decide) rfl ?_
        refine x_aload_n C dX5_heats_45 1 rfl rfl ?_
        refine xg_5_3 C kd_0 gw_273 dX5_heats_46 ?_
        refine x_iload_n C dX5_heats_49 2 rfl rfl ?_
        obtain ⟨w_9, e_10, hM⟩ := bd hM
        refine xpN_4_1 C kd_14 nw_197 dX5_heats_50 ?_
        refine x_w e_10 ?_
        refine x_iload_n C dX5_heats_53 0 rfl rfl ?_
        obtain ⟨rfl, rfl⟩ := rt hM
        exact x_iret C hR rfl dX5_heats_54
      · have hM := ip c_3 hM
        refine x_bipush (v := -2) C dX5_heats_23 (by decide) ?_
        obtain ⟨rfl, rfl⟩ := rt hM
        exact x_iret C hR rfl dX5_heats_25
    · have hM := iq c_2 hM
      refine x_iconst (v := -1) C dX5_heats_10 (by decide) ?_
      obtain ⟨rfl, rfl⟩ := rt hM
      exact x_iret C hR rfl dX5_heats_11
theorem c_X5_heats (l : Launch) (g : Gx) (x1 : Int32) (w : Wd) {rr : Int32} {wr : Wd} (hM : f_X5_heats x1 w = some (rr, wr)) : MetM l yX5_heats cX5_heats 3 (some .int) rm_X5_heats g [.ref (ad g 0), .int x1] w (some (.int rr)) wr := by
  refine met_of (by decide) (Nat.le_of_ble_eq_true rfl) (fun E hl C hR => ?_)
  refine x_sub (L' := [(0, .ref (ad g 0)), (1, .int x1)]) [0, 1] rfl ?_
  exact o_X5_heats_b0 C hR x1 w hM
