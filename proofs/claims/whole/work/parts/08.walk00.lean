abbrev rm_X4_copy : Room := { frames := 1, cells := 0, slots := 0, locals := 18 }
set_option maxHeartbeats 1000000 in
set_option maxRecDepth 20000 in
theorem o_X4_copy_b0 {E : Ex} {g : Gx} (C : Ctx E RX4 cX4_copy rm_X4_copy 2 g) {rr : Unit} {wr : Wd} (hR : Rets E g none none wr) {k0 : Nat} (hk0 : kindOf k0 = 4) {k1 : Nat} (hk1 : kindOf k1 = 4) (w : Wd) (hM : f_X4_copy_b0 k0 k1 w = some (rr, wr)) : Xx E 2 g 0 [(0, .ref (ad g k0)), (1, .ref (ad g k1))] [] w := by
  unfold f_X4_copy_b0 at hM
  refine x_aload_n C dX4_copy_0 0 rfl rfl ?_
  refine x_aload_n C dX4_copy_1 1 rfl rfl ?_
  refine xg_4_0 C hk1 gw_194 dX4_copy_2 ?_
  obtain ⟨w_1, e_2, hM⟩ := bd hM
  refine xp_4_0 C hk0 gw_194 dX4_copy_5 ?_
  refine x_w e_2 ?_
  refine x_aload_n C dX4_copy_8 0 rfl rfl ?_
  refine x_aload_n C dX4_copy_9 1 rfl rfl ?_
  refine xg_4_1 C hk1 gw_196 dX4_copy_10 ?_
  obtain ⟨w_3, e_4, hM⟩ := bd hM
  refine xp_4_1 C hk0 gw_196 dX4_copy_13 ?_
  refine x_w e_4 ?_
  refine x_aload_n C dX4_copy_16 1 rfl rfl ?_
  refine xg_4_2 C hk1 gw_198 dX4_copy_17 ?_
  refine x_iconst (v := 0) C dX4_copy_20 (by decide) ?_
  refine x_aload_n C dX4_copy_21 0 rfl rfl ?_
  refine xg_4_2 C hk0 gw_198 dX4_copy_22 ?_
  refine x_iconst (v := 0) C dX4_copy_25 (by decide) ?_
  refine x_bipush (v := 6) C dX4_copy_26 (by decide) ?_
  obtain ⟨w_5, e_6, hM⟩ := bd hM
  refine x_copy C gw_469 gw_380 gw_379 gw_91 (kA4_1 hk1) (kA4_1 hk0) (lA4_1 hk1) (lA4_1 hk0) (Nat.le_of_ble_eq_true rfl) (Nat.le_of_ble_eq_true rfl) dX4_copy_28 ?_
  refine x_w e_6 ?_
  refine x_aload_n C dX4_copy_31 1 rfl rfl ?_
  refine xg_4_3 C hk1 gw_200 dX4_copy_32 ?_
  refine x_iconst (v := 0) C dX4_copy_35 (by decide) ?_
  refine x_aload_n C dX4_copy_36 0 rfl rfl ?_
  refine xg_4_3 C hk0 gw_200 dX4_copy_37 ?_
  refine x_iconst (v := 0) C dX4_copy_40 (by decide) ?_
  refine x_bipush (v := 6) C dX4_copy_41 (by decide) ?_
  obtain ⟨w_7, e_8, hM⟩ := bd hM
  refine x_copy C gw_469 gw_380 gw_379 gw_91 (kA4_2 hk1) (kA4_2 hk0) (lA4_2 hk1) (lA4_2 hk0) (Nat.le_of_ble_eq_true rfl) (Nat.le_of_ble_eq_true rfl) dX4_copy_43 ?_
  refine x_w e_8 ?_
  refine x_aload_n C dX4_copy_46 1 rfl rfl ?_
  refine xg_4_4 C hk1 gw_202 dX4_copy_47 ?_
  refine x_iconst (v := 0) C dX4_copy_50 (by decide) ?_
  refine x_aload_n C dX4_copy_51 0 rfl rfl ?_
  refine xg_4_4 C hk0 gw_202 dX4_copy_52 ?_
  refine x_iconst (v := 0) C dX4_copy_55 (by decide) ?_
  refine x_bipush (v := 6) C dX4_copy_56 (by decide) ?_
  obtain ⟨w_9, e_10, hM⟩ := bd hM
  refine x_copy C gw_469 gw_380 gw_379 gw_91 (kA4_3 hk1) (kA4_3 hk0) (lA4_3 hk1) (lA4_3 hk0) (Nat.le_of_ble_eq_true rfl) (Nat.le_of_ble_eq_true rfl) dX4_copy_58 ?_
  refine x_w e_10 ?_
  refine x_aload_n C dX4_copy_61 1 rfl rfl ?_
  refine xg_4_5 C hk1 gw_204 dX4_copy_62 ?_
  refine x_iconst (v := 0) C dX4_copy_65 (by decide) ?_
  refine x_aload_n C dX4_copy_66 0 rfl rfl ?_
  refine xg_4_5 C hk0 gw_204 dX4_copy_67 ?_
  refine x_iconst (v := 0) C dX4_copy_70 (by decide) ?_
  refine x_bipush (v := 6) C dX4_copy_71 (by decide) ?_
  obtain ⟨w_11, e_12, hM⟩ := bd hM
  refine x_copy C gw_469 gw_380 gw_379 gw_91 (kA4_4 hk1) (kA4_4 hk0) (lA4_4 hk1) (lA4_4 hk0) (Nat.le_of_ble_eq_true rfl) (Nat.le_of_ble_eq_true rfl) dX4_copy_73 ?_
  refine x_w e_12 ?_
  obtain ⟨rfl, rfl⟩ := rt hM
  exact x_vret C hR rfl dX4_copy_76
theorem c_X4_copy (l : Launch) (g : Gx) (k0 : Nat) (k1 : Nat) (hk0 : kindOf k0 = 4) (hk1 : kindOf k1 = 4) (w : Wd) {rr : Unit} {wr : Wd} (hM : f_X4_copy k0 k1 w = some (rr, wr)) : MetM l yX4_copy cX4_copy 2 none rm_X4_copy g [.ref (ad g k0), .ref (ad g k1)] w none wr := by
  refine met_of (by decide) (Nat.le_of_ble_eq_true rfl) (fun E hl C hR => ?_)
  refine x_sub (L' := [(0, .ref (ad g k0)), (1, .ref (ad g k1))]) [0, 1] rfl ?_
  exact o_X4_copy_b0 C hR hk0 hk1 w hM
abbrev rm_X0_copyInto : Room := { frames := 2, cells := 0, slots := 0, locals := 39 }
theorem c_X0_copyInto (l : Launch) (g : Gx) (x0 x1 : Option Nat) (w : Wd) {rr : Unit} {wr : Wd} (hM : f_X0_copyInto x0 x1 w = some (rr, wr)) : MetM l yX0_copyInto cX0_copyInto 2 none rm_X0_copyInto g [rfv g x0, rfv g x1] w none wr := by
  refine met_of (by decide) (by cases x0 <;> cases x1 <;> exact Nat.le_of_ble_eq_true rfl) (fun E hl C hR => ?_)
  cases x0 with
  | none =>
    cases hM
    cases x1 with
    | none =>
      refine x_sub (L' := [(0, .null)]) [0] rfl ?_
      refine x_aload_nN C dX0_copyInto_0 0 rfl rfl ?_
      refine x_ifnullN (tgt := 13) C dX0_copyInto_1 (by decide) ?_
      exact x_vret C hR rfl dX0_copyInto_13
    | some b =>
      refine x_sub (L' := [(0, .null)]) [0] rfl ?_
      refine x_aload_nN C dX0_copyInto_0 0 rfl rfl ?_
      refine x_ifnullN (tgt := 13) C dX0_copyInto_1 (by decide) ?_
      exact x_vret C hR rfl dX0_copyInto_13
  | some a =>
    cases x1 with
    | none =>
      cases hM
      refine x_sub (L' := [(0, .ref (ad g a)), (1, .null)]) [0, 1] rfl ?_
      refine x_aload_n C dX0_copyInto_0 0 rfl rfl ?_
      refine x_ifnull C dX0_copyInto_1 ?_
      refine x_aload_nN C dX0_copyInto_4 1 rfl rfl ?_
      refine x_ifnullN (tgt := 13) C dX0_copyInto_5 (by decide) ?_
      exact x_vret C hR rfl dX0_copyInto_13
    | some b =>
      have hM : grd (decide (kindOf a = 4)) (grd (decide (kindOf b = 4)) (f_X4_copy a b w)) = some (rr, wr) := hM
      obtain ⟨q1, hM⟩ := gd hM
      obtain ⟨q2, hM⟩ := gd hM
      refine x_sub (L' := [(0, .ref (ad g a)), (1, .ref (ad g b))]) [0, 1] rfl ?_
      refine x_aload_n C dX0_copyInto_0 0 rfl rfl ?_
      refine x_ifnull C dX0_copyInto_1 ?_
      refine x_aload_n C dX0_copyInto_4 1 rfl rfl ?_
      refine x_ifnull C dX0_copyInto_5 ?_
      refine x_aload_n C dX0_copyInto_8 0 rfl rfl ?_
      refine x_aload_n C dX0_copyInto_9 1 rfl rfl ?_
      refine x_callVNv (As := [.ref (ad g b)]) C (c_X4_copy E.l g a b (of_decide_eq_true q1) (of_decide_eq_true q2) w hM) k_X4_copy (of_decide_eq_true q1) (by decide) rfl rfl nw_465 rfl rfl ⟨Nat.le_of_ble_eq_true rfl, Nat.le_of_ble_eq_true rfl⟩ rfl rfl (Nat.le_of_ble_eq_true rfl) dX0_copyInto_10 ?_
      exact x_vret C hR rfl dX0_copyInto_13
abbrev rm_X1_add : Room := { frames := 0, cells := 0, slots := 0, locals := 0 }
set_option maxHeartbeats 1000000 in
set_option maxRecDepth 20000 in
theorem o_X1_add_b0 {E : Ex} {g : Gx} (C : Ctx E RX1 cX1_add rm_X1_add 2 g) {rr : Int32} {wr : Wd} (hR : Rets E g (some .boolean) (some (.int rr)) wr) (x1 : Int32) (w : Wd) (hM : f_X1_add_b0 x1 w = some (rr, wr)) : Xx E 2 g 0 [(0, .ref (ad g 1)), (1, .int x1)] [] w := by
  unfold f_X1_add_b0 at hM
  refine x_aload_n C dX1_add_0 0 rfl rfl ?_
  refine xg_1_2 C kd_1 gw_110 dX1_add_1 ?_
  refine x_if_lt (tgt := 16) C dX1_add_4 (by decide) (fun c_1 => ?_) (fun c_1 => ?_)
  · have hM := ip c_1 hM
    refine x_iconst (v := 0) C dX1_add_16 (by decide) ?_
    obtain ⟨rfl, rfl⟩ := rt hM
    exact x_zret C hR (by rfl) rfl dX1_add_17
  · have hM := iq c_1 hM
    refine x_aload_n C dX1_add_7 0 rfl rfl ?_
    refine xg_1_2 C kd_1 gw_110 dX1_add_8 ?_
    refine x_bipush (v := 120) C dX1_add_11 (by decide) ?_
    refine x_icmp_lt (tgt := 18) C dX1_add_13 (by decide) (fun c_2 => ?_) (fun c_2 => ?_)
    · have hM := ip c_2 hM
      refine x_aload_n C dX1_add_18 0 rfl rfl ?_
      refine xg_1_0 C kd_1 gw_108 dX1_add_19 ?_
      refine x_aload_n C dX1_add_22 0 rfl rfl ?_
      refine xg_1_2 C kd_1 gw_110 dX1_add_23 ?_
      refine x_iload_n C dX1_add_26 1 rfl rfl ?_
      obtain ⟨q_3, hM⟩ := gd hM
      obtain ⟨w_4, e_5, hM⟩ := bd hM
      refine x_iast C kd_2 ln_2 q_3 rfl dX1_add_27 ?_
      refine x_w e_5 ?_
      refine x_aload_n C dX1_add_28 0 rfl rfl ?_
      refine x_dup C dX1_add_29 rfl ?_
      refine xg_1_2 C kd_1 gw_110 dX1_add_30 ?_
      refine x_iconst (v := 1) C dX1_add_33 (by decide) ?_
      refine x_iadd C dX1_add_34 ?_
      obtain ⟨w_6, e_7, hM⟩ := bd hM
      refine xp_1_2 C kd_1 gw_110 dX1_add_35 ?_
      refine x_w e_7 ?_
      refine x_iconst (v := 1) C dX1_add_38 (by decide) ?_
      obtain ⟨rfl, rfl⟩ := rt hM
      exact x_zret C hR (by rfl) rfl dX1_add_39
    · have hM := iq c_2 hM
      refine x_iconst (v := 0) C dX1_add_16 (by decide) ?_
      obtain ⟨rfl, rfl⟩ := rt hM
      exact x_zret C hR (by rfl) rfl dX1_add_17
theorem c_X1_add (l : Launch) (g : Gx) (x1 : Int32) (w : Wd) {rr : Int32} {wr : Wd} (hM : f_X1_add x1 w = some (rr, wr)) : MetM l yX1_add cX1_add 2 (some .boolean) rm_X1_add g [.ref (ad g 1), .int x1] w (some (.int rr)) wr := by
  refine met_of (by decide) (Nat.le_of_ble_eq_true rfl) (fun E hl C hR => ?_)
  refine x_sub (L' := [(0, .ref (ad g 1)), (1, .int x1)]) [0, 1] rfl ?_
  exact o_X1_add_b0 C hR x1 w hM
abbrev rm_X5_type : Room := { frames := 1, cells := 0, slots := 0, locals := 21 }
set_option maxHeartbeats 1000000 in
set_option maxRecDepth 20000 in
theorem o_X5_type_b0 {E : Ex} {g : Gx} (C : Ctx E RX5 cX5_type rm_X5_type 2 g) {rr : Int32} {wr : Wd} (hR : Rets E g (some .int) (some (.int rr)) wr) (x1 : Int32) (w : Wd) (hM : f_X5_type_b0 x1 w = some (rr, wr)) : Xx E 2 g 0 [(0, .ref (ad g 0)), (1, .int x1)] [] w := by
  unfold f_X5_type_b0 at hM
  refine x_iload_n C dX5_type_0 1 rfl rfl ?_
  refine x_if_lt (tgt := 11) C dX5_type_1 (by decide) (fun c_1 => ?_) (fun c_1 => ?_)
  · have hM := ip c_1 hM
    refine x_iconst (v := -1) C dX5_type_11 (by decide) ?_
    obtain ⟨rfl, rfl⟩ := rt hM
    exact x_iret C hR rfl dX5_type_12
  · have hM := iq c_1 hM
    refine x_iload_n C dX5_type_4 1 rfl rfl ?_
    refine x_sipush (v := 255) C dX5_type_5 (by decide) ?_
    refine x_icmp_le (tgt := 13) C dX5_type_8 (by decide) (fun c_2 => ?_) (fun c_2 => ?_)
    · have hM := ip c_2 hM
      refine x_aload_n C dX5_type_13 0 rfl rfl ?_
      refine xg_5_0 C kd_0 gw_270 dX5_type_14 ?_
      refine x_iload_n C dX5_type_17 1 rfl rfl ?_
      obtain ⟨r_4, w_3, h_5, hM⟩ := cl hM
      refine x_callVN (As := [.int x1]) C (c_X1_add E.l g x1 w h_5) k_X1_add kd_1 (by decide) rfl rfl nw_314 rfl rfl ⟨Nat.le_of_ble_eq_true rfl, Nat.le_of_ble_eq_true rfl⟩ rfl rfl (Nat.le_of_ble_eq_true rfl) dX5_type_18 ?_
      refine x_if_eq (tgt := 34) C dX5_type_21 (by decide) (fun c_6 => ?_) (fun c_6 => ?_)
      · have hM := ip c_6 hM
        refine x_bipush (v := -3) C dX5_type_34 (by decide) ?_
        obtain ⟨rfl, rfl⟩ := rt hM
        exact x_iret C hR rfl dX5_type_36
      · have hM := iq c_6 hM
        refine x_aload_n C dX5_type_24 0 rfl rfl ?_
        refine xg_5_0 C kd_0 gw_270 dX5_type_25 ?_
        refine xgN_1_2 C kd_1 nw_111 dX5_type_28 ?_
        refine x_goto (tgt := 36) C dX5_type_31 (by decide) ?_
        obtain ⟨rfl, rfl⟩ := rt hM
        exact x_iret C hR rfl dX5_type_36
    · have hM := iq c_2 hM
      refine x_iconst (v := -1) C dX5_type_11 (by decide) ?_
      obtain ⟨rfl, rfl⟩ := rt hM
      exact x_iret C hR rfl dX5_type_12
theorem c_X5_type (l : Launch) (g : Gx) (x1 : Int32) (w : Wd) {rr : Int32} {wr : Wd} (hM : f_X5_type x1 w = some (rr, wr)) : MetM l yX5_type cX5_type 2 (some .int) rm_X5_type g [.ref (ad g 0), .int x1] w (some (.int rr)) wr := by
  refine met_of (by decide) (Nat.le_of_ble_eq_true rfl) (fun E hl C hR => ?_)
  refine x_sub (L' := [(0, .ref (ad g 0)), (1, .int x1)]) [0, 1] rfl ?_
  exact o_X5_type_b0 C hR x1 w hM
abbrev rm_X5_clear : Room := { frames := 0, cells := 0, slots := 0, locals := 0 }
set_option maxHeartbeats 1000000 in
set_option maxRecDepth 20000 in
theorem o_X5_clear_b0 {E : Ex} {g : Gx} (C : Ctx E RX5 cX5_clear rm_X5_clear 2 g) {rr : Int32} {wr : Wd} (hR : Rets E g (some .int) (some (.int rr)) wr) (w : Wd) (hM : f_X5_clear_b0 w = some (rr, wr)) : Xx E 2 g 0 [(0, .ref (ad g 0))] [] w := by
  unfold f_X5_clear_b0 at hM
  refine x_aload_n C dX5_clear_0 0 rfl rfl ?_
  refine xg_5_0 C kd_0 gw_270 dX5_clear_1 ?_
  refine xgN_1_2 C kd_1 nw_111 dX5_clear_4 ?_
  obtain ⟨x1_1, e_2, hM⟩ := bd hM
  refine x_top e_2 ?_
  refine x_istore_n (L' := [(1, .int x1_1), (0, .ref (ad g 0))]) C dX5_clear_7 rfl (by decide) rfl ?_
  refine x_aload_n C dX5_clear_8 1 rfl rfl ?_
  refine xg_5_0 C kd_0 gw_270 dX5_clear_9 ?_
  refine x_iconst (v := 0) C dX5_clear_12 (by decide) ?_
  obtain ⟨w_3, e_4, hM⟩ := bd hM
  refine xpN_1_2 C kd_1 nw_111 dX5_clear_13 ?_
  refine x_w e_4 ?_
  refine x_iload_n C dX5_clear_16 0 rfl rfl ?_
  obtain ⟨rfl, rfl⟩ := rt hM
  exact x_iret C hR rfl dX5_clear_17
theorem c_X5_clear (l : Launch) (g : Gx) (w : Wd) {rr : Int32} {wr : Wd} (hM : f_X5_clear w = some (rr, wr)) : MetM l yX5_clear cX5_clear 2 (some .int) rm_X5_clear g [.ref (ad g 0)] w (some (.int rr)) wr := by
  refine met_of (by decide) (Nat.le_of_ble_eq_true rfl) (fun E hl C hR => ?_)
  refine x_sub (L' := [(0, .ref (ad g 0))]) [0] rfl ?_
  exact o_X5_clear_b0 C hR w hM
abbrev rm_X2_setAsAtFirst : Room := { frames := 0, cells := 0, slots := 0, locals := 0 }
set_option maxHeartbeats 1000000 in
set_option maxRecDepth 20000 in
theorem o_X2_setAsAtFirst_b0 {E : Ex} {g : Gx} (C : Ctx E RX2 cX2_setAsAtFirst rm_X2_setAsAtFirst 1 g) {rr : Unit} {wr : Wd} (hR : Rets E g none none wr) {k0 : Nat} (hk0 : kindOf k0 = 2) (w : Wd) (hM : f_X2_setAsAtFirst_b0 k0 w = some (rr, wr)) : Xx E 1 g 0 [(0, .ref (ad g k0))] [] w := by
  unfold f_X2_setAsAtFirst_b0 at hM
  refine x_aload_n C dX2_setAsAtFirst_0 0 rfl rfl ?_
  refine x_iconst (v := 0) C dX2_setAsAtFirst_1 (by decide) ?_
  obtain ⟨w_1, e_2, hM⟩ := bd hM
  refine xp_2_0 C hk0 gw_147 dX2_setAsAtFirst_2 ?_
  refine x_w e_2 ?_
  refine x_aload_n C dX2_setAsAtFirst_5 0 rfl rfl ?_
  refine x_iconst (v := 3) C dX2_setAsAtFirst_6 (by decide) ?_
  obtain ⟨w_3, e_4, hM⟩ := bd hM
  refine xp_2_1 C hk0 gw_150 dX2_setAsAtFirst_7 ?_
  refine x_w e_4 ?_
  refine x_aload_n C dX2_setAsAtFirst_10 0 rfl rfl ?_
  refine x_iconst (v := 1) C dX2_setAsAtFirst_11 (by decide) ?_
  obtain ⟨w_5, e_6, hM⟩ := bd hM
  refine xp_2_2 C hk0 gw_154 dX2_setAsAtFirst_12 ?_
  refine x_w e_6 ?_
  refine x_aload_n C dX2_setAsAtFirst_15 0 rfl rfl ?_
  refine x_bipush (v := 20) C dX2_setAsAtFirst_16 (by decide) ?_
  obtain ⟨w_7, e_8, hM⟩ := bd hM
  refine xp_2_3 C hk0 gw_158 dX2_setAsAtFirst_18 ?_
  refine x_w e_8 ?_
  obtain ⟨rfl, rfl⟩ := rt hM
  exact x_vret C hR rfl dX2_setAsAtFirst_21
theorem c_X2_setAsAtFirst (l : Launch) (g : Gx) (k0 : Nat) (hk0 : kindOf k0 = 2) (w : Wd) {rr : Unit} {wr : Wd} (hM : f_X2_setAsAtFirst k0 w = some (rr, wr)) : MetM l yX2_setAsAtFirst cX2_setAsAtFirst 1 none rm_X2_setAsAtFirst g [.ref (ad g k0)] w none wr := by
  refine met_of (by decide) (Nat.le_of_ble_eq_true rfl) (fun E hl C hR => ?_)
  refine x_sub (L' := [(0, .ref (ad g k0))]) [0] rfl ?_
  exact o_X2_setAsAtFirst_b0 C hR hk0 w hM
abbrev rm_X1_letterAt : Room := { frames := 0, cells := 0, slots := 0, locals := 0 }
set_option maxHeartbeats 1000000 in
set_option maxRecDepth 20000 in
theorem o_X1_letterAt_b0 {E : Ex} {g : Gx} (C : Ctx E RX1 cX1_letterAt rm_X1_letterAt 2 g) {rr : Int32} {wr : Wd} (hR : Rets E g (some .int) (some (.int rr)) wr) (x1 : Int32) (w : Wd) (hM : f_X1_letterAt_b0 x1 w = some (rr, wr)) : Xx E 2 g 0 [(0, .ref (ad g 1)), (1, .int x1)] [] w := by
  unfold f_X1_letterAt_b0 at hM
  refine x_iload_n C dX1_letterAt_0 1 rfl rfl ?_
  refine x_if_lt (tgt := 27) C dX1_letterAt_1 (by decide) (fun c_1 => ?_) (fun c_1 => ?_)
  · have hM := ip c_1 hM
    refine x_iconst (v := 0) C dX1_letterAt_27 (by decide) ?_
    obtain ⟨rfl, rfl⟩ := rt hM
    exact x_iret C hR rfl dX1_letterAt_28
  · have hM := iq c_1 hM
    refine x_iload_n C dX1_letterAt_4 1 rfl rfl ?_
    refine x_bipush (v := 120) C dX1_letterAt_5 (by decide) ?_
    refine x_icmp_ge (tgt := 27) C dX1_letterAt_7 (by decide) (fun c_2 => ?_) (fun c_2 => ?_)
    · have hM := ip c_2 hM
      refine x_iconst (v := 0) C dX1_letterAt_27 (by decide) ?_
      obtain ⟨rfl, rfl⟩ := rt hM
      exact x_iret C hR rfl dX1_letterAt_28
    · have hM := iq c_2 hM
      refine x_iload_n C dX1_letterAt_10 1 rfl rfl ?_
      refine x_aload_n C dX1_letterAt_11 0 rfl rfl ?_
      refine xg_1_2 C kd_1 gw_110 dX1_letterAt_12 ?_
      refine x_icmp_ge (tgt := 27) C dX1_letterAt_15 (by decide) (fun c_3 => ?_) (fun c_3 => ?_)
      · have hM := ip c_3 hM
        refine x_iconst (v := 0) C dX1_letterAt_27 (by decide) ?_
        obtain ⟨rfl, rfl⟩ := rt hM
        exact x_iret C hR rfl dX1_letterAt_28
      · have hM := iq c_3 hM
        refine x_aload_n C dX1_letterAt_18 0 rfl rfl ?_
        refine xg_1_0 C kd_1 gw_108 dX1_letterAt_19 ?_
        refine x_iload_n C dX1_letterAt_22 1 rfl rfl ?_
        obtain ⟨q_4, hM⟩ := gd hM
        refine x_iald C kd_2 ln_2 q_4 rfl dX1_letterAt_23 ?_
        refine x_goto (tgt := 28) C dX1_letterAt_24 (by decide) ?_
        obtain ⟨rfl, rfl⟩ := rt hM
        exact x_iret C hR rfl dX1_letterAt_28
theorem c_X1_letterAt (l : Launch) (g : Gx) (x1 : Int32) (w : Wd) {rr : Int32} {wr : Wd} (hM : f_X1_letterAt x1 w = some (rr, wr)) : MetM l yX1_letterAt cX1_letterAt 2 (some .int) rm_X1_letterAt g [.ref (ad g 1), .int x1] w (some (.int rr)) wr := by
  refine met_of (by decide) (Nat.le_of_ble_eq_true rfl) (fun E hl C hR => ?_)
  refine x_sub (L' := [(0, .ref (ad g 1)), (1, .int x1)]) [0, 1] rfl ?_
  exact o_X1_letterAt_b0 C hR x1 w hM
abbrev rm_X1_isDigit : Room := { frames := 0, cells := 0, slots := 0, locals := 0 }
set_option maxHeartbeats 1000000 in
set_option maxRecDepth 20000 in
theorem o_X1_isDigit_b0 {E : Ex} {g : Gx} (C : Ctx E RX1 cX1_isDigit rm_X1_isDigit 1 g) {rr : Int32} {wr : Wd} (hR : Rets E g (some .boolean) (some (.int rr)) wr) (x0 : Int32) (w : Wd) (hM : f_X1_isDigit_b0 x0 w = some (rr, wr)) : Xx E 1 g 0 [(0, .int x0)] [] w := by
  unfold f_X1_isDigit_b0 at hM
  refine x_iload_n C dX1_isDigit_0 0 rfl rfl ?_
  refine x_bipush (v := 48) C dX1_isDigit_1 (by decide) ?_
  refine x_icmp_lt (tgt := 16) C dX1_isDigit_3 (by decide) (fun c_1 => ?_) (fun c_1 => ?_)
  · have hM := ip c_1 hM
    refine x_iconst (v := 0) C dX1_isDigit_16 (by decide) ?_
    obtain ⟨rfl, rfl⟩ := rt hM
    exact x_zret C hR (by rfl) rfl dX1_isDigit_17
  · have hM := iq c_1 hM
    refine x_iload_n C dX1_isDigit_6 0 rfl rfl ?_
    refine x_bipush (v := 57) C dX1_isDigit_7 (by decide) ?_
    refine x_icmp_gt (tgt := 16) C dX1_isDigit_9 (by decide) (fun c_2 => ?_) (fun c_2 => ?_)
    · have hM := ip c_2 hM
      refine x_iconst (v := 0) C dX1_isDigit_16 (by decide) ?_
      obtain ⟨rfl, rfl⟩ := rt hM
      exact x_zret C hR (by rfl) rfl dX1_isDigit_17
    · have hM := iq c_2 hM
      refine x_iconst (v := 1) C dX1_isDigit_12 (by decide) ?_
      refine x_goto (tgt := 17) C dX1_isDigit_13 (by decide) ?_
      obtain ⟨rfl, rfl⟩ := rt hM
      exact x_zret C hR (by rfl) rfl dX1_isDigit_17
theorem c_X1_isDigit (l : Launch) (g : Gx) (x0 : Int32) (w : Wd) {rr : Int32} {wr : Wd} (hM : f_X1_isDigit x0 w = some (rr, wr)) : MetM l yX1_isDigit cX1_isDigit 1 (some .boolean) rm_X1_isDigit g [.int x0] w (some (.int rr)) wr := by
  refine met_of (by decide) (Nat.le_of_ble_eq_true rfl) (fun E hl C hR => ?_)
  refine x_sub (L' := [(0, .int x0)]) [0] rfl ?_
  exact o_X1_isDigit_b0 C hR x0 w hM
abbrev rm_X1_takeDigits : Room := { frames := 1, cells := 0, slots := 0, locals := 21 }
set_option maxHeartbeats 1000000 in
set_option maxRecDepth 20000 in
theorem o_X1_takeDigits_b101 {E : Ex} {g : Gx} (C : Ctx E RX1 cX1_takeDigits rm_X1_takeDigits 2 g) {rr : Unit} {wr : Wd} (hR : Rets E g none none wr) (w : Wd) (hM : f_X1_takeDigits_b101 w = some (rr, wr)) : Xx E 2 g 101 [(0, .ref (ad g 1))] [] w := by
  unfold f_X1_takeDigits_b101 at hM
  refine x_iconst (v := 0) C dX1_takeDigits_101 (by decide) ?_
  obtain ⟨x1_1, e_2, hM⟩ := bd hM
  refine x_top e_2 ?_
  refine x_istore_n (L' := [(1, .int x1_1), (0, .ref (ad g 1))]) C dX1_takeDigits_102 rfl (by decide) rfl ?_
  refine x_aload_n C dX1_takeDigits_103 1 rfl rfl ?_
  refine x_aload_n C dX1_takeDigits_104 1 rfl rfl ?_
  refine xg_1_6 C kd_1 gw_115 dX1_takeDigits_105 ?_
  refine x_bipush (v := 99) C dX1_takeDigits_108 (by decide) ?_
  refine x_icmp_gt (tgt := 117) C dX1_takeDigits_110 (by decide) (fun c_3 => ?_) (fun c_3 => ?_)
  · have hM := ip c_3 hM
    refine x_iconst (v := 2) C dX1_takeDigits_117 (by decide) ?_
    refine x_goto (tgt := 122) C dX1_takeDigits_118 (by decide) ?_
    obtain ⟨w_4, e_5, hM⟩ := bd hM
    refine xp_1_5 C kd_1 gw_114 dX1_takeDigits_122 ?_
    refine x_w e_5 ?_
    obtain ⟨rfl, rfl⟩ := rt hM
    exact x_vret C hR rfl dX1_takeDigits_125
  · have hM := iq c_3 hM
    refine x_iload_n C dX1_takeDigits_113 0 rfl rfl ?_
    refine x_if_eq (tgt := 121) C dX1_takeDigits_114 (by decide) (fun c_6 => ?_) (fun c_6 => ?_)
    · have hM := ip c_6 hM
      refine x_iconst (v := 1) C dX1_takeDigits_121 (by decide) ?_
      obtain ⟨w_7, e_8, hM⟩ := bd hM
      refine xp_1_5 C kd_1 gw_114 dX1_takeDigits_122 ?_
      refine x_w e_8 ?_
      obtain ⟨rfl, rfl⟩ := rt hM
      exact x_vret C hR rfl dX1_takeDigits_125
    · have hM := iq c_6 hM
      refine x_iconst (v := 2) C dX1_takeDigits_117 (by decide) ?_
      refine x_goto (tgt := 122) C dX1_takeDigits_118 (by decide) ?_
      obtain ⟨w_9, e_10, hM⟩ := bd hM
      refine xp_1_5 C kd_1 gw_114 dX1_takeDigits_122 ?_
      refine x_w e_10 ?_
      obtain ⟨rfl, rfl⟩ := rt hM
      exact x_vret C hR rfl dX1_takeDigits_125
set_option maxHeartbeats 1000000 in
set_option maxRecDepth 20000 in
theorem o_X1_takeDigits_b71 {E : Ex} {g : Gx} (C : Ctx E RX1 cX1_takeDigits rm_X1_takeDigits 2 g) {rr : Unit} {wr : Wd} (hR : Rets E g none none wr) (w : Wd) (hM : f_X1_takeDigits_b71 w = some (rr, wr)) : Xx E 2 g 71 [(0, .ref (ad g 1))] [] w := by
  unfold f_X1_takeDigits_b71 at hM
  refine x_aload_n C dX1_takeDigits_71 0 rfl rfl ?_
  refine x_aload_n C dX1_takeDigits_72 0 rfl rfl ?_
  refine xg_1_4 C kd_1 gw_113 dX1_takeDigits_73 ?_
  obtain ⟨r_2, w_1, h_3, hM⟩ := cl hM
  refine x_callV (As := [.int (wget w 1 4)]) C (c_X1_letterAt E.l g (wget w 1 4) w h_3) k_X1_letterAt kd_1 (by decide) rfl rfl gw_335 rfl rfl ⟨Nat.le_of_ble_eq_true rfl, Nat.le_of_ble_eq_true rfl⟩ rfl rfl (Nat.le_of_ble_eq_true rfl) dX1_takeDigits_76 ?_
  refine x_bipush (v := 48) C dX1_takeDigits_79 (by decide) ?_
  refine x_icmp_ne (tgt := 101) C dX1_takeDigits_81 (by decide) (fun c_4 => ?_) (fun c_4 => ?_)
  · have hM := iq c_4 hM
    refine x_sub (L' := [(0, .ref (ad g 1))]) [0] rfl ?_
    exact o_X1_takeDigits_b101 C hR w_1 hM
  · have hM := ip c_4 hM
    refine x_aload_n C dX1_takeDigits_84 0 rfl rfl ?_
    refine xg_1_3 C kd_1 gw_112 dX1_takeDigits_85 ?_
    refine x_aload_n C dX1_takeDigits_88 0 rfl rfl ?_
    refine xg_1_4 C kd_1 gw_113 dX1_takeDigits_89 ?_
    refine x_isub C dX1_takeDigits_92 ?_
    refine x_iconst (v := 1) C dX1_takeDigits_93 (by decide) ?_
    refine x_icmp_le (tgt := 101) C dX1_takeDigits_94 (by decide) (fun c_5 => ?_) (fun c_5 => ?_)
    · have hM := ip c_5 hM
      refine x_sub (L' := [(0, .ref (ad g 1))]) [0] rfl ?_
      exact o_X1_takeDigits_b101 C hR w_1 hM
    · have hM := iq c_5 hM
      refine x_iconst (v := 1) C dX1_takeDigits_97 (by decide) ?_
      refine x_goto (tgt := 102) C dX1_takeDigits_98 (by decide) ?_
      obtain ⟨x1_6, e_7, hM⟩ := bd hM
      refine x_top e_7 ?_
      refine x_istore_n (L' := [(1, .int x1_6), (0, .ref (ad g 1))]) C dX1_takeDigits_102 rfl (by decide) rfl ?_
      refine x_aload_n C dX1_takeDigits_103 1 rfl rfl ?_
      refine x_aload_n C dX1_takeDigits_104 1 rfl rfl ?_
      refine xg_1_6 C kd_1 gw_115 dX1_takeDigits_105 ?_
      refine x_bipush (v := 99) C dX1_takeDigits_108 (by decide) ?_
      refine x_icmp_gt (tgt := 117) C dX1_takeDigits_110 (by decide) (fun c_8 => ?_) (fun c_8 => ?_)
      · have hM := ip c_8 hM
        refine x_iconst (v := 2) C dX1_takeDigits_117 (by decide) ?_
        refine x_goto (tgt := 122) C dX1_takeDigits_118 (by decide) ?_
        obtain ⟨w_9, e_10, hM⟩ := bd hM
        refine xp_1_5 C kd_1 gw_114 dX1_takeDigits_122 ?_
        refine x_w e_10 ?_
        obtain ⟨rfl, rfl⟩ := rt hM
        exact x_vret C hR rfl dX1_takeDigits_125
      · have hM := iq c_8 hM
        refine x_iload_n C dX1_takeDigits_113 0 rfl rfl ?_
        refine x_if_eq (tgt := 121) C dX1_takeDigits_114 (by decide) (fun c_11 => ?_) (fun c_11 => ?_)
        · have hM := ip c_11 hM
          refine x_iconst (v := 1) C dX1_takeDigits_121 (by decide) ?_
          obtain ⟨w_12, e_13, hM⟩ := bd hM
          refine xp_1_5 C kd_1 gw_114 dX1_takeDigits_122 ?_
          refine x_w e_13 ?_
          obtain ⟨rfl, rfl⟩ := rt hM
          exact x_vret C hR rfl dX1_takeDigits_125
        · have hM := iq c_11 hM
          refine x_iconst (v := 2) C dX1_takeDigits_117 (by decide) ?_
          refine x_goto (tgt := 122) C dX1_takeDigits_118 (by decide) ?_
          obtain ⟨w_14, e_15, hM⟩ := bd hM
          refine xp_1_5 C kd_1 gw_114 dX1_takeDigits_122 ?_
          refine x_w e_15 ?_
          obtain ⟨rfl, rfl⟩ := rt hM
          exact x_vret C hR rfl dX1_takeDigits_125
set_option maxHeartbeats 1000000 in
set_option maxRecDepth 20000 in
theorem o_X1_takeDigits_h7 {E : Ex} {g : Gx} (C : Ctx E RX1 cX1_takeDigits rm_X1_takeDigits 2 g) {rr : Unit} {wr : Wd} (hR : Rets E g none none wr) {kh7 : (Int32 → Wd → Option (Unit × Wd))} (Hh7 : ∀ (x1 : Int32) (w : Wd), kh7 x1 w = some (rr, wr) → Xx E 2 g 7 [(0, .ref (ad g 1)), (1, .int x1)] [] w) (x1 : Int32) (w : Wd) (hM : f_X1_takeDigits_h7 kh7 x1 w = some (rr, wr)) : Xx E 2 g 7 [(0, .ref (ad g 1)), (1, .int x1)] [] w := by
  unfold f_X1_takeDigits_h7 at hM
  refine x_iload_n C dX1_takeDigits_7 1 rfl rfl ?_
  refine x_bipush (v := 120) C dX1_takeDigits_8 (by decide) ?_
  refine x_icmp_ge (tgt := 71) C dX1_takeDigits_10 (by decide) (fun c_1 => ?_) (fun c_1 => ?_)
  · have hM := ip c_1 hM
    refine x_sub (L' := [(0, .ref (ad g 1))]) [0] rfl ?_
    exact o_X1_takeDigits_b71 C hR w hM
  · have hM := iq c_1 hM
    refine x_aload_n C dX1_takeDigits_13 0 rfl rfl ?_
    refine x_aload_n C dX1_takeDigits_14 0 rfl rfl ?_
    refine xg_1_3 C kd_1 gw_112 dX1_takeDigits_15 ?_
    obtain ⟨r_3, w_2, h_4, hM⟩ := cl hM
    refine x_callV (As := [.int (wget w 1 3)]) C (c_X1_letterAt E.l g (wget w 1 3) w h_4) k_X1_letterAt kd_1 (by decide) rfl rfl gw_335 rfl rfl ⟨Nat.le_of_ble_eq_true rfl, Nat.le_of_ble_eq_true rfl⟩ rfl rfl (Nat.le_of_ble_eq_true rfl) dX1_takeDigits_18 ?_
    obtain ⟨r_6, w_5, h_7, hM⟩ := cl hM
    refine x_callS (As := [.int r_3]) C (c_X1_isDigit E.l g r_3 w_2 h_7) k_X1_isDigit gw_339 rfl rfl ⟨Nat.le_of_ble_eq_true rfl, Nat.le_of_ble_eq_true rfl⟩ rfl rfl (Nat.le_of_ble_eq_true rfl) dX1_takeDigits_21 ?_
    refine x_if_eq (tgt := 71) C dX1_takeDigits_24 (by decide) (fun c_8 => ?_) (fun c_8 => ?_)
    · have hM := ip c_8 hM
      refine x_sub (L' := [(0, .ref (ad g 1))]) [0] rfl ?_
      exact o_X1_takeDigits_b71 C hR w_5 hM
    · have hM := iq c_8 hM
      refine x_aload_n C dX1_takeDigits_27 0 rfl rfl ?_
      refine x_bipush (v := 100) C dX1_takeDigits_28 (by decide) ?_
      refine x_bipush (v := 10) C dX1_takeDigits_30 (by decide) ?_
      refine x_aload_n C dX1_takeDigits_32 0 rfl rfl ?_
      refine xg_1_6 C kd_1 gw_115 dX1_takeDigits_33 ?_
      refine x_imul C dX1_takeDigits_36 ?_
      refine x_aload_n C dX1_takeDigits_37 0 rfl rfl ?_
      refine x_aload_n C dX1_takeDigits_38 0 rfl rfl ?_
      refine xg_1_3 C kd_1 gw_112 dX1_takeDigits_39 ?_
      obtain ⟨r_10, w_9, h_11, hM⟩ := cl hM
      refine x_callV (As := [.int (wget w_5 1 3)]) C (c_X1_letterAt E.l g (wget w_5 1 3) w_5 h_11) k_X1_letterAt kd_1 (by decide) rfl rfl gw_335 rfl rfl ⟨Nat.le_of_ble_eq_true rfl, Nat.le_of_ble_eq_true rfl⟩ rfl rfl (Nat.le_of_ble_eq_true rfl) dX1_takeDigits_42 ?_
      refine x_iadd C dX1_takeDigits_45 ?_
      refine x_bipush (v := 48) C dX1_takeDigits_46 (by decide) ?_
      refine x_isub C dX1_takeDigits_48 ?_
      refine x_mmin C gw_346 gw_347 gw_90 mc_min (Nat.le_of_ble_eq_true rfl) (Nat.le_of_ble_eq_true rfl) dX1_takeDigits_49 ?_
      obtain ⟨w_12, e_13, hM⟩ := bd hM
      refine xp_1_6 C kd_1 gw_115 dX1_takeDigits_52 ?_
      refine x_w e_13 ?_
      refine x_aload_n C dX1_takeDigits_55 0 rfl rfl ?_
      refine x_dup C dX1_takeDigits_56 rfl ?_
      refine xg_1_3 C kd_1 gw_112 dX1_takeDigits_57 ?_
      refine x_iconst (v := 1) C dX1_takeDigits_60 (by decide) ?_
      refine x_iadd C dX1_takeDigits_61 ?_
      obtain ⟨w_14, e_15, hM⟩ := bd hM
      refine xp_1_3 C kd_1 gw_112 dX1_takeDigits_62 ?_
      refine x_w e_15 ?_
      obtain ⟨x1_16, e_17, hM⟩ := bd hM
      refine x_iinc (L' := [(1, .int x1_16), (0, .ref (ad g 1))]) C dX1_takeDigits_65 1 rfl (v := x1_16) (by rw [e_17]; first | rfl | decide) (by decide) rfl ?_
      refine x_goto (tgt := 7) C dX1_takeDigits_68 (by decide) ?_
      refine x_sub (L' := [(0, .ref (ad g 1)), (1, .int x1_16)]) [1, 0] rfl ?_
      exact Hh7 x1_16 w_14 hM
theorem o_X1_takeDigits_l7 {E : Ex} {g : Gx} (C : Ctx E RX1 cX1_takeDigits rm_X1_takeDigits 2 g) {rr : Unit} {wr : Wd} (hR : Rets E g none none wr) : ∀ (n : Nat) (x1 : Int32) (w : Wd), f_X1_takeDigits_l7 n x1 w = some (rr, wr) → Xx E 2 g 7 [(0, .ref (ad g 1)), (1, .int x1)] [] w := by
  intro n
  induction n with
  | zero =>
    intro x1 w hM
    rw [f_X1_takeDigits_l7] at hM
    cases hM
  | succ n ih =>
    intro x1 w hM
    rw [f_X1_takeDigits_l7] at hM
    exact o_X1_takeDigits_h7 C hR ih x1 w hM
set_option maxHeartbeats 1000000 in
set_option maxRecDepth 20000 in
theorem o_X1_takeDigits_b0 {E : Ex} {g : Gx} (C : Ctx E RX1 cX1_takeDigits rm_X1_takeDigits 2 g) {rr : Unit} {wr : Wd} (hR : Rets E g none none wr) (w : Wd) (hM : f_X1_takeDigits_b0 w = some (rr, wr)) : Xx E 2 g 0 [(0, .ref (ad g 1))] [] w := by
  unfold f_X1_takeDigits_b0 at hM
  refine x_aload_n C dX1_takeDigits_0 0 rfl rfl ?_
  refine x_iconst (v := 0) C dX1_takeDigits_1 (by decide) ?_
  obtain ⟨w_1, e_2, hM⟩ := bd hM
  refine xp_1_6 C kd_1 gw_115 dX1_takeDigits_2 ?_
  refine x_w e_2 ?_
  refine x_iconst (v := 0) C dX1_takeDigits_5 (by decide) ?_
  obtain ⟨x1_3, e_4, hM⟩ := bd hM
  refine x_top e_4 ?_
  refine x_istore_n (L' := [(1, .int x1_3), (0, .ref (ad g 1))]) C dX1_takeDigits_6 rfl (by decide) rfl ?_
  refine x_sub (L' := [(0, .ref (ad g 1)), (1, .int x1_3)]) [1, 0] rfl ?_
  exact o_X1_takeDigits_l7 C hR 300 x1_3 w_1 hM
theorem c_X1_takeDigits (l : Launch) (g : Gx) (w : Wd) {rr : Unit} {wr : Wd} (hM : f_X1_takeDigits w = some (rr, wr)) : MetM l yX1_takeDigits cX1_takeDigits 2 none rm_X1_takeDigits g [.ref (ad g 1)] w none wr := by
  refine met_of (by decide) (Nat.le_of_ble_eq_true rfl) (fun E hl C hR => ?_)
  refine x_sub (L' := [(0, .ref (ad g 1))]) [0] rfl ?_
  exact o_X1_takeDigits_b0 C hR w hM
abbrev rm_X1_isSign : Room := { frames := 0, cells := 0, slots := 0, locals := 0 }
set_option maxHeartbeats 1000000 in
set_option maxRecDepth 20000 in
theorem o_X1_isSign_b30 {E : Ex} {g : Gx} (C : Ctx E RX1 cX1_isSign rm_X1_isSign 1 g) {rr : Int32} {wr : Wd} (hR : Rets E g (some .boolean) (some (.int rr)) wr) (w : Wd) (hM : f_X1_isSign_b30 w = some (rr, wr)) : Xx E 1 g 30 [] [] w := by
  unfold f_X1_isSign_b30 at hM
  refine x_iconst (v := 1) C dX1_isSign_30 (by decide) ?_
  refine x_goto (tgt := 35) C dX1_isSign_31 (by decide) ?_
  obtain ⟨rfl, rfl⟩ := rt hM
  exact x_zret C hR (by rfl) rfl dX1_isSign_35
set_option maxHeartbeats 1000000 in
set_option maxRecDepth 20000 in
theorem o_X1_isSign_b0 {E : Ex} {g : Gx} (C : Ctx E RX1 cX1_isSign rm_X1_isSign 1 g) {rr : Int32} {wr : Wd} (hR : Rets E g (some .boolean) (some (.int rr)) wr) (x0 : Int32) (w : Wd) (hM : f_X1_isSign_b0 x0 w = some (rr, wr)) : Xx E 1 g 0 [(0, .int x0)] [] w := by
  unfold f_X1_isSign_b0 at hM
  refine x_iload_n C dX1_isSign_0 0 rfl rfl ?_
  refine x_bipush (v := 100) C dX1_isSign_1 (by decide) ?_
  refine x_icmp_eq (tgt := 30) C dX1_isSign_3 (by decide) (fun c_1 => ?_) (fun c_1 => ?_)
  · have hM := ip c_1 hM
    refine x_sub (L' := []) [] rfl ?_
    exact o_X1_isSign_b30 C hR w hM
  · have hM := iq c_1 hM
    refine x_iload_n C dX1_isSign_6 0 rfl rfl ?_
    refine x_bipush (v := 104) C dX1_isSign_7 (by decide) ?_
    refine x_icmp_eq (tgt := 30) C dX1_isSign_9 (by decide) (fun c_2 => ?_) (fun c_2 => ?_)
    · have hM := ip c_2 hM
      refine x_sub (L' := []) [] rfl ?_
      exact o_X1_isSign_b30 C hR w hM
    · have hM := iq c_2 hM
      refine x_iload_n C dX1_isSign_12 0 rfl rfl ?_
      refine x_bipush (v := 103) C dX1_isSign_13 (by decide) ?_
      refine x_icmp_eq (tgt := 30) C dX1_isSign_15 (by decide) (fun c_3 => ?_) (fun c_3 => ?_)
      · have hM := ip c_3 hM
        refine x_sub (L' := []) [] rfl ?_
        exact o_X1_isSign_b30 C hR w hM
      · have hM := iq c_3 hM
        refine x_iload_n C dX1_isSign_18 0 rfl rfl ?_
        refine x_bipush (v := 114) C dX1_isSign_19 (by decide) ?_
        refine x_icmp_eq (tgt := 30) C dX1_isSign_21 (by decide) (fun c_4 => ?_) (fun c_4 => ?_)
        · have hM := ip c_4 hM
          refine x_sub (L' := []) [] rfl ?_
          exact o_X1_isSign_b30 C hR w hM
        · have hM := iq c_4 hM
          refine x_iload_n C dX1_isSign_24 0 rfl rfl ?_
          refine x_bipush (v := 59) C dX1_isSign_25 (by decide) ?_
          refine x_icmp_ne (tgt := 34) C dX1_isSign_27 (by decide) (fun c_5 => ?_) (fun c_5 => ?_)
          · have hM := iq c_5 hM
            refine x_iconst (v := 0) C dX1_isSign_34 (by decide) ?_
            obtain ⟨rfl, rfl⟩ := rt hM
            exact x_zret C hR (by rfl) rfl dX1_isSign_35
          · have hM := ip c_5 hM
            refine x_sub (L' := []) [] rfl ?_
            exact o_X1_isSign_b30 C hR w hM
theorem c_X1_isSign (l : Launch) (g : Gx) (x0 : Int32) (w : Wd) {rr : Int32} {wr : Wd} (hM : f_X1_isSign x0 w = some (rr, wr)) : MetM l yX1_isSign cX1_isSign 1 (some .boolean) rm_X1_isSign g [.int x0] w (some (.int rr)) wr := by
  refine met_of (by decide) (Nat.le_of_ble_eq_true rfl) (fun E hl C hR => ?_)
  refine x_sub (L' := [(0, .int x0)]) [0] rfl ?_
  exact o_X1_isSign_b0 C hR x0 w hM
abbrev rm_X1_advance : Room := { frames := 2, cells := 0, slots := 0, locals := 42 }
set_option maxHeartbeats 1000000 in
set_option maxRecDepth 20000 in
theorem o_X1_advance_b37 {E : Ex} {g : Gx} (C : Ctx E RX1 cX1_advance rm_X1_advance 2 g) {rr : Unit} {wr : Wd} (hR : Rets E g none none wr) (w : Wd) (hM : f_X1_advance_b37 w = some (rr, wr)) : Xx E 2 g 37 [(0, .ref (ad g 1))] [] w := by
  unfold f_X1_advance_b37 at hM
  refine x_aload_n C dX1_advance_37 0 rfl rfl ?_
  refine x_aload_n C dX1_advance_38 0 rfl rfl ?_
  refine xg_1_3 C kd_1 gw_112 dX1_advance_39 ?_
  obtain ⟨w_1, e_2, hM⟩ := bd hM
  refine xp_1_4 C kd_1 gw_113 dX1_advance_42 ?_
  refine x_w e_2 ?_
  refine x_aload_n C dX1_advance_45 0 rfl rfl ?_
  refine x_aload_n C dX1_advance_46 0 rfl rfl ?_
  refine xg_1_3 C kd_1 gw_112 dX1_advance_47 ?_
  obtain ⟨r_4, w_3, h_5, hM⟩ := cl hM
  refine x_callV (As := [.int (wget w_1 1 3)]) C (c_X1_letterAt E.l g (wget w_1 1 3) w_1 h_5) k_X1_letterAt kd_1 (by decide) rfl rfl gw_335 rfl rfl ⟨Nat.le_of_ble_eq_true rfl, Nat.le_of_ble_eq_true rfl⟩ rfl rfl (Nat.le_of_ble_eq_true rfl) dX1_advance_50 ?_
  obtain ⟨x1_6, e_7, hM⟩ := bd hM
  refine x_top e_7 ?_
  refine x_istore_n (L' := [(1, .int x1_6), (0, .ref (ad g 1))]) C dX1_advance_53 rfl (by decide) rfl ?_
  refine x_aload_n C dX1_advance_54 1 rfl rfl ?_
  refine xg_1_3 C kd_1 gw_112 dX1_advance_55 ?_
  refine x_aload_n C dX1_advance_58 1 rfl rfl ?_
  refine xg_1_2 C kd_1 gw_110 dX1_advance_59 ?_
  refine x_icmp_lt (tgt := 73) C dX1_advance_62 (by decide) (fun c_8 => ?_) (fun c_8 => ?_)
  · have hM := ip c_8 hM
    refine x_iload_n C dX1_advance_73 0 rfl rfl ?_
    obtain ⟨r_10, w_9, h_11, hM⟩ := cl hM
    refine x_callS (As := [.int x1_6]) C (c_X1_isDigit E.l g x1_6 w_3 h_11) k_X1_isDigit gw_339 rfl rfl ⟨Nat.le_of_ble_eq_true rfl, Nat.le_of_ble_eq_true rfl⟩ rfl rfl (Nat.le_of_ble_eq_true rfl) dX1_advance_74 ?_
    refine x_if_eq (tgt := 87) C dX1_advance_77 (by decide) (fun c_12 => ?_) (fun c_12 => ?_)
    · have hM := ip c_12 hM
      refine x_aload_n C dX1_advance_87 1 rfl rfl ?_
      refine x_dup C dX1_advance_88 rfl ?_
      refine xg_1_3 C kd_1 gw_112 dX1_advance_89 ?_
      refine x_iconst (v := 1) C dX1_advance_92 (by decide) ?_
      refine x_iadd C dX1_advance_93 ?_
      obtain ⟨w_13, e_14, hM⟩ := bd hM
      refine xp_1_3 C kd_1 gw_112 dX1_advance_94 ?_
      refine x_w e_14 ?_
      refine x_aload_n C dX1_advance_97 1 rfl rfl ?_
      refine x_iload_n C dX1_advance_98 0 rfl rfl ?_
      obtain ⟨r_16, w_15, h_17, hM⟩ := cl hM
      refine x_callS (As := [.int x1_6]) C (c_X1_isSign E.l g x1_6 w_13 h_17) k_X1_isSign gw_349 rfl rfl ⟨Nat.le_of_ble_eq_true rfl, Nat.le_of_ble_eq_true rfl⟩ rfl rfl (Nat.le_of_ble_eq_true rfl) dX1_advance_99 ?_
      refine x_if_eq (tgt := 109) C dX1_advance_102 (by decide) (fun c_18 => ?_) (fun c_18 => ?_)
      · have hM := ip c_18 hM
        refine x_iconst (v := 2) C dX1_advance_109 (by decide) ?_
        obtain ⟨w_19, e_20, hM⟩ := bd hM
        refine xp_1_5 C kd_1 gw_114 dX1_advance_110 ?_
        refine x_w e_20 ?_
        obtain ⟨rfl, rfl⟩ := rt hM
        exact x_vret C hR rfl dX1_advance_113
      · have hM := iq c_18 hM
        refine x_iload_n C dX1_advance_105 0 rfl rfl ?_
        refine x_goto (tgt := 110) C dX1_advance_106 (by decide) ?_
        obtain ⟨w_21, e_22, hM⟩ := bd hM
        refine xp_1_5 C kd_1 gw_114 dX1_advance_110 ?_
        refine x_w e_22 ?_
        obtain ⟨rfl, rfl⟩ := rt hM
        exact x_vret C hR rfl dX1_advance_113
    · have hM := iq c_12 hM
      refine x_aload_n C dX1_advance_80 1 rfl rfl ?_
      obtain ⟨r_24, w_23, h_25, hM⟩ := cl hM
      refine x_callVv (As := []) C (c_X1_takeDigits E.l g  w_9 h_25) k_X1_takeDigits kd_1 (by decide) rfl rfl gw_342 rfl rfl ⟨Nat.le_of_ble_eq_true rfl, Nat.le_of_ble_eq_true rfl⟩ rfl rfl (Nat.le_of_ble_eq_true rfl) dX1_advance_81 ?_
      refine x_goto (tgt := 113) C dX1_advance_84 (by decide) ?_
      obtain ⟨rfl, rfl⟩ := rt hM
      exact x_vret C hR rfl dX1_advance_113
  · have hM := iq c_8 hM
    refine x_aload_n C dX1_advance_65 1 rfl rfl ?_
    refine x_iconst (v := 0) C dX1_advance_66 (by decide) ?_
    obtain ⟨w_26, e_27, hM⟩ := bd hM
    refine xp_1_5 C kd_1 gw_114 dX1_advance_67 ?_
    refine x_w e_27 ?_
    refine x_goto (tgt := 113) C dX1_advance_70 (by decide) ?_
    obtain ⟨rfl, rfl⟩ := rt hM
    exact x_vret C hR rfl dX1_advance_113
set_option maxHeartbeats 1000000 in
set_option maxRecDepth 20000 in
theorem o_X1_advance_h2 {E : Ex} {g : Gx} (C : Ctx E RX1 cX1_advance rm_X1_advance 2 g) {rr : Unit} {wr : Wd} (hR : Rets E g none none wr) {kh2 : (Int32 → Wd → Option (Unit × Wd))} (Hh2 : ∀ (x1 : Int32) (w : Wd), kh2 x1 w = some (rr, wr) → Xx E 2 g 2 [(0, .ref (ad g 1)), (1, .int x1)] [] w) (x1 : Int32) (w : Wd) (hM : f_X1_advance_h2 kh2 x1 w = some (rr, wr)) : Xx E 2 g 2 [(0, .ref (ad g 1)), (1, .int x1)] [] w := by
  unfold f_X1_advance_h2 at hM
  refine x_iload_n C dX1_advance_2 1 rfl rfl ?_
  refine x_bipush (v := 120) C dX1_advance_3 (by decide) ?_
  refine x_icmp_ge (tgt := 37) C dX1_advance_5 (by decide) (fun c_1 => ?_) (fun c_1 => ?_)
  · have hM := ip c_1 hM
    refine x_sub (L' := [(0, .ref (ad g 1))]) [0] rfl ?_
    exact o_X1_advance_b37 C hR w hM
  · have hM := iq c_1 hM
    refine x_aload_n C dX1_advance_8 0 rfl rfl ?_
    refine x_aload_n C dX1_advance_9 0 rfl rfl ?_
    refine xg_1_3 C kd_1 gw_112 dX1_advance_10 ?_
    obtain ⟨r_3, w_2, h_4, hM⟩ := cl hM
    refine x_callV (As := [.int (wget w 1 3)]) C (c_X1_letterAt E.l g (wget w 1 3) w h_4) k_X1_letterAt kd_1 (by decide) rfl rfl gw_335 rfl rfl ⟨Nat.le_of_ble_eq_true rfl, Nat.le_of_ble_eq_true rfl⟩ rfl rfl (Nat.le_of_ble_eq_true rfl) dX1_advance_13 ?_
    refine x_bipush (v := 32) C dX1_advance_16 (by decide) ?_
    refine x_icmp_ne (tgt := 37) C dX1_advance_18 (by decide) (fun c_5 => ?_) (fun c_5 => ?_)
    · have hM := iq c_5 hM
      refine x_sub (L' := [(0, .ref (ad g 1))]) [0] rfl ?_
      exact o_X1_advance_b37 C hR w_2 hM
    · have hM := ip c_5 hM
      refine x_aload_n C dX1_advance_21 0 rfl rfl ?_
      refine x_dup C dX1_advance_22 rfl ?_
      refine xg_1_3 C kd_1 gw_112 dX1_advance_23 ?_
      refine x_iconst (v := 1) C dX1_advance_26 (by decide) ?_
      refine x_iadd C dX1_advance_27 ?_
      obtain ⟨w_6, e_7, hM⟩ := bd hM
      refine xp_1_3 C kd_1 gw_112 dX1_advance_28 ?_
      refine x_w e_7 ?_
      obtain ⟨x1_8, e_9, hM⟩ := bd hM
      refine x_iinc (L' := [(1, .int x1_8), (0, .ref (ad g 1))]) C dX1_advance_31 1 rfl (v := x1_8) (by rw [e_9]; first | rfl | decide) (by decide) rfl ?_
      refine x_goto (tgt := 2) C dX1_advance_34 (by decide) ?_
      refine x_sub (L' := [(0, .ref (ad g 1)), (1, .int x1_8)]) [1, 0] rfl ?_
      exact Hh2 x1_8 w_6 hM
theorem o_X1_advance_l2 {E : Ex} {g : Gx} (C : Ctx E RX1 cX1_advance rm_X1_advance 2 g) {rr : Unit} {wr : Wd} (hR : Rets E g none none wr) : ∀ (n : Nat) (x1 : Int32) (w : Wd), f_X1_advance_l2 n x1 w = some (rr, wr) → Xx E 2 g 2 [(0, .ref (ad g 1)), (1, .int x1)] [] w := by
  intro n
  induction n with
  | zero =>
    intro x1 w hM
    rw [f_X1_advance_l2] at hM
    cases hM
  | succ n ih =>
    intro x1 w hM
    rw [f_X1_advance_l2] at hM
    exact o_X1_advance_h2 C hR ih x1 w hM
set_option maxHeartbeats 1000000 in
set_option maxRecDepth 20000 in
theorem o_X1_advance_b0 {E : Ex} {g : Gx} (C : Ctx E RX1 cX1_advance rm_X1_advance 2 g) {rr : Unit} {wr : Wd} (hR : Rets E g none none wr) (w : Wd) (hM : f_X1_advance_b0 w = some (rr, wr)) : Xx E 2 g 0 [(0, .ref (ad g 1))] [] w := by
  unfold f_X1_advance_b0 at hM
  refine x_iconst (v := 0) C dX1_advance_0 (by decide) ?_
  obtain ⟨x1_1, e_2, hM⟩ := bd hM
  refine x_top e_2 ?_
  refine x_istore_n (L' := [(1, .int x1_1), (0, .ref (ad g 1))]) C dX1_advance_1 rfl (by decide) rfl ?_
  refine x_sub (L' := [(0, .ref (ad g 1)), (1, .int x1_1)]) [1, 0] rfl ?_
  exact o_X1_advance_l2 C hR 300 x1_1 w hM
theorem c_X1_advance (l : Launch) (g : Gx) (w : Wd) {rr : Unit} {wr : Wd} (hM : f_X1_advance w = some (rr, wr)) : MetM l yX1_advance cX1_advance 2 none rm_X1_advance g [.ref (ad g 1)] w none wr := by
  refine met_of (by decide) (Nat.le_of_ble_eq_true rfl) (fun E hl C hR => ?_)
  refine x_sub (L' := [(0, .ref (ad g 1))]) [0] rfl ?_
  exact o_X1_advance_b0 C hR w hM
abbrev rm_X1_mayBegin : Room := { frames := 0, cells := 0, slots := 0, locals := 0 }
set_option maxHeartbeats 1000000 in
set_option maxRecDepth 20000 in
theorem o_X1_mayBegin_b0 {E : Ex} {g : Gx} (C : Ctx E RX1 cX1_mayBegin rm_X1_mayBegin 3 g) {rr : Int32} {wr : Wd} (hR : Rets E g (some .boolean) (some (.int rr)) wr) {k2 : Nat} (hk2 : kindOf k2 = 2) (x1 : Int32) (w : Wd) (hM : f_X1_mayBegin_b0 k2 x1 w = some (rr, wr)) : Xx E 3 g 0 [(0, .ref (ad g 1)), (1, .int x1), (2, .ref (ad g k2))] [] w := by
  unfold f_X1_mayBegin_b0 at hM
  refine x_iload_n C dX1_mayBegin_0 1 rfl rfl ?_
  by_cases c_2 : x1 = 100
  · have hM := ip c_2 hM
    refine x_lookup (off := 43) (tgt := 44) C dX1_mayBegin_1 (by decide) (by rw [c_2]; rfl) (by decide) ?_
    refine x_aload_n C dX1_mayBegin_44 2 rfl rfl ?_
    refine xgN_2_0 C hk2 nw_148 dX1_mayBegin_45 ?_
    refine x_bipush (v := 6) C dX1_mayBegin_48 (by decide) ?_
    refine x_icmp_ge (tgt := 57) C dX1_mayBegin_50 (by decide) (fun c_1 => ?_) (fun c_1 => ?_)
    · have hM := ip c_1 hM
      refine x_iconst (v := 0) C dX1_mayBegin_57 (by decide) ?_
      obtain ⟨rfl, rfl⟩ := rt hM
      exact x_zret C hR (by rfl) rfl dX1_mayBegin_58
    · have hM := iq c_1 hM
      refine x_iconst (v := 1) C dX1_mayBegin_53 (by decide) ?_
      refine x_goto (tgt := 58) C dX1_mayBegin_54 (by decide) ?_
      obtain ⟨rfl, rfl⟩ := rt hM
      exact x_zret C hR (by rfl) rfl dX1_mayBegin_58
  have hM := iq c_2 hM
  have oc_2 := @lv_osw _ _ 100 43 97 [(103, 71), (104, 58), (114, 84)] c_2 (by decide)
  by_cases c_4 : x1 = 103
  · have hM := ip c_4 hM
    refine x_lookup (off := 71) (tgt := 72) C dX1_mayBegin_1 (by decide) (by rw [c_4]; rfl) (by decide) ?_
    refine x_aload_n C dX1_mayBegin_72 0 rfl rfl ?_
    refine xg_1_8 C kd_1 gw_117 dX1_mayBegin_73 ?_
    refine x_if_ne (tgt := 83) C dX1_mayBegin_76 (by decide) (fun c_3 => ?_) (fun c_3 => ?_)
    · have hM := iq c_3 hM
      refine x_iconst (v := 0) C dX1_mayBegin_83 (by decide) ?_
      obtain ⟨rfl, rfl⟩ := rt hM
      exact x_zret C hR (by rfl) rfl dX1_mayBegin_84
    · have hM := ip c_3 hM
      refine x_iconst (v := 1) C dX1_mayBegin_79 (by decide) ?_
      refine x_goto (tgt := 84) C dX1_mayBegin_80 (by decide) ?_
      obtain ⟨rfl, rfl⟩ := rt hM
      exact x_zret C hR (by rfl) rfl dX1_mayBegin_84
  have hM := iq c_4 hM
  have oc_4 := @lv_osw _ _ 103 71 97 [(104, 58), (114, 84)] c_4 (by decide)
  by_cases c_6 : x1 = 104
  · have hM := ip c_6 hM
    refine x_lookup (off := 58) (tgt := 59) C dX1_mayBegin_1 (by decide) (by rw [c_6]; rfl) (by decide) ?_
    refine x_aload_n C dX1_mayBegin_59 0 rfl rfl ?_
    refine xg_1_7 C kd_1 gw_116 dX1_mayBegin_60 ?_
    refine x_if_ne (tgt := 70) C dX1_mayBegin_63 (by decide) (fun c_5 => ?_) (fun c_5 => ?_)
    · have hM := iq c_5 hM
      refine x_iconst (v := 0) C dX1_mayBegin_70 (by decide) ?_
      obtain ⟨rfl, rfl⟩ := rt hM
      exact x_zret C hR (by rfl) rfl dX1_mayBegin_71
    · have hM := ip c_5 hM
      refine x_iconst (v := 1) C dX1_mayBegin_66 (by decide) ?_
      refine x_goto (tgt := 71) C dX1_mayBegin_67 (by decide) ?_
      obtain ⟨rfl, rfl⟩ := rt hM
      exact x_zret C hR (by rfl) rfl dX1_mayBegin_71
  have hM := iq c_6 hM
  have oc_6 := @lv_osw _ _ 104 58 97 [(114, 84)] c_6 (by decide)
  by_cases c_8 : x1 = 114
  · have hM := ip c_8 hM
    refine x_lookup (off := 84) (tgt := 85) C dX1_mayBegin_1 (by decide) (by rw [c_8]; rfl) (by decide) ?_
    refine x_aload_n C dX1_mayBegin_85 0 rfl rfl ?_
    refine xg_1_9 C kd_1 gw_118 dX1_mayBegin_86 ?_
    refine x_if_ne (tgt := 96) C dX1_mayBegin_89 (by decide) (fun c_7 => ?_) (fun c_7 => ?_)
    · have hM := iq c_7 hM
      refine x_iconst (v := 0) C dX1_mayBegin_96 (by decide) ?_
      obtain ⟨rfl, rfl⟩ := rt hM
      exact x_zret C hR (by rfl) rfl dX1_mayBegin_97
    · have hM := ip c_7 hM
      refine x_iconst (v := 1) C dX1_mayBegin_92 (by decide) ?_
      refine x_goto (tgt := 97) C dX1_mayBegin_93 (by decide) ?_
      obtain ⟨rfl, rfl⟩ := rt hM
      exact x_zret C hR (by rfl) rfl dX1_mayBegin_97
  have hM := iq c_8 hM
  have oc_8 := @lv_osw _ _ 114 84 97 [] c_8 (by decide)
  refine x_lookup (off := 97) (tgt := 98) C dX1_mayBegin_1 (by decide) (oc_2.trans (oc_4.trans (oc_6.trans oc_8))) (by decide) ?_
  refine x_iconst (v := 0) C dX1_mayBegin_98 (by decide) ?_
  obtain ⟨rfl, rfl⟩ := rt hM
  exact x_zret C hR (by rfl) rfl dX1_mayBegin_99
theorem c_X1_mayBegin (l : Launch) (g : Gx) (k2 : Nat) (x1 : Int32) (hk2 : kindOf k2 = 2) (w : Wd) {rr : Int32} {wr : Wd} (hM : f_X1_mayBegin k2 x1 w = some (rr, wr)) : MetM l yX1_mayBegin cX1_mayBegin 3 (some .boolean) rm_X1_mayBegin g [.ref (ad g 1), .int x1, .ref (ad g k2)] w (some (.int rr)) wr := by
  refine met_of (by decide) (Nat.le_of_ble_eq_true rfl) (fun E hl C hR => ?_)
  refine x_sub (L' := [(0, .ref (ad g 1)), (1, .int x1), (2, .ref (ad g k2))]) [0, 1, 2] rfl ?_
  exact o_X1_mayBegin_b0 C hR hk2 x1 w hM
abbrev rm_X1_leastOf : Room := { frames := 0, cells := 0, slots := 0, locals := 0 }
set_option maxHeartbeats 1000000 in
set_option maxRecDepth 20000 in
theorem o_X1_leastOf_b0 {E : Ex} {g : Gx} (C : Ctx E RX1 cX1_leastOf rm_X1_leastOf 2 g) {rr : Int32} {wr : Wd} (hR : Rets E g (some .int) (some (.int rr)) wr) (x0 : Int32) (x1 : Int32) (w : Wd) (hM : f_X1_leastOf_b0 x0 x1 w = some (rr, wr)) : Xx E 2 g 0 [(0, .int x0), (1, .int x1)] [] w := by
  unfold f_X1_leastOf_b0 at hM
  refine x_iload_n C dX1_leastOf_0 0 rfl rfl ?_
  refine x_bipush (v := 114) C dX1_leastOf_1 (by decide) ?_
  refine x_icmp_ne (tgt := 9) C dX1_leastOf_3 (by decide) (fun c_1 => ?_) (fun c_1 => ?_)
  · have hM := iq c_1 hM
    refine x_iload_n C dX1_leastOf_9 0 rfl rfl ?_
    refine x_bipush (v := 100) C dX1_leastOf_10 (by decide) ?_
    refine x_icmp_ne (tgt := 24) C dX1_leastOf_12 (by decide) (fun c_2 => ?_) (fun c_2 => ?_)
    · have hM := iq c_2 hM
      refine x_iconst (v := 0) C dX1_leastOf_24 (by decide) ?_
      obtain ⟨rfl, rfl⟩ := rt hM
      exact x_iret C hR rfl dX1_leastOf_25
    · have hM := ip c_2 hM
      refine x_iload_n C dX1_leastOf_15 1 rfl rfl ?_
      refine x_iconst (v := 1) C dX1_leastOf_16 (by decide) ?_
      refine x_icmp_ne (tgt := 24) C dX1_leastOf_17 (by decide) (fun c_3 => ?_) (fun c_3 => ?_)
      · have hM := iq c_3 hM
        refine x_iconst (v := 0) C dX1_leastOf_24 (by decide) ?_
        obtain ⟨rfl, rfl⟩ := rt hM
        exact x_iret C hR rfl dX1_leastOf_25
      · have hM := ip c_3 hM
        refine x_iconst (v := 1) C dX1_leastOf_20 (by decide) ?_
        refine x_goto (tgt := 25) C dX1_leastOf_21 (by decide) ?_
        obtain ⟨rfl, rfl⟩ := rt hM
        exact x_iret C hR rfl dX1_leastOf_25
  · have hM := ip c_1 hM
    refine x_bipush (v := 9) C dX1_leastOf_6 (by decide) ?_
    obtain ⟨rfl, rfl⟩ := rt hM
    exact x_iret C hR rfl dX1_leastOf_8
theorem c_X1_leastOf (l : Launch) (g : Gx) (x0 : Int32) (x1 : Int32) (w : Wd) {rr : Int32} {wr : Wd} (hM : f_X1_leastOf x0 x1 w = some (rr, wr)) : MetM l yX1_leastOf cX1_leastOf 2 (some .int) rm_X1_leastOf g [.int x0, .int x1] w (some (.int rr)) wr := by
  refine met_of (by decide) (Nat.le_of_ble_eq_true rfl) (fun E hl C hR => ?_)
  refine x_sub (L' := [(0, .int x0), (1, .int x1)]) [0, 1] rfl ?_
  exact o_X1_leastOf_b0 C hR x0 x1 w hM
abbrev rm_X1_greatestOf : Room := { frames := 0, cells := 0, slots := 0, locals := 0 }
set_option maxHeartbeats 1000000 in
set_option maxRecDepth 20000 in
theorem o_X1_greatestOf_b22 {E : Ex} {g : Gx} (C : Ctx E RX1 cX1_greatestOf rm_X1_greatestOf 2 g) {rr : Int32} {wr : Wd} (hR : Rets E g (some .int) (some (.int rr)) wr) (x0 : Int32) (x1 : Int32) (w : Wd) (hM : f_X1_greatestOf_b22 x0 x1 w = some (rr, wr)) : Xx E 2 g 22 [(0, .int x0), (1, .int x1)] [] w := by
  unfold f_X1_greatestOf_b22 at hM
  refine x_iload_n C dX1_greatestOf_22 0 rfl rfl ?_
  refine x_bipush (v := 100) C dX1_greatestOf_23 (by decide) ?_
  refine x_icmp_ne (tgt := 37) C dX1_greatestOf_25 (by decide) (fun c_1 => ?_) (fun c_1 => ?_)
  · have hM := iq c_1 hM
    refine x_bipush (v := 9) C dX1_greatestOf_37 (by decide) ?_
    obtain ⟨rfl, rfl⟩ := rt hM
    exact x_iret C hR rfl dX1_greatestOf_39
  · have hM := ip c_1 hM
    refine x_iload_n C dX1_greatestOf_28 1 rfl rfl ?_
    refine x_iconst (v := 2) C dX1_greatestOf_29 (by decide) ?_
    refine x_icmp_ne (tgt := 37) C dX1_greatestOf_30 (by decide) (fun c_2 => ?_) (fun c_2 => ?_)
    · have hM := iq c_2 hM
      refine x_bipush (v := 9) C dX1_greatestOf_37 (by decide) ?_
      obtain ⟨rfl, rfl⟩ := rt hM
      exact x_iret C hR rfl dX1_greatestOf_39
    · have hM := ip c_2 hM
      refine x_iconst (v := 3) C dX1_greatestOf_33 (by decide) ?_
      refine x_goto (tgt := 39) C dX1_greatestOf_34 (by decide) ?_
      obtain ⟨rfl, rfl⟩ := rt hM
      exact x_iret C hR rfl dX1_greatestOf_39
set_option maxHeartbeats 1000000 in
set_option maxRecDepth 20000 in
theorem o_X1_greatestOf_b0 {E : Ex} {g : Gx} (C : Ctx E RX1 cX1_greatestOf rm_X1_greatestOf 2 g) {rr : Int32} {wr : Wd} (hR : Rets E g (some .int) (some (.int rr)) wr) (x0 : Int32) (x1 : Int32) (w : Wd) (hM : f_X1_greatestOf_b0 x0 x1 w = some (rr, wr)) : Xx E 2 g 0 [(0, .int x0), (1, .int x1)] [] w := by
  unfold f_X1_greatestOf_b0 at hM
  refine x_iload_n C dX1_greatestOf_0 0 rfl rfl ?_
  refine x_bipush (v := 114) C dX1_greatestOf_1 (by decide) ?_
  refine x_icmp_ne (tgt := 9) C dX1_greatestOf_3 (by decide) (fun c_1 => ?_) (fun c_1 => ?_)
  · have hM := iq c_1 hM
    refine x_iload_n C dX1_greatestOf_9 0 rfl rfl ?_
    refine x_bipush (v := 100) C dX1_greatestOf_10 (by decide) ?_
    refine x_icmp_ne (tgt := 22) C dX1_greatestOf_12 (by decide) (fun c_2 => ?_) (fun c_2 => ?_)
    · have hM := iq c_2 hM
      refine x_sub (L' := [(0, .int x0), (1, .int x1)]) [0, 1] rfl ?_
      exact o_X1_greatestOf_b22 C hR x0 x1 w hM
    · have hM := ip c_2 hM
      refine x_iload_n C dX1_greatestOf_15 1 rfl rfl ?_
      refine x_if_ne (tgt := 22) C dX1_greatestOf_16 (by decide) (fun c_3 => ?_) (fun c_3 => ?_)
      · have hM := iq c_3 hM
        refine x_sub (L' := [(0, .int x0), (1, .int x1)]) [0, 1] rfl ?_
        exact o_X1_greatestOf_b22 C hR x0 x1 w hM
      · have hM := ip c_3 hM
        refine x_bipush (v := 40) C dX1_greatestOf_19 (by decide) ?_
        obtain ⟨rfl, rfl⟩ := rt hM
        exact x_iret C hR rfl dX1_greatestOf_21
  · have hM := ip c_1 hM
    refine x_bipush (v := 40) C dX1_greatestOf_6 (by decide) ?_
    obtain ⟨rfl, rfl⟩ := rt hM
    exact x_iret C hR rfl dX1_greatestOf_8
theorem c_X1_greatestOf (l : Launch) (g : Gx) (x0 : Int32) (x1 : Int32) (w : Wd) {rr : Int32} {wr : Wd} (hM : f_X1_greatestOf x0 x1 w = some (rr, wr)) : MetM l yX1_greatestOf cX1_greatestOf 2 (some .int) rm_X1_greatestOf g [.int x0, .int x1] w (some (.int rr)) wr := by
  refine met_of (by decide) (Nat.le_of_ble_eq_true rfl) (fun E hl C hR => ?_)
  refine x_sub (L' := [(0, .int x0), (1, .int x1)]) [0, 1] rfl ?_
  exact o_X1_greatestOf_b0 C hR x0 x1 w hM
abbrev rm_X2_addDumpling : Room := { frames := 0, cells := 0, slots := 0, locals := 0 }
set_option maxHeartbeats 1000000 in
set_option maxRecDepth 20000 in
theorem o_X2_addDumpling_b0 {E : Ex} {g : Gx} (C : Ctx E RX2 cX2_addDumpling rm_X2_addDumpling 2 g) {rr : Unit} {wr : Wd} (hR : Rets E g none none wr) {k0 : Nat} (hk0 : kindOf k0 = 2) (w : Wd) (hM : f_X2_addDumpling_b0 k0 w = some (rr, wr)) : Xx E 2 g 0 [(0, .ref (ad g k0)), (1, .ref (ad g 3))] [] w := by
  unfold f_X2_addDumpling_b0 at hM
  refine x_aload_n C dX2_addDumpling_0 0 rfl rfl ?_
  refine xg_2_0 C hk0 gw_147 dX2_addDumpling_1 ?_
  refine x_if_lt (tgt := 22) C dX2_addDumpling_4 (by decide) (fun c_1 => ?_) (fun c_1 => ?_)
  · have hM := ip c_1 hM
    obtain ⟨rfl, rfl⟩ := rt hM
    exact x_vret C hR rfl dX2_addDumpling_22
  · have hM := iq c_1 hM
    refine x_aload_n C dX2_addDumpling_7 0 rfl rfl ?_
    refine xg_2_0 C hk0 gw_147 dX2_addDumpling_8 ?_
    refine x_bipush (v := 6) C dX2_addDumpling_11 (by decide) ?_
    refine x_icmp_ge (tgt := 22) C dX2_addDumpling_13 (by decide) (fun c_2 => ?_) (fun c_2 => ?_)
    · have hM := ip c_2 hM
      obtain ⟨rfl, rfl⟩ := rt hM
      exact x_vret C hR rfl dX2_addDumpling_22
    · have hM := iq c_2 hM
      refine x_aload_n C dX2_addDumpling_16 1 rfl rfl ?_
      refine x_alen (v := 4) C kd_3 (by rw [ln_3]; decide) dX2_addDumpling_17 ?_
      refine x_iconst (v := 4) C dX2_addDumpling_18 (by decide) ?_
      refine x_icmp_ge (tgt := 23) C dX2_addDumpling_19 (by decide) (fun c_3 => ?_) (fun c_3 => ?_)
      · have hM := ip c_3 hM
        refine x_aload_n C dX2_addDumpling_23 0 rfl rfl ?_
        refine xg_2_4 C hk0 gw_161 dX2_addDumpling_24 ?_
        refine x_aload_n C dX2_addDumpling_27 0 rfl rfl ?_
        refine xg_2_0 C hk0 gw_147 dX2_addDumpling_28 ?_
        refine x_aload_n C dX2_addDumpling_31 1 rfl rfl ?_
        refine x_iconst (v := 0) C dX2_addDumpling_32 (by decide) ?_
        refine x_iald C kd_3 ln_3 (by decide) (j := 0) (by decide) dX2_addDumpling_33 ?_
        obtain ⟨q_4, hM⟩ := gd hM
        obtain ⟨w_5, e_6, hM⟩ := bd hM
        refine x_iast C (kA2_1 hk0) (lA2_1 hk0) q_4 rfl dX2_addDumpling_34 ?_
        refine x_w e_6 ?_
        refine x_aload_n C dX2_addDumpling_35 0 rfl rfl ?_
        refine xg_2_5 C hk0 gw_164 dX2_addDumpling_36 ?_
        refine x_aload_n C dX2_addDumpling_39 0 rfl rfl ?_
        refine xg_2_0 C hk0 gw_147 dX2_addDumpling_40 ?_
        refine x_aload_n C dX2_addDumpling_43 1 rfl rfl ?_
        refine x_iconst (v := 1) C dX2_addDumpling_44 (by decide) ?_
        refine x_iald C kd_3 ln_3 (by decide) (j := 1) (by decide) dX2_addDumpling_45 ?_
        obtain ⟨q_7, hM⟩ := gd hM
        obtain ⟨w_8, e_9, hM⟩ := bd hM
        refine x_iast C (kA2_2 hk0) (lA2_2 hk0) q_7 rfl dX2_addDumpling_46 ?_
        refine x_w e_9 ?_
        refine x_aload_n C dX2_addDumpling_47 0 rfl rfl ?_
        refine xg_2_6 C hk0 gw_166 dX2_addDumpling_48 ?_
        refine x_aload_n C dX2_addDumpling_51 0 rfl rfl ?_
        refine xg_2_0 C hk0 gw_147 dX2_addDumpling_52 ?_
        refine x_aload_n C dX2_addDumpling_55 1 rfl rfl ?_
        refine x_iconst (v := 2) C dX2_addDumpling_56 (by decide) ?_
        refine x_iald C kd_3 ln_3 (by decide) (j := 2) (by decide) dX2_addDumpling_57 ?_
        obtain ⟨q_10, hM⟩ := gd hM
        obtain ⟨w_11, e_12, hM⟩ := bd hM
        refine x_iast C (kA2_3 hk0) (lA2_3 hk0) q_10 rfl dX2_addDumpling_58 ?_
        refine x_w e_12 ?_
        refine x_aload_n C dX2_addDumpling_59 0 rfl rfl ?_
        refine xg_2_7 C hk0 gw_169 dX2_addDumpling_60 ?_
        refine x_aload_n C dX2_addDumpling_63 0 rfl rfl ?_
        refine xg_2_0 C hk0 gw_147 dX2_addDumpling_64 ?_
        refine x_aload_n C dX2_addDumpling_67 1 rfl rfl ?_
        refine x_iconst (v := 3) C dX2_addDumpling_68 (by decide) ?_
        refine x_iald C kd_3 ln_3 (by decide) (j := 3) (by decide) dX2_addDumpling_69 ?_
        obtain ⟨q_13, hM⟩ := gd hM
        obtain ⟨w_14, e_15, hM⟩ := bd hM
        refine x_iast C (kA2_4 hk0) (lA2_4 hk0) q_13 rfl dX2_addDumpling_70 ?_
        refine x_w e_15 ?_
        refine x_aload_n C dX2_addDumpling_71 0 rfl rfl ?_
        refine x_dup C dX2_addDumpling_72 rfl ?_
        refine xg_2_0 C hk0 gw_147 dX2_addDumpling_73 ?_
        refine x_iconst (v := 1) C dX2_addDumpling_76 (by decide) ?_
        refine x_iadd C dX2_addDumpling_77 ?_
        obtain ⟨w_16, e_17, hM⟩ := bd hM
        refine xp_2_0 C hk0 gw_147 dX2_addDumpling_78 ?_
        refine x_w e_17 ?_
        obtain ⟨rfl, rfl⟩ := rt hM
        exact x_vret C hR rfl dX2_addDumpling_81
      · have hM := iq c_3 hM
        obtain ⟨rfl, rfl⟩ := rt hM
        exact x_vret C hR rfl dX2_addDumpling_22
theorem c_X2_addDumpling (l : Launch) (g : Gx) (k0 : Nat) (hk0 : kindOf k0 = 2) (w : Wd) {rr : Unit} {wr : Wd} (hM : f_X2_addDumpling k0 w = some (rr, wr)) : MetM l yX2_addDumpling cX2_addDumpling 2 none rm_X2_addDumpling g [.ref (ad g k0), .ref (ad g 3)] w none wr := by
  refine met_of (by decide) (Nat.le_of_ble_eq_true rfl) (fun E hl C hR => ?_)
  refine x_sub (L' := [(0, .ref (ad g k0)), (1, .ref (ad g 3))]) [0, 1] rfl ?_
  exact o_X2_addDumpling_b0 C hR hk0 w hM
abbrev rm_X1_tell : Room := { frames := 1, cells := 0, slots := 0, locals := 21 }
set_option maxHeartbeats 1000000 in
set_option maxRecDepth 20000 in
theorem o_X1_tell_b0 {E : Ex} {g : Gx} (C : Ctx E RX1 cX1_tell rm_X1_tell 3 g) {rr : Unit} {wr : Wd} (hR : Rets E g none none wr) {k2 : Nat} (hk2 : kindOf k2 = 2) (x1 : Int32) (w : Wd) (hM : f_X1_tell_b0 k2 x1 w = some (rr, wr)) : Xx E 3 g 0 [(0, .ref (ad g 1)), (1, .int x1), (2, .ref (ad g k2))] [] w := by
  unfold f_X1_tell_b0 at hM
  refine x_iload_n C dX1_tell_0 1 rfl rfl ?_
  refine x_bipush (v := 100) C dX1_tell_1 (by decide) ?_
  refine x_icmp_ne (tgt := 17) C dX1_tell_3 (by decide) (fun c_1 => ?_) (fun c_1 => ?_)
  · have hM := iq c_1 hM
    refine x_iload_n C dX1_tell_17 1 rfl rfl ?_
    refine x_bipush (v := 104) C dX1_tell_18 (by decide) ?_
    refine x_icmp_ne (tgt := 41) C dX1_tell_20 (by decide) (fun c_2 => ?_) (fun c_2 => ?_)
    · have hM := iq c_2 hM
      refine x_iload_n C dX1_tell_41 1 rfl rfl ?_
      refine x_bipush (v := 103) C dX1_tell_42 (by decide) ?_
      refine x_icmp_ne (tgt := 65) C dX1_tell_44 (by decide) (fun c_3 => ?_) (fun c_3 => ?_)
      · have hM := iq c_3 hM
        refine x_aload_n C dX1_tell_65 2 rfl rfl ?_
        refine x_aload_n C dX1_tell_66 0 rfl rfl ?_
        refine xg_1_1 C kd_1 gw_109 dX1_tell_67 ?_
        refine x_iconst (v := 0) C dX1_tell_70 (by decide) ?_
        refine x_iald C kd_3 ln_3 (by decide) (j := 0) (by decide) dX1_tell_71 ?_
        obtain ⟨w_4, e_5, hM⟩ := bd hM
        refine xpN_2_3 C hk2 nw_159 dX1_tell_72 ?_
        refine x_w e_5 ?_
        refine x_aload_n C dX1_tell_75 0 rfl rfl ?_
        refine x_iconst (v := 1) C dX1_tell_76 (by decide) ?_
        obtain ⟨w_6, e_7, hM⟩ := bd hM
        refine xp_1_9 C kd_1 (by decide) gw_118 dX1_tell_77 ?_
        refine x_w e_7 ?_
        obtain ⟨rfl, rfl⟩ := rt hM
        exact x_vret C hR rfl dX1_tell_80
      · have hM := ip c_3 hM
        refine x_aload_n C dX1_tell_47 2 rfl rfl ?_
        refine x_aload_n C dX1_tell_48 0 rfl rfl ?_
        refine xg_1_1 C kd_1 gw_109 dX1_tell_49 ?_
        refine x_iconst (v := 0) C dX1_tell_52 (by decide) ?_
        refine x_iald C kd_3 ln_3 (by decide) (j := 0) (by decide) dX1_tell_53 ?_
        obtain ⟨w_8, e_9, hM⟩ := bd hM
        refine xpN_2_2 C hk2 nw_155 dX1_tell_54 ?_
        refine x_w e_9 ?_
        refine x_aload_n C dX1_tell_57 0 rfl rfl ?_
        refine x_iconst (v := 1) C dX1_tell_58 (by decide) ?_
        obtain ⟨w_10, e_11, hM⟩ := bd hM
        refine xp_1_8 C kd_1 (by decide) gw_117 dX1_tell_59 ?_
        refine x_w e_11 ?_
        refine x_goto (tgt := 80) C dX1_tell_62 (by decide) ?_
        obtain ⟨rfl, rfl⟩ := rt hM
        exact x_vret C hR rfl dX1_tell_80
    · have hM := ip c_2 hM
      refine x_aload_n C dX1_tell_23 2 rfl rfl ?_
      refine x_aload_n C dX1_tell_24 0 rfl rfl ?_
      refine xg_1_1 C kd_1 gw_109 dX1_tell_25 ?_
      refine x_iconst (v := 0) C dX1_tell_28 (by decide) ?_
      refine x_iald C kd_3 ln_3 (by decide) (j := 0) (by decide) dX1_tell_29 ?_
      obtain ⟨w_12, e_13, hM⟩ := bd hM
      refine xpN_2_1 C hk2 nw_152 dX1_tell_30 ?_
      refine x_w e_13 ?_
      refine x_aload_n C dX1_tell_33 0 rfl rfl ?_
      refine x_iconst (v := 1) C dX1_tell_34 (by decide) ?_
      obtain ⟨w_14, e_15, hM⟩ := bd hM
      refine xp_1_7 C kd_1 (by decide) gw_116 dX1_tell_35 ?_
      refine x_w e_15 ?_
      refine x_goto (tgt := 80) C dX1_tell_38 (by decide) ?_
      obtain ⟨rfl, rfl⟩ := rt hM
      exact x_vret C hR rfl dX1_tell_80
  · have hM := ip c_1 hM
    refine x_aload_n C dX1_tell_6 2 rfl rfl ?_
    refine x_aload_n C dX1_tell_7 0 rfl rfl ?_
    refine xg_1_1 C kd_1 gw_109 dX1_tell_8 ?_
    obtain ⟨r_17, w_16, h_18, hM⟩ := cl hM
    refine x_callVNv (As := [.ref (ad g 3)]) C (c_X2_addDumpling E.l g k2 hk2 w h_18) k_X2_addDumpling hk2 (by decide) rfl rfl nw_370 rfl rfl ⟨Nat.le_of_ble_eq_true rfl, Nat.le_of_ble_eq_true rfl⟩ rfl rfl (Nat.le_of_ble_eq_true rfl) dX1_tell_11 ?_
    refine x_goto (tgt := 80) C dX1_tell_14 (by decide) ?_
    obtain ⟨rfl, rfl⟩ := rt hM
    exact x_vret C hR rfl dX1_tell_80
theorem c_X1_tell (l : Launch) (g : Gx) (k2 : Nat) (x1 : Int32) (hk2 : kindOf k2 = 2) (w : Wd) {rr : Unit} {wr : Wd} (hM : f_X1_tell k2 x1 w = some (rr, wr)) : MetM l yX1_tell cX1_tell 3 none rm_X1_tell g [.ref (ad g 1), .int x1, .ref (ad g k2)] w none wr := by
  refine met_of (by decide) (Nat.le_of_ble_eq_true rfl) (fun E hl C hR => ?_)
  refine x_sub (L' := [(0, .ref (ad g 1)), (1, .int x1), (2, .ref (ad g k2))]) [0, 1, 2] rfl ?_
  exact o_X1_tell_b0 C hR hk2 x1 w hM
abbrev rm_X1_readItem : Room := { frames := 3, cells := 0, slots := 0, locals := 63 }
set_option maxHeartbeats 1000000 in
set_option maxRecDepth 20000 in
theorem o_X1_readItem_h31 {E : Ex} {g : Gx} (C : Ctx E RX1 cX1_readItem rm_X1_readItem 5 g) {rr : Int32} {wr : Wd} (hR : Rets E g (some .boolean) (some (.int rr)) wr) {k1 : Nat} (hk1 : kindOf k1 = 2) {kh31 : (Int32 → Int32 → Int32 → Wd → Option (Int32 × Wd))} (Hh31 : ∀ (x2 : Int32) (x3 : Int32) (x4 : Int32) (w : Wd), kh31 x2 x3 x4 w = some (rr, wr) → Xx E 5 g 31 [(0, .ref (ad g 1)), (1, .ref (ad g k1)), (2, .int x2), (3, .int x3), (4, .int x4)] [] w) (x2 : Int32) (x3 : Int32) (x4 : Int32) (w : Wd) (hM : f_X1_readItem_h31 k1 kh31 x2 x3 x4 w = some (rr, wr)) : Xx E 5 g 31 [(0, .ref (ad g 1)), (1, .ref (ad g k1)), (2, .int x2), (3, .int x3), (4, .int x4)] [] w := by
  unfold f_X1_readItem_h31 at hM
  refine x_iload C dX1_readItem_31 4 rfl ?_
  refine x_iload_n C dX1_readItem_33 3 rfl rfl ?_
  refine x_icmp_ge (tgt := 94) C dX1_readItem_34 (by decide) (fun c_1 => ?_) (fun c_1 => ?_)
  · have hM := ip c_1 hM
    refine x_aload_n C dX1_readItem_94 0 rfl rfl ?_
    obtain ⟨r_3, w_2, h_4, hM⟩ := cl hM
    refine x_callVv (As := []) C (c_X1_advance E.l g  w h_4) k_X1_advance kd_1 (by decide) rfl rfl gw_331 rfl rfl ⟨Nat.le_of_ble_eq_true rfl, Nat.le_of_ble_eq_true rfl⟩ rfl rfl (Nat.le_of_ble_eq_true rfl) dX1_readItem_95 ?_
    refine x_aload_n C dX1_readItem_98 0 rfl rfl ?_
    refine xg_1_5 C kd_1 gw_114 dX1_readItem_99 ?_
    refine x_bipush (v := 59) C dX1_readItem_102 (by decide) ?_
    refine x_icmp_eq (tgt := 109) C dX1_readItem_104 (by decide) (fun c_5 => ?_) (fun c_5 => ?_)
    · have hM := ip c_5 hM
      refine x_aload_n C dX1_readItem_109 0 rfl rfl ?_
      refine x_iload_n C dX1_readItem_110 2 rfl rfl ?_
      refine x_aload_n C dX1_readItem_111 1 rfl rfl ?_
      obtain ⟨r_7, w_6, h_8, hM⟩ := cl hM
      refine x_callVv (As := [.int x2, .ref (ad g k1)]) C (c_X1_tell E.l g k1 x2 hk1 w_2 h_8) k_X1_tell kd_1 (by decide) rfl rfl gw_366 rfl rfl ⟨Nat.le_of_ble_eq_true rfl, Nat.le_of_ble_eq_true rfl⟩ rfl rfl (Nat.le_of_ble_eq_true rfl) dX1_readItem_112 ?_
      refine x_iconst (v := 1) C dX1_readItem_115 (by decide) ?_
      obtain ⟨rfl, rfl⟩ := rt hM
      exact x_zret C hR (by rfl) rfl dX1_readItem_116
    · have hM := iq c_5 hM
      refine x_iconst (v := 0) C dX1_readItem_107 (by decide) ?_
      obtain ⟨rfl, rfl⟩ := rt hM
      exact x_zret C hR (by rfl) rfl dX1_readItem_108
  · have hM := iq c_1 hM
    refine x_aload_n C dX1_readItem_37 0 rfl rfl ?_
    obtain ⟨r_10, w_9, h_11, hM⟩ := cl hM
    refine x_callVv (As := []) C (c_X1_advance E.l g  w h_11) k_X1_advance kd_1 (by decide) rfl rfl gw_331 rfl rfl ⟨Nat.le_of_ble_eq_true rfl, Nat.le_of_ble_eq_true rfl⟩ rfl rfl (Nat.le_of_ble_eq_true rfl) dX1_readItem_38 ?_
    refine x_aload_n C dX1_readItem_41 0 rfl rfl ?_
    refine xg_1_5 C kd_1 gw_114 dX1_readItem_42 ?_
    refine x_iconst (v := 1) C dX1_readItem_45 (by decide) ?_
    refine x_icmp_ne (tgt := 75) C dX1_readItem_46 (by decide) (fun c_12 => ?_) (fun c_12 => ?_)
    · have hM := iq c_12 hM
      refine x_iconst (v := 0) C dX1_readItem_75 (by decide) ?_
      obtain ⟨rfl, rfl⟩ := rt hM
      exact x_zret C hR (by rfl) rfl dX1_readItem_76
    · have hM := ip c_12 hM
      refine x_aload_n C dX1_readItem_49 0 rfl rfl ?_
      refine xg_1_6 C kd_1 gw_115 dX1_readItem_50 ?_
      refine x_iload_n C dX1_readItem_53 2 rfl rfl ?_
      refine x_iload C dX1_readItem_54 4 rfl ?_
      obtain ⟨r_14, w_13, h_15, hM⟩ := cl hM
      refine x_callS (As := [.int x2, .int x4]) C (c_X1_leastOf E.l g x2 x4 w_9 h_15) k_X1_leastOf gw_360 rfl rfl ⟨Nat.le_of_ble_eq_true rfl, Nat.le_of_ble_eq_true rfl⟩ rfl rfl (Nat.le_of_ble_eq_true rfl) dX1_readItem_56 ?_
      refine x_icmp_lt (tgt := 75) C dX1_readItem_59 (by decide) (fun c_16 => ?_) (fun c_16 => ?_)
      · have hM := ip c_16 hM
        refine x_iconst (v := 0) C dX1_readItem_75 (by decide) ?_
        obtain ⟨rfl, rfl⟩ := rt hM
        exact x_zret C hR (by rfl) rfl dX1_readItem_76
      · have hM := iq c_16 hM
        refine x_aload_n C dX1_readItem_62 0 rfl rfl ?_
        refine xg_1_6 C kd_1 gw_115 dX1_readItem_63 ?_
        refine x_iload_n C dX1_readItem_66 2 rfl rfl ?_
        refine x_iload C dX1_readItem_67 4 rfl ?_
        obtain ⟨r_18, w_17, h_19, hM⟩ := cl hM
        refine x_callS (As := [.int x2, .int x4]) C (c_X1_greatestOf E.l g x2 x4 w_13 h_19) k_X1_greatestOf gw_363 rfl rfl ⟨Nat.le_of_ble_eq_true rfl, Nat.le_of_ble_eq_true rfl⟩ rfl rfl (Nat.le_of_ble_eq_true rfl) dX1_readItem_69 ?_
        refine x_icmp_le (tgt := 77) C dX1_readItem_72 (by decide) (fun c_20 => ?_) (fun c_20 => ?_)
        · have hM := ip c_20 hM
          refine x_aload_n C dX1_readItem_77 0 rfl rfl ?_
          refine xg_1_1 C kd_1 gw_109 dX1_readItem_78 ?_
          refine x_iload C dX1_readItem_81 4 rfl ?_
          refine x_aload_n C dX1_readItem_83 0 rfl rfl ?_
          refine xg_1_6 C kd_1 gw_115 dX1_readItem_84 ?_
          obtain ⟨q_21, hM⟩ := gd hM
          obtain ⟨w_22, e_23, hM⟩ := bd hM
          refine x_iast C kd_3 ln_3 q_21 rfl dX1_readItem_87 ?_
          refine x_w e_23 ?_
          obtain ⟨x4_24, e_25, hM⟩ := bd hM
          refine x_iinc (L' := [(4, .int x4_24), (0, .ref (ad g 1)), (1, .ref (ad g k1)), (2, .int x2), (3, .int x3)]) C dX1_readItem_88 4 rfl (v := x4_24) (by rw [e_25]; first | rfl | decide) (by decide) rfl ?_
          refine x_goto (tgt := 31) C dX1_readItem_91 (by decide) ?_
          refine x_sub (L' := [(0, .ref (ad g 1)), (1, .ref (ad g k1)), (2, .int x2), (3, .int x3), (4, .int x4_24)]) [1, 2, 3, 4, 0] rfl ?_
          exact Hh31 x2 x3 x4_24 w_22 hM
        · have hM := iq c_20 hM
          refine x_iconst (v := 0) C dX1_readItem_75 (by decide) ?_
          obtain ⟨rfl, rfl⟩ := rt hM
          exact x_zret C hR (by rfl) rfl dX1_readItem_76
theorem o_X1_readItem_l31 {E : Ex} {g : Gx} (C : Ctx E RX1 cX1_readItem rm_X1_readItem 5 g) {rr : Int32} {wr : Wd} (hR : Rets E g (some .boolean) (some (.int rr)) wr) {k1 : Nat} (hk1 : kindOf k1 = 2) : ∀ (n : Nat) (x2 : Int32) (x3 : Int32) (x4 : Int32) (w : Wd), f_X1_readItem_l31 k1 n x2 x3 x4 w = some (rr, wr) → Xx E 5 g 31 [(0, .ref (ad g 1)), (1, .ref (ad g k1)), (2, .int x2), (3, .int x3), (4, .int x4)] [] w := by
  intro n
  induction n with
  | zero =>
    intro x2 x3 x4 w hM
    rw [f_X1_readItem_l31] at hM
    cases hM
  | succ n ih =>
    intro x2 x3 x4 w hM
    rw [f_X1_readItem_l31] at hM
    exact o_X1_readItem_h31 C hR hk1 ih x2 x3 x4 w hM
set_option maxHeartbeats 1000000 in
set_option maxRecDepth 20000 in
theorem o_X1_readItem_b0 {E : Ex} {g : Gx} (C : Ctx E RX1 cX1_readItem rm_X1_readItem 5 g) {rr : Int32} {wr : Wd} (hR : Rets E g (some .boolean) (some (.int rr)) wr) {k1 : Nat} (hk1 : kindOf k1 = 2) (w : Wd) (hM : f_X1_readItem_b0 k1 w = some (rr, wr)) : Xx E 5 g 0 [(0, .ref (ad g 1)), (1, .ref (ad g k1))] [] w := by
  unfold f_X1_readItem_b0 at hM
  refine x_aload_n C dX1_readItem_0 0 rfl rfl ?_
  refine xg_1_5 C kd_1 gw_114 dX1_readItem_1 ?_
  obtain ⟨x2_1, e_2, hM⟩ := bd hM
  refine x_top e_2 ?_
  refine x_istore_n (L' := [(2, .int x2_1), (0, .ref (ad g 1)), (1, .ref (ad g k1))]) C dX1_readItem_4 rfl (by decide) rfl ?_
  refine x_aload_n C dX1_readItem_5 1 rfl rfl ?_
  refine x_iload_n C dX1_readItem_6 0 rfl rfl ?_
  refine x_aload_n C dX1_readItem_7 2 rfl rfl ?_
  obtain ⟨r_4, w_3, h_5, hM⟩ := cl hM
  refine x_callV (As := [.int x2_1, .ref (ad g k1)]) C (c_X1_mayBegin E.l g k1 x2_1 hk1 w h_5) k_X1_mayBegin kd_1 (by decide) rfl rfl gw_356 rfl rfl ⟨Nat.le_of_ble_eq_true rfl, Nat.le_of_ble_eq_true rfl⟩ rfl rfl (Nat.le_of_ble_eq_true rfl) dX1_readItem_8 ?_
  refine x_if_ne (tgt := 16) C dX1_readItem_11 (by decide) (fun c_6 => ?_) (fun c_6 => ?_)
  · have hM := iq c_6 hM
    refine x_iload_n C dX1_readItem_16 0 rfl rfl ?_
    refine x_bipush (v := 100) C dX1_readItem_17 (by decide) ?_
    refine x_icmp_ne (tgt := 26) C dX1_readItem_19 (by decide) (fun c_7 => ?_) (fun c_7 => ?_)
    · have hM := iq c_7 hM
      refine x_iconst (v := 1) C dX1_readItem_26 (by decide) ?_
      obtain ⟨x3_8, e_9, hM⟩ := bd hM
      refine x_top e_9 ?_
      refine x_istore_n (L' := [(3, .int x3_8), (2, .int x2_1), (0, .ref (ad g 1)), (1, .ref (ad g k1))]) C dX1_readItem_27 rfl (by decide) rfl ?_
      refine x_iconst (v := 0) C dX1_readItem_28 (by decide) ?_
      obtain ⟨x4_10, e_11, hM⟩ := bd hM
      refine x_top e_11 ?_
      refine x_istore (L' := [(4, .int x4_10), (3, .int x3_8), (2, .int x2_1), (0, .ref (ad g 1)), (1, .ref (ad g k1))]) C dX1_readItem_29 (by decide) rfl ?_
      refine x_sub (L' := [(0, .ref (ad g 1)), (1, .ref (ad g k1)), (2, .int x2_1), (3, .int x3_8), (4, .int x4_10)]) [3, 4, 2, 1, 0] rfl ?_
      exact o_X1_readItem_l31 C hR hk1 300 x2_1 x3_8 x4_10 w_3 hM
    · have hM := ip c_7 hM
      refine x_iconst (v := 4) C dX1_readItem_22 (by decide) ?_
      refine x_goto (tgt := 27) C dX1_readItem_23 (by decide) ?_
      obtain ⟨x3_12, e_13, hM⟩ := bd hM
      refine x_top e_13 ?_
      refine x_istore_n (L' := [(3, .int x3_12), (2, .int x2_1), (0, .ref (ad g 1)), (1, .ref (ad g k1))]) C dX1_readItem_27 rfl (by decide) rfl ?_
      refine x_iconst (v := 0) C dX1_readItem_28 (by decide) ?_
      obtain ⟨x4_14, e_15, hM⟩ := bd hM
      refine x_top e_15 ?_
      refine x_istore (L' := [(4, .int x4_14), (3, .int x3_12), (2, .int x2_1), (0, .ref (ad g 1)), (1, .ref (ad g k1))]) C dX1_readItem_29 (by decide) rfl ?_
      refine x_sub (L' := [(0, .ref (ad g 1)), (1, .ref (ad g k1)), (2, .int x2_1), (3, .int x3_12), (4, .int x4_14)]) [3, 4, 2, 1, 0] rfl ?_
      exact o_X1_readItem_l31 C hR hk1 300 x2_1 x3_12 x4_14 w_3 hM
  · have hM := ip c_6 hM
    refine x_iconst (v := 0) C dX1_readItem_14 (by decide) ?_
    obtain ⟨rfl, rfl⟩ := rt hM
    exact x_zret C hR (by rfl) rfl dX1_readItem_15
theorem c_X1_readItem (l : Launch) (g : Gx) (k1 : Nat) (hk1 : kindOf k1 = 2) (w : Wd) {rr : Int32} {wr : Wd} (hM : f_X1_readItem k1 w = some (rr, wr)) : MetM l yX1_readItem cX1_readItem 5 (some .boolean) rm_X1_readItem g [.ref (ad g 1), .ref (ad g k1)] w (some (.int rr)) wr := by
  refine met_of (by decide) (Nat.le_of_ble_eq_true rfl) (fun E hl C hR => ?_)
  refine x_sub (L' := [(0, .ref (ad g 1)), (1, .ref (ad g k1))]) [0, 1] rfl ?_
  exact o_X1_readItem_b0 C hR hk1 w hM
abbrev rm_X1_readInto : Room := { frames := 4, cells := 0, slots := 0, locals := 87 }
set_option maxHeartbeats 1000000 in
set_option maxRecDepth 20000 in
theorem o_X1_readInto_b74 {E : Ex} {g : Gx} (C : Ctx E RX1 cX1_readInto rm_X1_readInto 4 g) {rr : Int32} {wr : Wd} (hR : Rets E g (some .int) (some (.int rr)) wr) {k1 : Nat} (hk1 : kindOf k1 = 2) (x2 : Int32) (w : Wd) (hM : f_X1_readInto_b74 k1 x2 w = some (rr, wr)) : Xx E 4 g 74 [(2, .int x2)] [] w := by
  unfold f_X1_readInto_b74 at hM
  refine x_iload_n C dX1_readInto_74 0 rfl rfl ?_
  obtain ⟨rfl, rfl⟩ := rt hM
  exact x_iret C hR rfl dX1_readInto_75
set_option maxHeartbeats 1000000 in
set_option maxRecDepth 20000 in
theorem o_X1_readInto_h32 {E : Ex} {g : Gx} (C : Ctx E RX1 cX1_readInto rm_X1_readInto 4 g) {rr : Int32} {wr : Wd} (hR : Rets E g (some .int) (some (.int rr)) wr) {k1 : Nat} (hk1 : kindOf k1 = 2) {kh32 : (Int32 → Int32 → Wd → Option (Int32 × Wd))} (Hh32 : ∀ (x2 : Int32) (x3 : Int32) (w : Wd), kh32 x2 x3 w = some (rr, wr) → Xx E 4 g 32 [(0, .ref (ad g 1)), (1, .ref (ad g k1)), (2, .int x2), (3, .int x3)] [] w) (x2 : Int32) (x3 : Int32) (w : Wd) (hM : f_X1_readInto_h32 k1 kh32 x2 x3 w = some (rr, wr)) : Xx E 4 g 32 [(0, .ref (ad g 1)), (1, .ref (ad g k1)), (2, .int x2), (3, .int x3)] [] w := by
  unfold f_X1_readInto_h32 at hM
  refine x_iload_n C dX1_readInto_32 3 rfl rfl ?_
  refine x_bipush (v := 120) C dX1_readInto_33 (by decide) ?_
  refine x_icmp_ge (tgt := 74) C dX1_readInto_35 (by decide) (fun c_1 => ?_) (fun c_1 => ?_)
  · have hM := ip c_1 hM
    refine x_sub (L' := [(2, .int x2)]) [2] rfl ?_
    exact o_X1_readInto_b74 C hR hk1 x2 w hM
  · have hM := iq c_1 hM
    refine x_aload_n C dX1_readInto_38 0 rfl rfl ?_
    refine xg_1_5 C kd_1 gw_114 dX1_readInto_39 ?_
    refine x_if_eq (tgt := 74) C dX1_readInto_42 (by decide) (fun c_2 => ?_) (fun c_2 => ?_)
    · have hM := ip c_2 hM
      refine x_sub (L' := [(2, .int x2)]) [2] rfl ?_
      exact o_X1_readInto_b74 C hR hk1 x2 w hM
    · have hM := iq c_2 hM
      refine x_aload_n C dX1_readInto_45 0 rfl rfl ?_
      refine x_aload_n C dX1_readInto_46 1 rfl rfl ?_
      obtain ⟨r_4, w_3, h_5, hM⟩ := cl hM
      refine x_callV (As := [.ref (ad g k1)]) C (c_X1_readItem E.l g k1 hk1 w h_5) k_X1_readItem kd_1 (by decide) rfl rfl gw_352 rfl rfl ⟨Nat.le_of_ble_eq_true rfl, Nat.le_of_ble_eq_true rfl⟩ rfl rfl (Nat.le_of_ble_eq_true rfl) dX1_readInto_47 ?_
      refine x_if_ne (tgt := 61) C dX1_readInto_50 (by decide) (fun c_6 => ?_) (fun c_6 => ?_)
      · have hM := iq c_6 hM
        obtain ⟨x2_7, e_8, hM⟩ := bd hM
        refine x_iinc (L' := [(2, .int x2_7), (0, .ref (ad g 1)), (1, .ref (ad g k1)), (3, .int x3)]) C dX1_readInto_61 2 rfl (v := x2_7) (by rw [e_8]; first | rfl | decide) (by decide) rfl ?_
        refine x_aload_n C dX1_readInto_64 1 rfl rfl ?_
        obtain ⟨r_10, w_9, h_11, hM⟩ := cl hM
        refine x_callVv (As := []) C (c_X1_advance E.l g  w_3 h_11) k_X1_advance kd_1 (by decide) rfl rfl gw_331 rfl rfl ⟨Nat.le_of_ble_eq_true rfl, Nat.le_of_ble_eq_true rfl⟩ rfl rfl (Nat.le_of_ble_eq_true rfl) dX1_readInto_65 ?_
        obtain ⟨x3_12, e_13, hM⟩ := bd hM
        refine x_iinc (L' := [(3, .int x3_12), (2, .int x2_7), (0, .ref (ad g 1)), (1, .ref (ad g k1))]) C dX1_readInto_68 3 rfl (v := x3_12) (by rw [e_13]; first | rfl | decide) (by decide) rfl ?_
        refine x_goto (tgt := 32) C dX1_readInto_71 (by decide) ?_
        refine x_sub (L' := [(0, .ref (ad g 1)), (1, .ref (ad g k1)), (2, .int x2_7), (3, .int x3_12)]) [2, 3, 1, 0] rfl ?_
        exact Hh32 x2_7 x3_12 w_9 hM
      · have hM := ip c_6 hM
        refine x_bipush (v := -10) C dX1_readInto_53 (by decide) ?_
        refine x_aload_n C dX1_readInto_55 0 rfl rfl ?_
        refine xg_1_4 C kd_1 gw_113 dX1_readInto_56 ?_
        refine x_isub C dX1_readInto_59 ?_
        obtain ⟨rfl, rfl⟩ := rt hM
        exact x_iret C hR rfl dX1_readInto_60
theorem o_X1_readInto_l32 {E : Ex} {g : Gx} (C : Ctx E RX1 cX1_readInto rm_X1_readInto 4 g) {rr : Int32} {wr : Wd} (hR : Rets E g (some .int) (some (.int rr)) wr) {k1 : Nat} (hk1 : kindOf k1 = 2) : ∀ (n : Nat) (x2 : Int32) (x3 : Int32) (w : Wd), f_X1_readInto_l32 k1 n x2 x3 w = some (rr, wr) → Xx E 4 g 32 [(0, .ref (ad g 1)), (1, .ref (ad g k1)), (2, .int x2), (3, .int x3)] [] w := by
  intro n
  induction n with
  | zero =>
    intro x2 x3 w hM
    rw [f_X1_readInto_l32] at hM
    cases hM
  | succ n ih =>
    intro x2 x3 w hM
    rw [f_X1_readInto_l32] at hM
    exact o_X1_readInto_h32 C hR hk1 ih x2 x3 w hM
set_option maxHeartbeats 1000000 in
set_option maxRecDepth 20000 in
theorem o_X1_readInto_b0 {E : Ex} {g : Gx} (C : Ctx E RX1 cX1_readInto rm_X1_readInto 4 g) {rr : Int32} {wr : Wd} (hR : Rets E g (some .int) (some (.int rr)) wr) {k1 : Nat} (hk1 : kindOf k1 = 2) (w : Wd) (hM : f_X1_readInto_b0 k1 w = some (rr, wr)) : Xx E 4 g 0 [(0, .ref (ad g 1)), (1, .ref (ad g k1))] [] w := by
  unfold f_X1_readInto_b0 at hM
  refine x_aload_n C dX1_readInto_0 1 rfl rfl ?_
  obtain ⟨r_2, w_1, h_3, hM⟩ := cl hM
  refine x_callVNv (As := []) C (c_X2_setAsAtFirst E.l g k1 hk1 w h_3) k_X2_setAsAtFirst hk1 (by decide) rfl rfl nw_330 rfl rfl ⟨Nat.le_of_ble_eq_true rfl, Nat.le_of_ble_eq_true rfl⟩ rfl rfl (Nat.le_of_ble_eq_true rfl) dX1_readInto_1 ?_
  refine x_aload_n C dX1_readInto_4 0 rfl rfl ?_
  refine x_iconst (v := 0) C dX1_readInto_5 (by decide) ?_
  obtain ⟨w_4, e_5, hM⟩ := bd hM
  refine xp_1_7 C kd_1 (by decide) gw_116 dX1_readInto_6 ?_
  refine x_w e_5 ?_
  refine x_aload_n C dX1_readInto_9 0 rfl rfl ?_
  refine x_iconst (v := 0) C dX1_readInto_10 (by decide) ?_
  obtain ⟨w_6, e_7, hM⟩ := bd hM
  refine xp_1_8 C kd_1 (by decide) gw_117 dX1_readInto_11 ?_
  refine x_w e_7 ?_
  refine x_aload_n C dX1_readInto_14 0 rfl rfl ?_
  refine x_iconst (v := 0) C dX1_readInto_15 (by decide) ?_
  obtain ⟨w_8, e_9, hM⟩ := bd hM
  refine xp_1_9 C kd_1 (by decide) gw_118 dX1_readInto_16 ?_
  refine x_w e_9 ?_
  refine x_aload_n C dX1_readInto_19 0 rfl rfl ?_
  refine x_iconst (v := 0) C dX1_readInto_20 (by decide) ?_
  obtain ⟨w_10, e_11, hM⟩ := bd hM
  refine xp_1_3 C kd_1 gw_112 dX1_readInto_21 ?_
  refine x_w e_11 ?_
  refine x_iconst (v := 0) C dX1_readInto_24 (by decide) ?_
  obtain ⟨x2_12, e_13, hM⟩ := bd hM
  refine x_top e_13 ?_
  refine x_istore_n (L' := [(2, .int x2_12), (0, .ref (ad g 1)), (1, .ref (ad g k1))]) C dX1_readInto_25 rfl (by decide) rfl ?_
  refine x_aload_n C dX1_readInto_26 1 rfl rfl ?_
  obtain ⟨r_15, w_14, h_16, hM⟩ := cl hM
  refine x_callVv (As := []) C (c_X1_advance E.l g  w_10 h_16) k_X1_advance kd_1 (by decide) rfl rfl gw_331 rfl rfl ⟨Nat.le_of_ble_eq_true rfl, Nat.le_of_ble_eq_true rfl⟩ rfl rfl (Nat.le_of_ble_eq_true rfl) dX1_readInto_27 ?_
  refine x_iconst (v := 0) C dX1_readInto_30 (by decide) ?_
  obtain ⟨x3_17, e_18, hM⟩ := bd hM
  refine x_top e_18 ?_
  refine x_istore_n (L' := [(3, .int x3_17), (2, .int x2_12), (0, .ref (ad g 1)), (1, .ref (ad g k1))]) C dX1_readInto_31 rfl (by decide) rfl ?_
  refine x_sub (L' := [(0, .ref (ad g 1)), (1, .ref (ad g k1)), (2, .int x2_12), (3, .int x3_17)]) [2, 3, 1, 0] rfl ?_
  exact o_X1_readInto_l32 C hR hk1 300 x2_12 x3_17 w_14 hM
theorem c_X1_readInto (l : Launch) (g : Gx) (k1 : Nat) (hk1 : kindOf k1 = 2) (w : Wd) {rr : Int32} {wr : Wd} (hM : f_X1_readInto k1 w = some (rr, wr)) : MetM l yX1_readInto cX1_readInto 4 (some .int) rm_X1_readInto g [.ref (ad g 1), .ref (ad g k1)] w (some (.int rr)) wr := by
  refine met_of (by decide) (Nat.le_of_ble_eq_true rfl) (fun E hl C hR => ?_)
  refine x_sub (L' := [(0, .ref (ad g 1)), (1, .ref (ad g k1))]) [0, 1] rfl ?_
  exact o_X1_readInto_b0 C hR hk1 w hM
abbrev rm_X2_copy : Room := { frames := 1, cells := 0, slots := 0, locals := 18 }
set_option maxHeartbeats 1000000 in
set_option maxRecDepth 20000 in
theorem o_X2_copy_b0 {E : Ex} {g : Gx} (C : Ctx E RX2 cX2_copy rm_X2_copy 2 g) {rr : Unit} {wr : Wd} (hR : Rets E g none none wr) {k0 : Nat} (hk0 : kindOf k0 = 2) {k1 : Nat} (hk1 : kindOf k1 = 2) (w : Wd) (hM : f_X2_copy_b0 k0 k1 w = some (rr, wr)) : Xx E 2 g 0 [(0, .ref (ad g k0)), (1, .ref (ad g k1))] [] w := by
  unfold f_X2_copy_b0 at hM
  refine x_aload_n C dX2_copy_0 0 rfl rfl ?_
  refine x_aload_n C dX2_copy_1 1 rfl rfl ?_
  refine xg_2_0 C hk1 gw_147 dX2_copy_2 ?_
  obtain ⟨w_1, e_2, hM⟩ := bd hM
  refine xp_2_0 C hk0 gw_147 dX2_copy_5 ?_
  refine x_w e_2 ?_
  refine x_aload_n C dX2_copy_8 0 rfl rfl ?_
  refine x_aload_n C dX2_copy_9 1 rfl rfl ?_
  refine xg_2_1 C hk1 gw_150 dX2_copy_10 ?_
  obtain ⟨w_3, e_4, hM⟩ := bd hM
  refine xp_2_1 C hk0 gw_150 dX2_copy_13 ?_
  refine x_w e_4 ?_
  refine x_aload_n C dX2_copy_16 0 rfl rfl ?_
  refine x_aload_n C dX2_copy_17 1 rfl rfl ?_
  refine xg_2_2 C hk1 gw_154 dX2_copy_18 ?_
  obtain ⟨w_5, e_6, hM⟩ := bd hM
  refine xp_2_2 C hk0 gw_154 dX2_copy_21 ?_
  refine x_w e_6 ?_
  refine x_aload_n C dX2_copy_24 0 rfl rfl ?_
  refine x_aload_n C dX2_copy_25 1 rfl rfl ?_
  refine xg_2_3 C hk1 gw_158 dX2_copy_26 ?_
  obtain ⟨w_7, e_8, hM⟩ := bd hM
  refine xp_2_3 C hk0 gw_158 dX2_copy_29 ?_
  refine x_w e_8 ?_
  refine x_aload_n C dX2_copy_32 1 rfl rfl ?_
  refine xg_2_4 C hk1 gw_161 dX2_copy_33 ?_
  refine x_iconst (v := 0) C dX2_copy_36 (by decide) ?_
  refine x_aload_n C dX2_copy_37 0 rfl rfl ?_
  refine xg_2_4 C hk0 gw_161 dX2_copy_38 ?_
  refine x_iconst (v := 0) C dX2_copy_41 (by decide) ?_
  refine x_bipush (v := 6) C dX2_copy_42 (by decide) ?_
  obtain ⟨w_9, e_10, hM⟩ := bd hM
  refine x_copy C gw_378 gw_380 gw_379 gw_91 (kA2_1 hk1) (kA2_1 hk0) (lA2_1 hk1) (lA2_1 hk0) (Nat.le_of_ble_eq_true rfl) (Nat.le_of_ble_eq_true rfl) dX2_copy_44 ?_
  refine x_w e_10 ?_
  refine x_aload_n C dX2_copy_47 1 rfl rfl ?_
  refine xg_2_5 C hk1 gw_164 dX2_copy_48 ?_
  refine x_iconst (v := 0) C dX2_copy_51 (by decide) ?_
  refine x_aload_n C dX2_copy_52 0 rfl rfl ?_
  refine xg_2_5 C hk0 gw_164 dX2_copy_53 ?_
  refine x_iconst (v := 0) C dX2_copy_56 (by decide) ?_
  refine x_bipush (v := 6) C dX2_copy_57 (by decide) ?_
  obtain ⟨w_11, e_12, hM⟩ := bd hM
  refine x_copy C gw_378 gw_380 gw_379 gw_91 (kA2_2 hk1) (kA2_2 hk0) (lA2_2 hk1) (lA2_2 hk0) (Nat.le_of_ble_eq_true rfl) (Nat.le_of_ble_eq_true rfl) dX2_copy_59 ?_
  refine x_w e_12 ?_
  refine x_aload_n C dX2_copy_62 1 rfl rfl ?_
  refine xg_2_6 C hk1 gw_166 dX2_copy_63 ?_
  refine x_iconst (v := 0) C dX2_copy_66 (by decide) ?_
  refine x_aload_n C dX2_copy_67 0 rfl rfl ?_
  refine xg_2_6 C hk0 gw_166 dX2_copy_68 ?_
  refine x_iconst (v := 0) C dX2_copy_71 (by decide) ?_
  refine x_bipush (v := 6) C dX2_copy_72 (by decide) ?_
  obtain ⟨w_13, e_14, hM⟩ := bd hM
  refine x_copy C gw_378 gw_380 gw_379 gw_91 (kA2_3 hk1) (kA2_3 hk0) (lA2_3 hk1) (lA2_3 hk0) (Nat.le_of_ble_eq_true rfl) (Nat.le_of_ble_eq_true rfl) dX2_copy_74 ?_
  refine x_w e_14 ?_
  refine x_aload_n C dX2_copy_77 1 rfl rfl ?_
  refine xg_2_7 C hk1 gw_169 dX2_copy_78 ?_
  refine x_iconst (v := 0) C dX2_copy_81 (by decide) ?_
  refine x_aload_n C dX2_copy_82 0 rfl rfl ?_
  refine xg_2_7 C hk0 gw_169 dX2_copy_83 ?_
  refine x_iconst (v := 0) C dX2_copy_86 (by decide) ?_
  refine x_bipush (v := 6) C dX2_copy_87 (by decide) ?_
  obtain ⟨w_15, e_16, hM⟩ := bd hM
  refine x_copy C gw_378 gw_380 gw_379 gw_91 (kA2_4 hk1) (kA2_4 hk0) (lA2_4 hk1) (lA2_4 hk0) (Nat.le_of_ble_eq_true rfl) (Nat.le_of_ble_eq_true rfl) dX2_copy_89 ?_
  refine x_w e_16 ?_
  obtain ⟨rfl, rfl⟩ := rt hM
  exact x_vret C hR rfl dX2_copy_92
theorem c_X2_copy (l : Launch) (g : Gx) (k0 : Nat) (k1 : Nat) (hk0 : kindOf k0 = 2) (hk1 : kindOf k1 = 2) (w : Wd) {rr : Unit} {wr : Wd} (hM : f_X2_copy k0 k1 w = some (rr, wr)) : MetM l yX2_copy cX2_copy 2 none rm_X2_copy g [.ref (ad g k0), .ref (ad g k1)] w none wr := by
  refine met_of (by decide) (Nat.le_of_ble_eq_true rfl) (fun E hl C hR => ?_)
  refine x_sub (L' := [(0, .ref (ad g k0)), (1, .ref (ad g k1))]) [0, 1] rfl ?_
  exact o_X2_copy_b0 C hR hk0 hk1 w hM
abbrev rm_X4_begin : Room := { frames := 0, cells := 0, slots := 0, locals := 0 }
set_option maxHeartbeats 1000000 in
set_option maxRecDepth 20000 in
theorem o_X4_begin_h15 {E : Ex} {g : Gx} (C : Ctx E RX4 cX4_begin rm_X4_begin 3 g) {rr : Unit} {wr : Wd} (hR : Rets E g none none wr) {k0 : Nat} (hk0 : kindOf k0 = 4) {k1 : Nat} (hk1 : kindOf k1 = 2) {kh15 : (Int32 → Wd → Option (Unit × Wd))} (Hh15 : ∀ (x2 : Int32) (w : Wd), kh15 x2 w = some (rr, wr) → Xx E 3 g 15 [(0, .ref (ad g k0)), (1, .ref (ad g k1)), (2, .int x2)] [] w) (x2 : Int32) (w : Wd) (hM : f_X4_begin_h15 k0 k1 kh15 x2 w = some (rr, wr)) : Xx E 3 g 15 [(0, .ref (ad g k0)), (1, .ref (ad g k1)), (2, .int x2)] [] w := by
  unfold f_X4_begin_h15 at hM
  refine x_iload_n C dX4_begin_15 2 rfl rfl ?_
  refine x_bipush (v := 6) C dX4_begin_16 (by decide) ?_
  refine x_icmp_ge (tgt := 64) C dX4_begin_18 (by decide) (fun c_1 => ?_) (fun c_1 => ?_)
  · have hM := ip c_1 hM
    obtain ⟨rfl, rfl⟩ := rt hM
    exact x_vret C hR rfl dX4_begin_64
  · have hM := iq c_1 hM
    refine x_aload_n C dX4_begin_21 0 rfl rfl ?_
    refine xg_4_2 C hk0 gw_198 dX4_begin_22 ?_
    refine x_iload_n C dX4_begin_25 2 rfl rfl ?_
    refine x_bipush (v := -9) C dX4_begin_26 (by decide) ?_
    obtain ⟨q_2, hM⟩ := gd hM
    obtain ⟨w_3, e_4, hM⟩ := bd hM
    refine x_iast C (kA4_1 hk0) (lA4_1 hk0) q_2 rfl dX4_begin_28 ?_
    refine x_w e_4 ?_
    refine x_aload_n C dX4_begin_29 0 rfl rfl ?_
    refine xg_4_3 C hk0 gw_200 dX4_begin_30 ?_
    refine x_iload_n C dX4_begin_33 2 rfl rfl ?_
    refine x_aload_n C dX4_begin_34 1 rfl rfl ?_
    refine xgN_2_5 C hk1 nw_165 dX4_begin_35 ?_
    refine x_iload_n C dX4_begin_38 2 rfl rfl ?_
    obtain ⟨q_5, hM⟩ := gd hM
    refine x_iald C (kA2_2 hk1) (lA2_2 hk1) q_5 rfl dX4_begin_39 ?_
    obtain ⟨q_6, hM⟩ := gd hM
    obtain ⟨w_7, e_8, hM⟩ := bd hM
    refine x_iast C (kA4_2 hk0) (lA4_2 hk0) q_6 rfl dX4_begin_40 ?_
    refine x_w e_8 ?_
    refine x_aload_n C dX4_begin_41 0 rfl rfl ?_
    refine xg_4_4 C hk0 gw_202 dX4_begin_42 ?_
    refine x_iload_n C dX4_begin_45 2 rfl rfl ?_
    refine x_iconst (v := 1) C dX4_begin_46 (by decide) ?_
    refine x_iload_n C dX4_begin_47 2 rfl rfl ?_
    refine x_ishl C dX4_begin_48 ?_
    obtain ⟨q_9, hM⟩ := gd hM
    obtain ⟨w_10, e_11, hM⟩ := bd hM
    refine x_iast C (kA4_3 hk0) (lA4_3 hk0) q_9 rfl dX4_begin_49 ?_
    refine x_w e_11 ?_
    refine x_aload_n C dX4_begin_50 0 rfl rfl ?_
    refine xg_4_5 C hk0 gw_204 dX4_begin_51 ?_
    refine x_iload_n C dX4_begin_54 2 rfl rfl ?_
    refine x_bipush (v := -9) C dX4_begin_55 (by decide) ?_
    obtain ⟨q_12, hM⟩ := gd hM
    obtain ⟨w_13, e_14, hM⟩ := bd hM
    refine x_iast C (kA4_4 hk0) (lA4_4 hk0) q_12 rfl dX4_begin_57 ?_
    refine x_w e_14 ?_
    obtain ⟨x2_15, e_16, hM⟩ := bd hM
    refine x_iinc (L' := [(2, .int x2_15), (0, .ref (ad g k0)), (1, .ref (ad g k1))]) C dX4_begin_58 2 rfl (v := x2_15) (by rw [e_16]; first | rfl | decide) (by decide) rfl ?_
    refine x_goto (tgt := 15) C dX4_begin_61 (by decide) ?_
    refine x_sub (L' := [(0, .ref (ad g k0)), (1, .ref (ad g k1)), (2, .int x2_15)]) [1, 2, 0] rfl ?_
    exact Hh15 x2_15 w_13 hM
theorem o_X4_begin_l15 {E : Ex} {g : Gx} (C : Ctx E RX4 cX4_begin rm_X4_begin 3 g) {rr : Unit} {wr : Wd} (hR : Rets E g none none wr) {k0 : Nat} (hk0 : kindOf k0 = 4) {k1 : Nat} (hk1 : kindOf k1 = 2) : ∀ (n : Nat) (x2 : Int32) (w : Wd), f_X4_begin_l15 k0 k1 n x2 w = some (rr, wr) → Xx E 3 g 15 [(0, .ref (ad g k0)), (1, .ref (ad g k1)), (2, .int x2)] [] w := by
  intro n
  induction n with
  | zero =>
    intro x2 w hM
    rw [f_X4_begin_l15] at hM
    cases hM
  | succ n ih =>
    intro x2 w hM
    rw [f_X4_begin_l15] at hM
    exact o_X4_begin_h15 C hR hk0 hk1 ih x2 w hM
set_option maxHeartbeats 1000000 in
set_option maxRecDepth 20000 in
theorem o_X4_begin_b0 {E : Ex} {g : Gx} (C : Ctx E RX4 cX4_begin rm_X4_begin 3 g) {rr : Unit} {wr : Wd} (hR : Rets E g none none wr) {k0 : Nat} (hk0 : kindOf k0 = 4) {k1 : Nat} (hk1 : kindOf k1 = 2) (w : Wd) (hM : f_X4_begin_b0 k0 k1 w = some (rr, wr)) : Xx E 3 g 0 [(0, .ref (ad g k0)), (1, .ref (ad g k1))] [] w := by
  unfold f_X4_begin_b0 at hM
  refine x_aload_n C dX4_begin_0 0 rfl rfl ?_
  refine x_iconst (v := 0) C dX4_begin_1 (by decide) ?_
  obtain ⟨w_1, e_2, hM⟩ := bd hM
  refine xp_4_0 C hk0 gw_194 dX4_begin_2 ?_
  refine x_w e_2 ?_
  refine x_aload_n C dX4_begin_5 0 rfl rfl ?_
  refine x_aload_n C dX4_begin_6 1 rfl rfl ?_
  refine xgN_2_1 C hk1 nw_151 dX4_begin_7 ?_
  obtain ⟨w_3, e_4, hM⟩ := bd hM
  refine xp_4_1 C hk0 gw_196 dX4_begin_10 ?_
  refine x_w e_4 ?_
  refine x_iconst (v := 0) C dX4_begin_13 (by decide) ?_
  obtain ⟨x2_5, e_6, hM⟩ := bd hM
  refine x_top e_6 ?_
  refine x_istore_n (L' := [(2, .int x2_5), (0, .ref (ad g k0)), (1, .ref (ad g k1))]) C dX4_begin_14 rfl (by decide) rfl ?_
  refine x_sub (L' := [(0, .ref (ad g k0)), (1, .ref (ad g k1)), (2, .int x2_5)]) [1, 2, 0] rfl ?_
  exact o_X4_begin_l15 C hR hk0 hk1 300 x2_5 w_3 hM
theorem c_X4_begin (l : Launch) (g : Gx) (k0 : Nat) (k1 : Nat) (hk0 : kindOf k0 = 4) (hk1 : kindOf k1 = 2) (w : Wd) {rr : Unit} {wr : Wd} (hM : f_X4_begin k0 k1 w = some (rr, wr)) : MetM l yX4_begin cX4_begin 3 none rm_X4_begin g [.ref (ad g k0), .ref (ad g k1)] w none wr := by
  refine met_of (by decide) (Nat.le_of_ble_eq_true rfl) (fun E hl C hR => ?_)
  refine x_sub (L' := [(0, .ref (ad g k0)), (1, .ref (ad g k1))]) [0, 1] rfl ?_
  exact o_X4_begin_b0 C hR hk0 hk1 w hM
abbrev rm_X5_pot : Room := { frames := 5, cells := 0, slots := 0, locals := 110 }
set_option maxHeartbeats 1000000 in
set_option maxRecDepth 20000 in
theorem o_X5_pot_b0 {E : Ex} {g : Gx} (C : Ctx E RX5 cX5_pot rm_X5_pot 2 g) {rr : Int32} {wr : Wd} (hR : Rets E g (some .int) (some (.int rr)) wr) (w : Wd) (hM : f_X5_pot_b0 w = some (rr, wr)) : Xx E 2 g 0 [(0, .ref (ad g 0))] [] w := by
  unfold f_X5_pot_b0 at hM
  refine x_aload_n C dX5_pot_0 0 rfl rfl ?_
  refine xg_5_0 C kd_0 gw_270 dX5_pot_1 ?_
  refine x_aload_n C dX5_pot_4 0 rfl rfl ?_
  refine xg_5_2 C kd_0 gw_272 dX5_pot_5 ?_
  obtain ⟨r_2, w_1, h_3, hM⟩ := cl hM
  refine x_callVN (As := [.ref (ad g 9)]) C (c_X1_readInto E.l g 9 kd_9 w h_3) k_X1_readInto kd_1 (by decide) rfl rfl nw_326 rfl rfl ⟨Nat.le_of_ble_eq_true rfl, Nat.le_of_ble_eq_true rfl⟩ rfl rfl (Nat.le_of_ble_eq_true rfl) dX5_pot_8 ?_
  obtain ⟨x1_4, e_5, hM⟩ := bd hM
  refine x_top e_5 ?_
  refine x_istore_n (L' := [(1, .int x1_4), (0, .ref (ad g 0))]) C dX5_pot_11 rfl (by decide) rfl ?_
  refine x_iload_n C dX5_pot_12 0 rfl rfl ?_
  refine x_if_ge (tgt := 18) C dX5_pot_13 (by decide) (fun c_6 => ?_) (fun c_6 => ?_)
  · have hM := ip c_6 hM
    refine x_aload_n C dX5_pot_18 1 rfl rfl ?_
    refine xg_5_1 C kd_0 gw_271 dX5_pot_19 ?_
    refine x_aload_n C dX5_pot_22 1 rfl rfl ?_
    refine xg_5_2 C kd_0 gw_272 dX5_pot_23 ?_
    obtain ⟨r_8, w_7, h_9, hM⟩ := cl hM
    refine x_callVNv (As := [.ref (ad g 9)]) C (c_X2_copy E.l g 4 9 kd_4 kd_9 w_1 h_9) k_X2_copy kd_4 (by decide) rfl rfl nw_374 rfl rfl ⟨Nat.le_of_ble_eq_true rfl, Nat.le_of_ble_eq_true rfl⟩ rfl rfl (Nat.le_of_ble_eq_true rfl) dX5_pot_26 ?_
    refine x_aload_n C dX5_pot_29 1 rfl rfl ?_
    refine xg_5_3 C kd_0 gw_273 dX5_pot_30 ?_
    refine x_aload_n C dX5_pot_33 1 rfl rfl ?_
    refine xg_5_1 C kd_0 gw_271 dX5_pot_34 ?_
    obtain ⟨r_11, w_10, h_12, hM⟩ := cl hM
    refine x_callVNv (As := [.ref (ad g 4)]) C (c_X4_begin E.l g 14 4 kd_14 kd_4 w_7 h_12) k_X4_begin kd_14 (by decide) rfl rfl nw_266 rfl rfl ⟨Nat.le_of_ble_eq_true rfl, Nat.le_of_ble_eq_true rfl⟩ rfl rfl (Nat.le_of_ble_eq_true rfl) dX5_pot_37 ?_
    refine x_aload_n C dX5_pot_40 1 rfl rfl ?_
    refine xg_5_0 C kd_0 gw_270 dX5_pot_41 ?_
    refine x_iconst (v := 0) C dX5_pot_44 (by decide) ?_
    obtain ⟨w_13, e_14, hM⟩ := bd hM
    refine xpN_1_2 C kd_1 nw_111 dX5_pot_45 ?_
    refine x_w e_14 ?_
    refine x_aload_n C dX5_pot_48 1 rfl rfl ?_
    refine xg_5_5 C kd_0 gw_275 dX5_pot_49 ?_
    refine x_iconst (v := 0) C dX5_pot_52 (by decide) ?_
    obtain ⟨w_15, e_16, hM⟩ := bd hM
    refine xpN_0_2 C kd_24 nw_231 dX5_pot_53 ?_
    refine x_w e_16 ?_
    refine x_aload_n C dX5_pot_56 1 rfl rfl ?_
    refine x_iconst (v := 0) C dX5_pot_57 (by decide) ?_
    obtain ⟨w_17, e_18, hM⟩ := bd hM
    refine xp_5_8 C kd_0 gw_278 dX5_pot_58 ?_
    refine x_w e_18 ?_
    refine x_aload_n C dX5_pot_61 1 rfl rfl ?_
    refine xg_5_9 C kd_0 gw_279 dX5_pot_62 ?_
    refine x_iconst (v := 0) C dX5_pot_65 (by decide) ?_
    obtain ⟨w_19, e_20, hM⟩ := bd hM
    refine xpN_3_3 C kd_86 nw_252 dX5_pot_66 ?_
    refine x_w e_20 ?_
    refine x_iload_n C dX5_pot_69 0 rfl rfl ?_
    obtain ⟨rfl, rfl⟩ := rt hM
    exact x_iret C hR rfl dX5_pot_70
  · have hM := iq c_6 hM
    refine x_iload_n C dX5_pot_16 0 rfl rfl ?_
    obtain ⟨rfl, rfl⟩ := rt hM
    exact x_iret C hR rfl dX5_pot_17
theorem c_X5_pot (l : Launch) (g : Gx) (w : Wd) {rr : Int32} {wr : Wd} (hM : f_X5_pot w = some (rr, wr)) : MetM l yX5_pot cX5_pot 2 (some .int) rm_X5_pot g [.ref (ad g 0)] w (some (.int rr)) wr := by
  refine met_of (by decide) (Nat.le_of_ble_eq_true rfl) (fun E hl C hR => ?_)
  refine x_sub (L' := [(0, .ref (ad g 0))]) [0] rfl ?_
  exact o_X5_pot_b0 C hR w hM
abbrev rm_X5_isTold : Room := { frames := 0, cells := 0, slots := 0, locals := 0 }
set_option maxHeartbeats 1000000 in
set_option maxRecDepth 20000 in
theorem o_X5_isTold_b0 {E : Ex} {g : Gx} (C : Ctx E RX5 cX5_isTold rm_X5_isTold 2 g) {rr : Int32} {wr : Wd} (hR : Rets E g (some .boolean) (some (.int rr)) wr) (x1 : Int32) (w : Wd) (hM : f_X5_isTold_b0 x1 w = some (rr, wr)) : Xx E 2 g 0 [(0, .ref (ad g 0)), (1, .int x1)] [] w := by
  unfold f_X5_isTold_b0 at hM
  refine x_iload_n C dX5_isTold_0 1 rfl rfl ?_
  refine x_if_lt (tgt := 25) C dX5_isTold_1 (by decide) (fun c_1 => ?_) (fun c_1 => ?_)
  · have hM := ip c_1 hM
    refine x_iconst (v := 0) C dX5_isTold_25 (by decide) ?_
    obtain ⟨rfl, rfl⟩ := rt hM
    exact x_zret C hR (by rfl) rfl dX5_isTold_26
  · have hM := iq c_1 hM
    refine x_iload_n C dX5_isTold_4 1 rfl rfl ?_
    refine x_bipush (v := 6) C dX5_isTold_5 (by decide) ?_
    refine x_icmp_ge (tgt := 25) C dX5_isTold_7 (by decide) (fun c_2 => ?_) (fun c_2 => ?_)
    · have hM := ip c_2 hM
      refine x_iconst (v := 0) C dX5_isTold_25 (by decide) ?_
      obtain ⟨rfl, rfl⟩ := rt hM
      exact x_zret C hR (by rfl) rfl dX5_isTold_26
    · have hM := iq c_2 hM
      refine x_iload_n C dX5_isTold_10 1 rfl rfl ?_
      refine x_aload_n C dX5_isTold_11 0 rfl rfl ?_
      refine xg_5_1 C kd_0 gw_271 dX5_isTold_12 ?_
      refine xgN_2_0 C kd_4 nw_149 dX5_isTold_15 ?_
      refine x_icmp_ge (tgt := 25) C dX5_isTold_18 (by decide) (fun c_3 => ?_) (fun c_3 => ?_)
      · have hM := ip c_3 hM
        refine x_iconst (v := 0) C dX5_isTold_25 (by decide) ?_
        obtain ⟨rfl, rfl⟩ := rt hM
        exact x_zret C hR (by rfl) rfl dX5_isTold_26
      · have hM := iq c_3 hM
        refine x_iconst (v := 1) C dX5_isTold_21 (by decide) ?_
        refine x_goto (tgt := 26) C dX5_isTold_22 (by decide) ?_
        obtain ⟨rfl, rfl⟩ := rt hM
        exact x_zret C hR (by rfl) rfl dX5_isTold_26
theorem c_X5_isTold (l : Launch) (g : Gx) (x1 : Int32) (w : Wd) {rr : Int32} {wr : Wd} (hM : f_X5_isTold x1 w = some (rr, wr)) : MetM l yX5_isTold cX5_isTold 2 (some .boolean) rm_X5_isTold g [.ref (ad g 0), .int x1] w (some (.int rr)) wr := by
  refine met_of (by decide) (Nat.le_of_ble_eq_true rfl) (fun E hl C hR => ?_)
  refine x_sub (L' := [(0, .ref (ad g 0)), (1, .int x1)]) [0, 1] rfl ?_
  exact o_X5_isTold_b0 C hR x1 w hM
abbrev rm_X5_dumpling : Room := { frames := 1, cells := 0, slots := 0, locals := 21 }
set_option maxHeartbeats 1000000 in
set_option maxRecDepth 20000 in
theorem o_X5_dumpling_b0 {E : Ex} {g : Gx} (C : Ctx E RX5 cX5_dumpling rm_X5_dumpling 3 g) {rr : Int32} {wr : Wd} (hR : Rets E g (some .int) (some (.int rr)) wr) (x1 : Int32) (x2 : Int32) (w : Wd) (hM : f_X5_dumpling_b0 x1 x2 w = some (rr, wr)) : Xx E 3 g 0 [(0, .ref (ad g 0)), (1, .int x1), (2, .int x2)] [] w := by
  unfold f_X5_dumpling_b0 at hM
  refine x_aload_n C dX5_dumpling_0 0 rfl rfl ?_
  refine x_iload_n C dX5_dumpling_1 1 rfl rfl ?_
  obtain ⟨r_2, w_1, h_3, hM⟩ := cl hM
  refine x_callV (As := [.int x1]) C (c_X5_isTold E.l g x1 w h_3) k_X5_isTold kd_0 (by decide) rfl rfl gw_385 rfl rfl ⟨Nat.le_of_ble_eq_true rfl, Nat.le_of_ble_eq_true rfl⟩ rfl rfl (Nat.le_of_ble_eq_true rfl) dX5_dumpling_2 ?_
  refine x_if_ne (tgt := 10) C dX5_dumpling_5 (by decide) (fun c_4 => ?_) (fun c_4 => ?_)
  · have hM := iq c_4 hM
    refine x_iload_n C dX5_dumpling_10 2 rfl rfl ?_
    by_cases c_6 : x2 = 0
    · have hM := ip c_6 hM
      refine x_tableIn (off := 41) (tgt := 52) C dX5_dumpling_11 (by rw [c_6]; decide) (by rw [c_6]; decide) (by rw [c_6]; rfl) (by decide) ?_
      refine x_aload_n C dX5_dumpling_52 0 rfl rfl ?_
      refine xg_5_1 C kd_0 gw_271 dX5_dumpling_53 ?_
      refine xgN_2_4 C kd_4 nw_162 dX5_dumpling_56 ?_
      refine x_iload_n C dX5_dumpling_59 1 rfl rfl ?_
      obtain ⟨q_5, hM⟩ := gd hM
      refine x_iald C kd_5 ln_5 q_5 rfl dX5_dumpling_60 ?_
      obtain ⟨rfl, rfl⟩ := rt hM
      exact x_iret C hR rfl dX5_dumpling_61
    have hM := iq c_6 hM
    by_cases c_8 : x2 = 1
    · have hM := ip c_8 hM
      refine x_tableIn (off := 51) (tgt := 62) C dX5_dumpling_11 (by rw [c_8]; decide) (by rw [c_8]; decide) (by rw [c_8]; rfl) (by decide) ?_
      refine x_aload_n C dX5_dumpling_62 0 rfl rfl ?_
      refine xg_5_3 C kd_0 gw_273 dX5_dumpling_63 ?_
      refine xgN_4_3 C kd_14 nw_201 dX5_dumpling_66 ?_
      refine x_iload_n C dX5_dumpling_69 1 rfl rfl ?_
      obtain ⟨q_7, hM⟩ := gd hM
      refine x_iald C kd_16 ln_16 q_7 rfl dX5_dumpling_70 ?_
      obtain ⟨rfl, rfl⟩ := rt hM
      exact x_iret C hR rfl dX5_dumpling_71
    have hM := iq c_8 hM
    by_cases c_10 : x2 = 2
    · have hM := ip c_10 hM
      refine x_tableIn (off := 61) (tgt := 72) C dX5_dumpling_11 (by rw [c_10]; decide) (by rw [c_10]; decide) (by rw [c_10]; rfl) (by decide) ?_
      refine x_aload_n C dX5_dumpling_72 0 rfl rfl ?_
      refine xg_5_1 C kd_0 gw_271 dX5_dumpling_73 ?_
      refine xgN_2_6 C kd_4 nw_167 dX5_dumpling_76 ?_
      refine x_iload_n C dX5_dumpling_79 1 rfl rfl ?_
      obtain ⟨q_9, hM⟩ := gd hM
      refine x_iald C kd_7 ln_7 q_9 rfl dX5_dumpling_80 ?_
      obtain ⟨rfl, rfl⟩ := rt hM
      exact x_iret C hR rfl dX5_dumpling_81
    have hM := iq c_10 hM
    by_cases c_12 : x2 = 3
    · have hM := ip c_12 hM
      refine x_tableIn (off := 71) (tgt := 82) C dX5_dumpling_11 (by rw [c_12]; decide) (by rw [c_12]; decide) (by rw [c_12]; rfl) (by decide) ?_
      refine x_aload_n C dX5_dumpling_82 0 rfl rfl ?_
      refine xg_5_1 C kd_0 gw_271 dX5_dumpling_83 ?_
      refine xgN_2_7 C kd_4 nw_170 dX5_dumpling_86 ?_
      refine x_iload_n C dX5_dumpling_89 1 rfl rfl ?_
      obtain ⟨q_11, hM⟩ := gd hM
      refine x_iald C kd_8 ln_8 q_11 rfl dX5_dumpling_90 ?_
      obtain ⟨rfl, rfl⟩ := rt hM
      exact x_iret C hR rfl dX5_dumpling_91
    have hM := iq c_12 hM
    by_cases c_14 : x2 = 4
    · have hM := ip c_14 hM
      refine x_tableIn (off := 81) (tgt := 92) C dX5_dumpling_11 (by rw [c_14]; decide) (by rw [c_14]; decide) (by rw [c_14]; rfl) (by decide) ?_
      refine x_aload_n C dX5_dumpling_92 0 rfl rfl ?_
      refine xg_5_3 C kd_0 gw_273 dX5_dumpling_93 ?_
      refine xgN_4_2 C kd_14 nw_199 dX5_dumpling_96 ?_
      refine x_iload_n C dX5_dumpling_99 1 rfl rfl ?_
      obtain ⟨q_13, hM⟩ := gd hM
      refine x_iald C kd_15 ln_15 q_13 rfl dX5_dumpling_100 ?_
      obtain ⟨rfl, rfl⟩ := rt hM
      exact x_iret C hR rfl dX5_dumpling_101
    have hM := iq c_14 hM
    by_cases c_16 : x2 = 5
    · have hM := ip c_16 hM
      refine x_tableIn (off := 91) (tgt := 102) C dX5_dumpling_11 (by rw [c_16]; decide) (by rw [c_16]; decide) (by rw [c_16]; rfl) (by decide) ?_
      refine x_aload_n C dX5_dumpling_102 0 rfl rfl ?_
      refine xg_5_3 C kd_0 gw_273 dX5_dumpling_103 ?_
      refine xgN_4_4 C kd_14 nw_203 dX5_dumpling_106 ?_
      refine x_iload_n C dX5_dumpling_109 1 rfl rfl ?_
      obtain ⟨q_15, hM⟩ := gd hM
      refine x_iald C kd_17 ln_17 q_15 rfl dX5_dumpling_110 ?_
      obtain ⟨rfl, rfl⟩ := rt hM
      exact x_iret C hR rfl dX5_dumpling_111
    have hM := iq c_16 hM
    by_cases c_18 : x2 = 6
    · have hM := ip c_18 hM
      refine x_tableIn (off := 101) (tgt := 112) C dX5_dumpling_11 (by rw [c_18]; decide) (by rw [c_18]; decide) (by rw [c_18]; rfl) (by decide) ?_
      refine x_aload_n C dX5_dumpling_112 0 rfl rfl ?_
      refine xg_5_3 C kd_0 gw_273 dX5_dumpling_113 ?_
      refine xgN_4_5 C kd_14 nw_205 dX5_dumpling_116 ?_
      refine x_iload_n C dX5_dumpling_119 1 rfl rfl ?_
      obtain ⟨q_17, hM⟩ := gd hM
      refine x_iald C kd_18 ln_18 q_17 rfl dX5_dumpling_120 ?_
      obtain ⟨rfl, rfl⟩ := rt hM
      exact x_iret C hR rfl dX5_dumpling_121
    have hM := iq c_18 hM
    have tc_6 := lv_neT (a := 0) c_6 (by decide)
    have tc_8 := lv_neT (a := 1) c_8 (by decide)
    have tc_10 := lv_neT (a := 2) c_10 (by decide)
    have tc_12 := lv_neT (a := 3) c_12 (by decide)
    have tc_14 := lv_neT (a := 4) c_14 (by decide)
    have tc_16 := lv_neT (a := 5) c_16 (by decide)
    have tc_18 := lv_neT (a := 6) c_18 (by decide)
    refine x_tableOut (tgt := 122) C dX5_dumpling_11 (by omega) (by decide) ?_
    refine x_iconst (v := -1) C dX5_dumpling_122 (by decide) ?_
    obtain ⟨rfl, rfl⟩ := rt hM
    exact x_iret C hR rfl dX5_dumpling_123
  · have hM := ip c_4 hM
    refine x_iconst (v := -1) C dX5_dumpling_8 (by decide) ?_
    obtain ⟨rfl, rfl⟩ := rt hM
    exact x_iret C hR rfl dX5_dumpling_9
theorem c_X5_dumpling (l : Launch) (g : Gx) (x1 : Int32) (x2 : Int32) (w : Wd) {rr : Int32} {wr : Wd} (hM : f_X5_dumpling x1 x2 w = some (rr, wr)) : MetM l yX5_dumpling cX5_dumpling 3 (some .int) rm_X5_dumpling g [.ref (ad g 0), .int x1, .int x2] w (some (.int rr)) wr := by
  refine met_of (by decide) (Nat.le_of_ble_eq_true rfl) (fun E hl C hR => ?_)
  refine x_sub (L' := [(0, .ref (ad g 0)), (1, .int x1), (2, .int x2)]) [0, 1, 2] rfl ?_
  exact o_X5_dumpling_b0 C hR x1 x2 w hM
abbrev rm_X2_all : Room := { frames := 0, cells := 0, slots := 0, locals := 0 }
set_option maxHeartbeats 1000000 in
set_option maxRecDepth 20000 in
theorem o_X2_all_b0 {E : Ex} {g : Gx} (C : Ctx E RX2 cX2_all rm_X2_all 1 g) {rr : Int32} {wr : Wd} (hR : Rets E g (some .int) (some (.int rr)) wr) {k0 : Nat} (hk0 : kindOf k0 = 2) (w : Wd) (hM : f_X2_all_b0 k0 w = some (rr, wr)) : Xx E 1 g 0 [(0, .ref (ad g k0))] [] w := by
  unfold f_X2_all_b0 at hM
  refine x_iconst (v := 1) C dX2_all_0 (by decide) ?_
  refine x_aload_n C dX2_all_1 0 rfl rfl ?_
  refine xg_2_0 C hk0 gw_147 dX2_all_2 ?_
  refine x_ishl C dX2_all_5 ?_
  refine x_iconst (v := 1) C dX2_all_6 (by decide) ?_
  refine x_isub C dX2_all_7 ?_
  obtain ⟨rfl, rfl⟩ := rt hM
  exact x_iret C hR rfl dX2_all_8
theorem c_X2_all (l : Launch) (g : Gx) (k0 : Nat) (hk0 : kindOf k0 = 2) (w : Wd) {rr : Int32} {wr : Wd} (hM : f_X2_all k0 w = some (rr, wr)) : MetM l yX2_all cX2_all 1 (some .int) rm_X2_all g [.ref (ad g k0)] w (some (.int rr)) wr := by
  refine met_of (by decide) (Nat.le_of_ble_eq_true rfl) (fun E hl C hR => ?_)
  refine x_sub (L' := [(0, .ref (ad g k0))]) [0] rfl ?_
  exact o_X2_all_b0 C hR hk0 w hM
abbrev rm_X4_isDry : Room := { frames := 0, cells := 0, slots := 0, locals := 0 }
set_option maxHeartbeats 1000000 in
set_option maxRecDepth 20000 in
theorem o_X4_isDry_b0 {E : Ex} {g : Gx} (C : Ctx E RX4 cX4_isDry rm_X4_isDry 2 g) {rr : Int32} {wr : Wd} (hR : Rets E g (some .boolean) (some (.int rr)) wr) {k0 : Nat} (hk0 : kindOf k0 = 4) (x1 : Int32) (w : Wd) (hM : f_X4_isDry_b0 k0 x1 w = some (rr, wr)) : Xx E 2 g 0 [(0, .ref (ad g k0)), (1, .int x1)] [] w := by
  unfold f_X4_isDry_b0 at hM
  refine x_aload_n C dX4_isDry_0 0 rfl rfl ?_
  refine xg_4_2 C hk0 gw_198 dX4_isDry_1 ?_
  refine x_iload_n C dX4_isDry_4 1 rfl rfl ?_
  obtain ⟨q_1, hM⟩ := gd hM
  refine x_iald C (kA4_1 hk0) (lA4_1 hk0) q_1 rfl dX4_isDry_5 ?_
  refine x_bipush (v := -9) C dX4_isDry_6 (by decide) ?_
  refine x_icmp_ne (tgt := 15) C dX4_isDry_8 (by decide) (fun c_2 => ?_) (fun c_2 => ?_)
  · have hM := iq c_2 hM
    refine x_iconst (v := 0) C dX4_isDry_15 (by decide) ?_
    obtain ⟨rfl, rfl⟩ := rt hM
    exact x_zret C hR (by rfl) rfl dX4_isDry_16
  · have hM := ip c_2 hM
    refine x_iconst (v := 1) C dX4_isDry_11 (by decide) ?_
    refine x_goto (tgt := 16) C dX4_isDry_12 (by decide) ?_
    obtain ⟨rfl, rfl⟩ := rt hM
    exact x_zret C hR (by rfl) rfl dX4_isDry_16
theorem c_X4_isDry (l : Launch) (g : Gx) (k0 : Nat) (x1 : Int32) (hk0 : kindOf k0 = 4) (w : Wd) {rr : Int32} {wr : Wd} (hM : f_X4_isDry k0 x1 w = some (rr, wr)) : MetM l yX4_isDry cX4_isDry 2 (some .boolean) rm_X4_isDry g [.ref (ad g k0), .int x1] w (some (.int rr)) wr := by
  refine met_of (by decide) (Nat.le_of_ble_eq_true rfl) (fun E hl C hR => ?_)
  refine x_sub (L' := [(0, .ref (ad g k0)), (1, .int x1)]) [0, 1] rfl ?_
  exact o_X4_isDry_b0 C hR hk0 x1 w hM
abbrev rm_X4_wetOnes : Room := { frames := 1, cells := 0, slots := 0, locals := 21 }
set_option maxHeartbeats 1000000 in
set_option maxRecDepth 20000 in
theorem o_X4_wetOnes_b24 {E : Ex} {g : Gx} (C : Ctx E RX4 cX4_wetOnes rm_X4_wetOnes 3 g) {rr : Int32} {wr : Wd} (hR : Rets E g (some .int) (some (.int rr)) wr) {k0 : Nat} (hk0 : kindOf k0 = 4) {kh4 : (Int32 → Int32 → Wd → Option (Int32 × Wd))} (Hh4 : ∀ (x1 : Int32) (x2 : Int32) (w : Wd), kh4 x1 x2 w = some (rr, wr) → Xx E 3 g 4 [(0, .ref (ad g k0)), (1, .int x1), (2, .int x2)] [] w) (x1 : Int32) (x2 : Int32) (w : Wd) (hM : f_X4_wetOnes_b24 k0 kh4 x1 x2 w = some (rr, wr)) : Xx E 3 g 24 [(0, .ref (ad g k0)), (1, .int x1), (2, .int x2)] [] w := by
  unfold f_X4_wetOnes_b24 at hM
  obtain ⟨x2_1, e_2, hM⟩ := bd hM
  refine x_iinc (L' := [(2, .int x2_1), (0, .ref (ad g k0)), (1, .int x1)]) C dX4_wetOnes_24 2 rfl (v := x2_1) (by rw [e_2]; first | rfl | decide) (by decide) rfl ?_
  refine x_goto (tgt := 4) C dX4_wetOnes_27 (by decide) ?_
  refine x_sub (L' := [(0, .ref (ad g k0)), (1, .int x1), (2, .int x2_1)]) [1, 2, 0] rfl ?_
  exact Hh4 x1 x2_1 w hM
set_option maxHeartbeats 1000000 in
set_option maxRecDepth 20000 in
theorem o_X4_wetOnes_h4 {E : Ex} {g : Gx} (C : Ctx E RX4 cX4_wetOnes rm_X4_wetOnes 3 g) {rr : Int32} {wr : Wd} (hR : Rets E g (some .int) (some (.int rr)) wr) {k0 : Nat} (hk0 : kindOf k0 = 4) {kh4 : (Int32 → Int32 → Wd → Option (Int32 × Wd))} (Hh4 : ∀ (x1 : Int32) (x2 : Int32) (w : Wd), kh4 x1 x2 w = some (rr, wr) → Xx E 3 g 4 [(0, .ref (ad g k0)), (1, .int x1), (2, .int x2)] [] w) (x1 : Int32) (x2 : Int32) (w : Wd) (hM : f_X4_wetOnes_h4 k0 kh4 x1 x2 w = some (rr, wr)) : Xx E 3 g 4 [(0, .ref (ad g k0)), (1, .int x1), (2, .int x2)] [] w := by
  unfold f_X4_wetOnes_h4 at hM
  refine x_iload_n C dX4_wetOnes_4 2 rfl rfl ?_
  refine x_bipush (v := 6) C dX4_wetOnes_5 (by decide) ?_
  refine x_icmp_ge (tgt := 30) C dX4_wetOnes_7 (by decide) (fun c_1 => ?_) (fun c_1 => ?_)
  · have hM := ip c_1 hM
    refine x_iload_n C dX4_wetOnes_30 1 rfl rfl ?_
    obtain ⟨rfl, rfl⟩ := rt hM
    exact x_iret C hR rfl dX4_wetOnes_31
  · have hM := iq c_1 hM
    refine x_aload_n C dX4_wetOnes_10 0 rfl rfl ?_
    refine x_iload_n C dX4_wetOnes_11 2 rfl rfl ?_
    obtain ⟨r_3, w_2, h_4, hM⟩ := cl hM
    refine x_callV (As := [.int x2]) C (c_X4_isDry E.l g k0 x2 hk0 w h_4) k_X4_isDry hk0 (by decide) rfl rfl gw_405 rfl rfl ⟨Nat.le_of_ble_eq_true rfl, Nat.le_of_ble_eq_true rfl⟩ rfl rfl (Nat.le_of_ble_eq_true rfl) dX4_wetOnes_12 ?_
    refine x_if_ne (tgt := 24) C dX4_wetOnes_15 (by decide) (fun c_5 => ?_) (fun c_5 => ?_)
    · have hM := iq c_5 hM
      refine x_sub (L' := [(0, .ref (ad g k0)), (1, .int x1), (2, .int x2)]) [0, 1, 2] rfl ?_
      exact o_X4_wetOnes_b24 C hR hk0 Hh4 x1 x2 w_2 hM
    · have hM := ip c_5 hM
      refine x_iload_n C dX4_wetOnes_18 1 rfl rfl ?_
      refine x_iconst (v := 1) C dX4_wetOnes_19 (by decide) ?_
      refine x_iload_n C dX4_wetOnes_20 2 rfl rfl ?_
      refine x_ishl C dX4_wetOnes_21 ?_
      refine x_ior C dX4_wetOnes_22 ?_
      obtain ⟨x1_6, e_7, hM⟩ := bd hM
      refine x_top e_7 ?_
      refine x_istore_n (L' := [(1, .int x1_6), (0, .ref (ad g k0)), (2, .int x2)]) C dX4_wetOnes_23 rfl (by decide) rfl ?_
      refine x_sub (L' := [(0, .ref (ad g k0)), (1, .int x1_6), (2, .int x2)]) [1, 0, 2] rfl ?_
      exact o_X4_wetOnes_b24 C hR hk0 Hh4 x1_6 x2 w_2 hM
theorem o_X4_wetOnes_l4 {E : Ex} {g : Gx} (C : Ctx E RX4 cX4_wetOnes rm_X4_wetOnes 3 g) {rr : Int32} {wr : Wd} (hR : Rets E g (some .int) (some (.int rr)) wr) {k0 : Nat} (hk0 : kindOf k0 = 4) : ∀ (n : Nat) (x1 : Int32) (x2 : Int32) (w : Wd), f_X4_wetOnes_l4 k0 n x1 x2 w = some (rr, wr) → Xx E 3 g 4 [(0, .ref (ad g k0)), (1, .int x1), (2, .int x2)] [] w := by
  intro n
  induction n with
  | zero =>
    intro x1 x2 w hM
    rw [f_X4_wetOnes_l4] at hM
    cases hM
  | succ n ih =>
    intro x1 x2 w hM
    rw [f_X4_wetOnes_l4] at hM
    exact o_X4_wetOnes_h4 C hR hk0 ih x1 x2 w hM
set_option maxHeartbeats 1000000 in
set_option maxRecDepth 20000 in
theorem o_X4_wetOnes_b0 {E : Ex} {g : Gx} (C : Ctx E RX4 cX4_wetOnes rm_X4_wetOnes 3 g) {rr : Int32} {wr : Wd} (hR : Rets E g (some .int) (some (.int rr)) wr) {k0 : Nat} (hk0 : kindOf k0 = 4) (w : Wd) (hM : f_X4_wetOnes_b0 k0 w = some (rr, wr)) : Xx E 3 g 0 [(0, .ref (ad g k0))] [] w := by
  unfold f_X4_wetOnes_b0 at hM
  refine x_iconst (v := 0) C dX4_wetOnes_0 (by decide) ?_
  obtain ⟨x1_1, e_2, hM⟩ := bd hM
  refine x_top e_2 ?_
  refine x_istore_n (L' := [(1, .int x1_1), (0, .ref (ad g k0))]) C dX4_wetOnes_1 rfl (by decide) rfl ?_
  refine x_iconst (v := 0) C dX4_wetOnes_2 (by decide) ?_
  obtain ⟨x2_3, e_4, hM⟩ := bd hM
  refine x_top e_4 ?_
  refine x_istore_n (L' := [(2, .int x2_3), (1, .int x1_1), (0, .ref (ad g k0))]) C dX4_wetOnes_3 rfl (by decide) rfl ?_
  refine x_sub (L' := [(0, .ref (ad g k0)), (1, .int x1_1), (2, .int x2_3)]) [2, 1, 0] rfl ?_
  exact o_X4_wetOnes_l4 C hR hk0 300 x1_1 x2_3 w hM
theorem c_X4_wetOnes (l : Launch) (g : Gx) (k0 : Nat) (hk0 : kindOf k0 = 4) (w : Wd) {rr : Int32} {wr : Wd} (hM : f_X4_wetOnes k0 w = some (rr, wr)) : MetM l yX4_wetOnes cX4_wetOnes 3 (some .int) rm_X4_wetOnes g [.ref (ad g k0)] w (some (.int rr)) wr := by
  refine met_of (by decide) (Nat.le_of_ble_eq_true rfl) (fun E hl C hR => ?_)
  refine x_sub (L' := [(0, .ref (ad g k0))]) [0] rfl ?_
  exact o_X4_wetOnes_b0 C hR hk0 w hM
abbrev rm_X5_dryOnes : Room := { frames := 2, cells := 0, slots := 0, locals := 43 }
set_option maxHeartbeats 1000000 in
set_option maxRecDepth 20000 in
theorem o_X5_dryOnes_b0 {E : Ex} {g : Gx} (C : Ctx E RX5 cX5_dryOnes rm_X5_dryOnes 1 g) {rr : Int32} {wr : Wd} (hR : Rets E g (some .int) (some (.int rr)) wr) (w : Wd) (hM : f_X5_dryOnes_b0 w = some (rr, wr)) : Xx E 1 g 0 [(0, .ref (ad g 0))] [] w := by
  unfold f_X5_dryOnes_b0 at hM
  refine x_aload_n C dX5_dryOnes_0 0 rfl rfl ?_
  refine xg_5_1 C kd_0 gw_271 dX5_dryOnes_1 ?_
  obtain ⟨r_2, w_1, h_3, hM⟩ := cl hM
  refine x_callVN (As := []) C (c_X2_all E.l g 4 kd_4 w h_3) k_X2_all kd_4 (by decide) rfl rfl nw_397 rfl rfl ⟨Nat.le_of_ble_eq_true rfl, Nat.le_of_ble_eq_true rfl⟩ rfl rfl (Nat.le_of_ble_eq_true rfl) dX5_dryOnes_4 ?_
  refine x_aload_n C dX5_dryOnes_7 0 rfl rfl ?_
  refine xg_5_3 C kd_0 gw_273 dX5_dryOnes_8 ?_
  obtain ⟨r_5, w_4, h_6, hM⟩ := cl hM
  refine x_callVN (As := []) C (c_X4_wetOnes E.l g 14 kd_14 w_1 h_6) k_X4_wetOnes kd_14 (by decide) rfl rfl nw_401 rfl rfl ⟨Nat.le_of_ble_eq_true rfl, Nat.le_of_ble_eq_true rfl⟩ rfl rfl (Nat.le_of_ble_eq_true rfl) dX5_dryOnes_11 ?_
  refine x_iconst (v := -1) C dX5_dryOnes_14 (by decide) ?_
  refine x_ixor C dX5_dryOnes_15 ?_
  refine x_iand C dX5_dryOnes_16 ?_
  obtain ⟨rfl, rfl⟩ := rt hM
  exact x_iret C hR rfl dX5_dryOnes_17
theorem c_X5_dryOnes (l : Launch) (g : Gx) (w : Wd) {rr : Int32} {wr : Wd} (hM : f_X5_dryOnes w = some (rr, wr)) : MetM l yX5_dryOnes cX5_dryOnes 1 (some .int) rm_X5_dryOnes g [.ref (ad g 0)] w (some (.int rr)) wr := by
  refine met_of (by decide) (Nat.le_of_ble_eq_true rfl) (fun E hl C hR => ?_)
  refine x_sub (L' := [(0, .ref (ad g 0))]) [0] rfl ?_
  exact o_X5_dryOnes_b0 C hR w hM
abbrev rm_X4_upOnes : Room := { frames := 0, cells := 0, slots := 0, locals := 0 }
set_option maxHeartbeats 1000000 in
set_option maxRecDepth 20000 in
theorem o_X4_upOnes_b25 {E : Ex} {g : Gx} (C : Ctx E RX4 cX4_upOnes rm_X4_upOnes 3 g) {rr : Int32} {wr : Wd} (hR : Rets E g (some .int) (some (.int rr)) wr) {k0 : Nat} (hk0 : kindOf k0 = 4) {kh4 : (Int32 → Int32 → Wd → Option (Int32 × Wd))} (Hh4 : ∀ (x1 : Int32) (x2 : Int32) (w : Wd), kh4 x1 x2 w = some (rr, wr) → Xx E 3 g 4 [(0, .ref (ad g k0)), (1, .int x1), (2, .int x2)] [] w) (x1 : Int32) (x2 : Int32) (w : Wd) (hM : f_X4_upOnes_b25 k0 kh4 x1 x2 w = some (rr, wr)) : Xx E 3 g 25 [(0, .ref (ad g k0)), (1, .int x1), (2, .int x2)] [] w := by
  unfold f_X4_upOnes_b25 at hM
  obtain ⟨x2_1, e_2, hM⟩ := bd hM
  refine x_iinc (L' := [(2, .int x2_1), (0, .ref (ad g k0)), (1, .int x1)]) C dX4_upOnes_25 2 rfl (v := x2_1) (by rw [e_2]; first | rfl | decide) (by decide) rfl ?_
  refine x_goto (tgt := 4) C dX4_upOnes_28 (by decide) ?_
  refine x_sub (L' := [(0, .ref (ad g k0)), (1, .int x1), (2, .int x2_1)]) [1, 2, 0] rfl ?_
  exact Hh4 x1 x2_1 w hM
set_option maxHeartbeats 1000000 in
set_option maxRecDepth 20000 in
theorem o_X4_upOnes_h4 {E : Ex} {g : Gx} (C : Ctx E RX4 cX4_upOnes rm_X4_upOnes 3 g) {rr : Int32} {wr : Wd} (hR : Rets E g (some .int) (some (.int rr)) wr) {k0 : Nat} (hk0 : kindOf k0 = 4) {kh4 : (Int32 → Int32 → Wd → Option (Int32 × Wd))} (Hh4 : ∀ (x1 : Int32) (x2 : Int32) (w : Wd), kh4 x1 x2 w = some (rr, wr) → Xx E 3 g 4 [(0, .ref (ad g k0)), (1, .int x1), (2, .int x2)] [] w) (x1 : Int32) (x2 : Int32) (w : Wd) (hM : f_X4_upOnes_h4 k0 kh4 x1 x2 w = some (rr, wr)) : Xx E 3 g 4 [(0, .ref (ad g k0)), (1, .int x1), (2, .int x2)] [] w := by
  unfold f_X4_upOnes_h4 at hM
  refine x_iload_n C dX4_upOnes_4 2 rfl rfl ?_
  refine x_bipush (v := 6) C dX4_upOnes_5 (by decide) ?_
  refine x_icmp_ge (tgt := 31) C dX4_upOnes_7 (by decide) (fun c_1 => ?_) (fun c_1 => ?_)
  · have hM := ip c_1 hM
    refine x_iload_n C dX4_upOnes_31 1 rfl rfl ?_
    obtain ⟨rfl, rfl⟩ := rt hM
    exact x_iret C hR rfl dX4_upOnes_32
  · have hM := iq c_1 hM
    refine x_aload_n C dX4_upOnes_10 0 rfl rfl ?_
    refine xg_4_2 C hk0 gw_198 dX4_upOnes_11 ?_
    refine x_iload_n C dX4_upOnes_14 2 rfl rfl ?_
    obtain ⟨q_2, hM⟩ := gd hM
    refine x_iald C (kA4_1 hk0) (lA4_1 hk0) q_2 rfl dX4_upOnes_15 ?_
    refine x_if_ne (tgt := 25) C dX4_upOnes_16 (by decide) (fun c_3 => ?_) (fun c_3 => ?_)
    · have hM := iq c_3 hM
      refine x_sub (L' := [(0, .ref (ad g k0)), (1, .int x1), (2, .int x2)]) [0, 1, 2] rfl ?_
      exact o_X4_upOnes_b25 C hR hk0 Hh4 x1 x2 w hM
    · have hM := ip c_3 hM
      refine x_iload_n C dX4_upOnes_19 1 rfl rfl ?_
      refine x_iconst (v := 1) C dX4_upOnes_20 (by decide) ?_
      refine x_iload_n C dX4_upOnes_21 2 rfl rfl ?_
      refine x_ishl C dX4_upOnes_22 ?_
      refine x_ior C dX4_upOnes_23 ?_
      obtain ⟨x1_4, e_5, hM⟩ := bd hM
      refine x_top e_5 ?_
      refine x_istore_n (L' := [(1, .int x1_4), (0, .ref (ad g k0)), (2, .int x2)]) C dX4_upOnes_24 rfl (by decide) rfl ?_
      refine x_sub (L' := [(0, .ref (ad g k0)), (1, .int x1_4), (2, .int x2)]) [1, 0, 2] rfl ?_
      exact o_X4_upOnes_b25 C hR hk0 Hh4 x1_4 x2 w hM
theorem o_X4_upOnes_l4 {E : Ex} {g : Gx} (C : Ctx E RX4 cX4_upOnes rm_X4_upOnes 3 g) {rr : Int32} {wr : Wd} (hR : Rets E g (some .int) (some (.int rr)) wr) {k0 : Nat} (hk0 : kindOf k0 = 4) : ∀ (n : Nat) (x1 : Int32) (x2 : Int32) (w : Wd), f_X4_upOnes_l4 k0 n x1 x2 w = some (rr, wr) → Xx E 3 g 4 [(0, .ref (ad g k0)), (1, .int x1), (2, .int x2)] [] w := by
  intro n
  induction n with
  | zero =>
    intro x1 x2 w hM
    rw [f_X4_upOnes_l4] at hM
    cases hM
  | succ n ih =>
    intro x1 x2 w hM
    rw [f_X4_upOnes_l4] at hM
    exact o_X4_upOnes_h4 C hR hk0 ih x1 x2 w hM
set_option maxHeartbeats 1000000 in
set_option maxRecDepth 20000 in
theorem o_X4_upOnes_b0 {E : Ex} {g : Gx} (C : Ctx E RX4 cX4_upOnes rm_X4_upOnes 3 g) {rr : Int32} {wr : Wd} (hR : Rets E g (some .int) (some (.int rr)) wr) {k0 : Nat} (hk0 : kindOf k0 = 4) (w : Wd) (hM : f_X4_upOnes_b0 k0 w = some (rr, wr)) : Xx E 3 g 0 [(0, .ref (ad g k0))] [] w := by
  unfold f_X4_upOnes_b0 at hM
  refine x_iconst (v := 0) C dX4_upOnes_0 (by decide) ?_
  obtain ⟨x1_1, e_2, hM⟩ := bd hM
  refine x_top e_2 ?_
  refine x_istore_n (L' := [(1, .int x1_1), (0, .ref (ad g k0))]) C dX4_upOnes_1 rfl (by decide) rfl ?_
  refine x_iconst (v := 0) C dX4_upOnes_2 (by decide) ?_
  obtain ⟨x2_3, e_4, hM⟩ := bd hM
  refine x_top e_4 ?_
  refine x_istore_n (L' := [(2, .int x2_3), (1, .int x1_1), (0, .ref (ad g k0))]) C dX4_upOnes_3 rfl (by decide) rfl ?_
  refine x_sub (L' := [(0, .ref (ad g k0)), (1, .int x1_1), (2, .int x2_3)]) [2, 1, 0] rfl ?_
  exact o_X4_upOnes_l4 C hR hk0 300 x1_1 x2_3 w hM
theorem c_X4_upOnes (l : Launch) (g : Gx) (k0 : Nat) (hk0 : kindOf k0 = 4) (w : Wd) {rr : Int32} {wr : Wd} (hM : f_X4_upOnes k0 w = some (rr, wr)) : MetM l yX4_upOnes cX4_upOnes 3 (some .int) rm_X4_upOnes g [.ref (ad g k0)] w (some (.int rr)) wr := by
  refine met_of (by decide) (Nat.le_of_ble_eq_true rfl) (fun E hl C hR => ?_)
  refine x_sub (L' := [(0, .ref (ad g k0))]) [0] rfl ?_
  exact o_X4_upOnes_b0 C hR hk0 w hM
abbrev rm_X4_hasRisen : Room := { frames := 0, cells := 0, slots := 0, locals := 0 }
set_option maxHeartbeats 1000000 in
set_option maxRecDepth 20000 in
theorem o_X4_hasRisen_b0 {E : Ex} {g : Gx} (C : Ctx E RX4 cX4_hasRisen rm_X4_hasRisen 2 g) {rr : Int32} {wr : Wd} (hR : Rets E g (some .boolean) (some (.int rr)) wr) {k0 : Nat} (hk0 : kindOf k0 = 4) (x1 : Int32) (w : Wd) (hM : f_X4_hasRisen_b0 k0 x1 w = some (rr, wr)) : Xx E 2 g 0 [(0, .ref (ad g k0)), (1, .int x1)] [] w := by
  unfold f_X4_hasRisen_b0 at hM
  refine x_aload_n C dX4_hasRisen_0 0 rfl rfl ?_
  refine xg_4_5 C hk0 gw_204 dX4_hasRisen_1 ?_
  refine x_iload_n C dX4_hasRisen_4 1 rfl rfl ?_
  obtain ⟨q_1, hM⟩ := gd hM
  refine x_iald C (kA4_4 hk0) (lA4_4 hk0) q_1 rfl dX4_hasRisen_5 ?_
  refine x_bipush (v := -9) C dX4_hasRisen_6 (by decide) ?_
  refine x_icmp_eq (tgt := 15) C dX4_hasRisen_8 (by decide) (fun c_2 => ?_) (fun c_2 => ?_)
  · have hM := ip c_2 hM
    refine x_iconst (v := 0) C dX4_hasRisen_15 (by decide) ?_
    obtain ⟨rfl, rfl⟩ := rt hM
    exact x_zret C hR (by rfl) rfl dX4_hasRisen_16
  · have hM := iq c_2 hM
    refine x_iconst (v := 1) C dX4_hasRisen_11 (by decide) ?_
    refine x_goto (tgt := 16) C dX4_hasRisen_12 (by decide) ?_
    obtain ⟨rfl, rfl⟩ := rt hM
    exact x_zret C hR (by rfl) rfl dX4_hasRisen_16
theorem c_X4_hasRisen (l : Launch) (g : Gx) (k0 : Nat) (x1 : Int32) (hk0 : kindOf k0 = 4) (w : Wd) {rr : Int32} {wr : Wd} (hM : f_X4_hasRisen k0 x1 w = some (rr, wr)) : MetM l yX4_hasRisen cX4_hasRisen 2 (some .boolean) rm_X4_hasRisen g [.ref (ad g k0), .int x1] w (some (.int rr)) wr := by
  refine met_of (by decide) (Nat.le_of_ble_eq_true rfl) (fun E hl C hR => ?_)
  refine x_sub (L' := [(0, .ref (ad g k0)), (1, .int x1)]) [0, 1] rfl ?_
  exact o_X4_hasRisen_b0 C hR hk0 x1 w hM
abbrev rm_X4_risenOnes : Room := { frames := 1, cells := 0, slots := 0, locals := 21 }
set_option maxHeartbeats 1000000 in
set_option maxRecDepth 20000 in
theorem o_X4_risenOnes_b24 {E : Ex} {g : Gx} (C : Ctx E RX4 cX4_risenOnes rm_X4_risenOnes 3 g) {rr : Int32} {wr : Wd} (hR : Rets E g (some .int) (some (.int rr)) wr) {k0 : Nat} (hk0 : kindOf k0 = 4) {kh4 : (Int32 → Int32 → Wd → Option (Int32 × Wd))} (Hh4 : ∀ (x1 : Int32) (x2 : Int32) (w : Wd), kh4 x1 x2 w = some (rr, wr) → Xx E 3 g 4 [(0, .ref (ad g k0)), (1, .int x1), (2, .int x2)] [] w) (x1 : Int32) (x2 : Int32) (w : Wd) (hM : f_X4_risenOnes_b24 k0 kh4 x1 x2 w = some (rr, wr)) : Xx E 3 g 24 [(0, .ref (ad g k0)), (1, .int x1), (2, .int x2)] [] w := by
  unfold f_X4_risenOnes_b24 at hM
  obtain ⟨x2_1, e_2, hM⟩ := bd hM
  refine x_iinc (L' := [(2, .int x2_1), (0, .ref (ad g k0)), (1, .int x1)]) C dX4_risenOnes_24 2 rfl (v := x2_1) (by rw [e_2]; first | rfl | decide) (by decide) rfl ?_
  refine x_goto (tgt := 4) C dX4_risenOnes_27 (by decide) ?_
  refine x_sub (L' := [(0, .ref (ad g k0)), (1, .int x1), (2, .int x2_1)]) [1, 2, 0] rfl ?_
  exact Hh4 x1 x2_1 w hM
set_option maxHeartbeats 1000000 in
set_option maxRecDepth 20000 in
theorem o_X4_risenOnes_h4 {E : Ex} {g : Gx} (C : Ctx E RX4 cX4_risenOnes rm_X4_risenOnes 3 g) {rr : Int32} {wr : Wd} (hR : Rets E g (some .int) (some (.int rr)) wr) {k0 : Nat} (hk0 : kindOf k0 = 4) {kh4 : (Int32 → Int32 → Wd → Option (Int32 × Wd))} (Hh4 : ∀ (x1 : Int32) (x2 : Int32) (w : Wd), kh4 x1 x2 w = some (rr, wr) → Xx E 3 g 4 [(0, .ref (ad g k0)), (1, .int x1), (2, .int x2)] [] w) (x1 : Int32) (x2 : Int32) (w : Wd) (hM : f_X4_risenOnes_h4 k0 kh4 x1 x2 w = some (rr, wr)) : Xx E 3 g 4 [(0, .ref (ad g k0)), (1, .int x1), (2, .int x2)] [] w := by
  unfold f_X4_risenOnes_h4 at hM
  refine x_iload_n C dX4_risenOnes_4 2 rfl rfl ?_
  refine x_bipush (v := 6) C dX4_risenOnes_5 (by decide) ?_
  refine x_icmp_ge (tgt := 30) C dX4_risenOnes_7 (by decide) (fun c_1 => ?_) (fun c_1 => ?_)
  · have hM := ip c_1 hM
    refine x_iload_n C dX4_risenOnes_30 1 rfl rfl ?_
    obtain ⟨rfl, rfl⟩ := rt hM
    exact x_iret C hR rfl dX4_risenOnes_31
  · have hM := iq c_1 hM
    refine x_aload_n C dX4_risenOnes_10 0 rfl rfl ?_
    refine x_iload_n C dX4_risenOnes_11 2 rfl rfl ?_
    obtain ⟨r_3, w_2, h_4, hM⟩ := cl hM
    refine x_callV (As := [.int x2]) C (c_X4_hasRisen E.l g k0 x2 hk0 w h_4) k_X4_hasRisen hk0 (by decide) rfl rfl gw_417 rfl rfl ⟨Nat.le_of_ble_eq_true rfl, Nat.le_of_ble_eq_true rfl⟩ rfl rfl (Nat.le_of_ble_eq_true rfl) dX4_risenOnes_12 ?_
    refine x_if_eq (tgt := 24) C dX4_risenOnes_15 (by decide) (fun c_5 => ?_) (fun c_5 => ?_)
    · have hM := ip c_5 hM
      refine x_sub (L' := [(0, .ref (ad g k0)), (1, .int x1), (2, .int x2)]) [0, 1, 2] rfl ?_
      exact o_X4_risenOnes_b24 C hR hk0 Hh4 x1 x2 w_2 hM
    · have hM := iq c_5 hM
      refine x_iload_n C dX4_risenOnes_18 1 rfl rfl ?_
      refine x_iconst (v := 1) C dX4_risenOnes_19 (by decide) ?_
      refine x_iload_n C dX4_risenOnes_20 2 rfl rfl ?_
      refine x_ishl C dX4_risenOnes_21 ?_
      refine x_ior C dX4_risenOnes_22 ?_
      obtain ⟨x1_6, e_7, hM⟩ := bd hM
      refine x_top e_7 ?_
      refine x_istore_n (L' := [(1, .int x1_6), (0, .ref (ad g k0)), (2, .int x2)]) C dX4_risenOnes_23 rfl (by decide) rfl ?_
      refine x_sub (L' := [(0, .ref (ad g k0)), (1, .int x1_6), (2, .int x2)]) [1, 0, 2] rfl ?_
      exact o_X4_risenOnes_b24 C hR hk0 Hh4 x1_6 x2 w_2 hM
theorem o_X4_risenOnes_l4 {E : Ex} {g : Gx} (C : Ctx E RX4 cX4_risenOnes rm_X4_risenOnes 3 g) {rr : Int32} {wr : Wd} (hR : Rets E g (some .int) (some (.int rr)) wr) {k0 : Nat} (hk0 : kindOf k0 = 4) : ∀ (n : Nat) (x1 : Int32) (x2 : Int32) (w : Wd), f_X4_risenOnes_l4 k0 n x1 x2 w = some (rr, wr) → Xx E 3 g 4 [(0, .ref (ad g k0)), (1, .int x1), (2, .int x2)] [] w := by
  intro n
  induction n with
  | zero =>
    intro x1 x2 w hM
    rw [f_X4_risenOnes_l4] at hM
    cases hM
  | succ n ih =>
    intro x1 x2 w hM
    rw [f_X4_risenOnes_l4] at hM
    exact o_X4_risenOnes_h4 C hR hk0 ih x1 x2 w hM
set_option maxHeartbeats 1000000 in
set_option maxRecDepth 20000 in
theorem o_X4_risenOnes_b0 {E : Ex} {g : Gx} (C : Ctx E RX4 cX4_risenOnes rm_X4_risenOnes 3 g) {rr : Int32} {wr : Wd} (hR : Rets E g (some .int) (some (.int rr)) wr) {k0 : Nat} (hk0 : kindOf k0 = 4) (w : Wd) (hM : f_X4_risenOnes_b0 k0 w = some (rr, wr)) : Xx E 3 g 0 [(0, .ref (ad g k0))] [] w := by
  unfold f_X4_risenOnes_b0 at hM
  refine x_iconst (v := 0) C dX4_risenOnes_0 (by decide) ?_
  obtain ⟨x1_1, e_2, hM⟩ := bd hM
  refine x_top e_2 ?_
  refine x_istore_n (L' := [(1, .int x1_1), (0, .ref (ad g k0))]) C dX4_risenOnes_1 rfl (by decide) rfl ?_
  refine x_iconst (v := 0) C dX4_risenOnes_2 (by decide) ?_
  obtain ⟨x2_3, e_4, hM⟩ := bd hM
  refine x_top e_4 ?_
  refine x_istore_n (L' := [(2, .int x2_3), (1, .int x1_1), (0, .ref (ad g k0))]) C dX4_risenOnes_3 rfl (by decide) rfl ?_
  refine x_sub (L' := [(0, .ref (ad g k0)), (1, .int x1_1), (2, .int x2_3)]) [2, 1, 0] rfl ?_
  exact o_X4_risenOnes_l4 C hR hk0 300 x1_1 x2_3 w hM
theorem c_X4_risenOnes (l : Launch) (g : Gx) (k0 : Nat) (hk0 : kindOf k0 = 4) (w : Wd) {rr : Int32} {wr : Wd} (hM : f_X4_risenOnes k0 w = some (rr, wr)) : MetM l yX4_risenOnes cX4_risenOnes 3 (some .int) rm_X4_risenOnes g [.ref (ad g k0)] w (some (.int rr)) wr := by
  refine met_of (by decide) (Nat.le_of_ble_eq_true rfl) (fun E hl C hR => ?_)
  refine x_sub (L' := [(0, .ref (ad g k0))]) [0] rfl ?_
  exact o_X4_risenOnes_b0 C hR hk0 w hM
