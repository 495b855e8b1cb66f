abbrev rm_X3_add : Room := { frames := 0, cells := 0, slots := 0, locals := 0 }
set_option maxHeartbeats 1000000 in
set_option maxRecDepth 20000 in
theorem o_X3_add_b0 {E : Ex} {g : Gx} (C : Ctx E RX3 cX3_add rm_X3_add 4 g) {rr : Int32} {wr : Wd} (hR : Rets E g (some .boolean) (some (.int rr)) wr) (x1 : Int32) (x2 : Int32) (x3 : Int32) (w : Wd) (hM : f_X3_add_b0 x1 x2 x3 w = some (rr, wr)) : Xx E 4 g 0 [(0, .ref (ad g 86)), (1, .int x1), (2, .int x2), (3, .int x3)] [] w := by
  unfold f_X3_add_b0 at hM
  refine x_aload_n C dX3_add_0 0 rfl rfl ?_
  refine xg_3_3 C kd_86 gw_251 dX3_add_1 ?_
  refine x_if_lt (tgt := 16) C dX3_add_4 (by decide) (fun c_1 => ?_) (fun c_1 => ?_)
  · have hM := ip c_1 hM
    refine x_iconst (v := 0) C dX3_add_16 (by decide) ?_
    obtain ⟨rfl, rfl⟩ := rt hM
    exact x_zret C hR (by rfl) rfl dX3_add_17
  · have hM := iq c_1 hM
    refine x_aload_n C dX3_add_7 0 rfl rfl ?_
    refine xg_3_3 C kd_86 gw_251 dX3_add_8 ?_
    refine x_bipush (v := 6) C dX3_add_11 (by decide) ?_
    refine x_icmp_lt (tgt := 18) C dX3_add_13 (by decide) (fun c_2 => ?_) (fun c_2 => ?_)
    · have hM := ip c_2 hM
      refine x_aload_n C dX3_add_18 0 rfl rfl ?_
      refine xg_3_0 C kd_86 gw_245 dX3_add_19 ?_
      refine x_aload_n C dX3_add_22 0 rfl rfl ?_
      refine xg_3_3 C kd_86 gw_251 dX3_add_23 ?_
      refine x_iload_n C dX3_add_26 1 rfl rfl ?_
      obtain ⟨q_3, hM⟩ := gd hM
      obtain ⟨w_4, e_5, hM⟩ := bd hM
      refine x_iast C kd_87 ln_87 q_3 rfl dX3_add_27 ?_
      refine x_w e_5 ?_
      refine x_aload_n C dX3_add_28 0 rfl rfl ?_
      refine xg_3_1 C kd_86 gw_247 dX3_add_29 ?_
      refine x_aload_n C dX3_add_32 0 rfl rfl ?_
      refine xg_3_3 C kd_86 gw_251 dX3_add_33 ?_
      refine x_iload_n C dX3_add_36 2 rfl rfl ?_
      obtain ⟨q_6, hM⟩ := gd hM
      obtain ⟨w_7, e_8, hM⟩ := bd hM
      refine x_iast C kd_88 ln_88 q_6 rfl dX3_add_37 ?_
      refine x_w e_8 ?_
      refine x_aload_n C dX3_add_38 0 rfl rfl ?_
      refine xg_3_2 C kd_86 gw_249 dX3_add_39 ?_
      refine x_aload_n C dX3_add_42 0 rfl rfl ?_
      refine xg_3_3 C kd_86 gw_251 dX3_add_43 ?_
      refine x_iload_n C dX3_add_46 3 rfl rfl ?_
      obtain ⟨q_9, hM⟩ := gd hM
      obtain ⟨w_10, e_11, hM⟩ := bd hM
      refine x_iast C kd_89 ln_89 q_9 rfl dX3_add_47 ?_
      refine x_w e_11 ?_
      refine x_aload_n C dX3_add_48 0 rfl rfl ?_
      refine x_dup C dX3_add_49 rfl ?_
      refine xg_3_3 C kd_86 gw_251 dX3_add_50 ?_
      refine x_iconst (v := 1) C dX3_add_53 (by decide) ?_
      refine x_iadd C dX3_add_54 ?_
      obtain ⟨w_12, e_13, hM⟩ := bd hM
      refine xp_3_3 C kd_86 gw_251 dX3_add_55 ?_
      refine x_w e_13 ?_
      refine x_iconst (v := 1) C dX3_add_58 (by decide) ?_
      obtain ⟨rfl, rfl⟩ := rt hM
      exact x_zret C hR (by rfl) rfl dX3_add_59
    · have hM := iq c_2 hM
      refine x_iconst (v := 0) C dX3_add_16 (by decide) ?_
      obtain ⟨rfl, rfl⟩ := rt hM
      exact x_zret C hR (by rfl) rfl dX3_add_17
theorem c_X3_add (l : Launch) (g : Gx) (x1 : Int32) (x2 : Int32) (x3 : Int32) (w : Wd) {rr : Int32} {wr : Wd} (hM : f_X3_add x1 x2 x3 w = some (rr, wr)) : MetM l yX3_add cX3_add 4 (some .boolean) rm_X3_add g [.ref (ad g 86), .int x1, .int x2, .int x3] w (some (.int rr)) wr := by
  refine met_of (by decide) (Nat.le_of_ble_eq_true rfl) (fun E hl C hR => ?_)
  refine x_sub (L' := [(0, .ref (ad g 86)), (1, .int x1), (2, .int x2), (3, .int x3)]) [0, 1, 2, 3] rfl ?_
  exact o_X3_add_b0 C hR x1 x2 x3 w hM
abbrev rm_X5_sees : Room := { frames := 1, cells := 0, slots := 0, locals := 23 }
set_option maxHeartbeats 1000000 in
set_option maxRecDepth 20000 in
theorem o_X5_sees_b0 {E : Ex} {g : Gx} (C : Ctx E RX5 cX5_sees rm_X5_sees 4 g) {rr : Int32} {wr : Wd} (hR : Rets E g (some .int) (some (.int rr)) wr) (x1 : Int32) (x2 : Int32) (x3 : Int32) (w : Wd) (hM : f_X5_sees_b0 x1 x2 x3 w = some (rr, wr)) : Xx E 4 g 0 [(0, .ref (ad g 0)), (1, .int x1), (2, .int x2), (3, .int x3)] [] w := by
  unfold f_X5_sees_b0 at hM
  refine x_aload_n C dX5_sees_0 0 rfl rfl ?_
  refine x_iload_n C dX5_sees_1 1 rfl rfl ?_
  obtain ⟨r_2, w_1, h_3, hM⟩ := cl hM
  refine x_callV (As := [.int x1]) C (c_X5_isTold E.l g x1 w h_3) k_X5_isTold kd_0 (by decide) rfl rfl gw_385 rfl rfl ⟨Nat.le_of_ble_eq_true rfl, Nat.le_of_ble_eq_true rfl⟩ rfl rfl (Nat.le_of_ble_eq_true rfl) dX5_sees_2 ?_
  refine x_if_eq (tgt := 29) C dX5_sees_5 (by decide) (fun c_4 => ?_) (fun c_4 => ?_)
  · have hM := ip c_4 hM
    refine x_iconst (v := -1) C dX5_sees_29 (by decide) ?_
    obtain ⟨rfl, rfl⟩ := rt hM
    exact x_iret C hR rfl dX5_sees_30
  · have hM := iq c_4 hM
    refine x_iload_n C dX5_sees_8 2 rfl rfl ?_
    refine x_iconst (v := 1) C dX5_sees_9 (by decide) ?_
    refine x_icmp_lt (tgt := 29) C dX5_sees_10 (by decide) (fun c_5 => ?_) (fun c_5 => ?_)
    · have hM := ip c_5 hM
      refine x_iconst (v := -1) C dX5_sees_29 (by decide) ?_
      obtain ⟨rfl, rfl⟩ := rt hM
      exact x_iret C hR rfl dX5_sees_30
    · have hM := iq c_5 hM
      refine x_iload_n C dX5_sees_13 2 rfl rfl ?_
      refine x_bipush (v := 20) C dX5_sees_14 (by decide) ?_
      refine x_icmp_gt (tgt := 29) C dX5_sees_16 (by decide) (fun c_6 => ?_) (fun c_6 => ?_)
      · have hM := ip c_6 hM
        refine x_iconst (v := -1) C dX5_sees_29 (by decide) ?_
        obtain ⟨rfl, rfl⟩ := rt hM
        exact x_iret C hR rfl dX5_sees_30
      · have hM := iq c_6 hM
        refine x_iload_n C dX5_sees_19 3 rfl rfl ?_
        refine x_if_lt (tgt := 29) C dX5_sees_20 (by decide) (fun c_7 => ?_) (fun c_7 => ?_)
        · have hM := ip c_7 hM
          refine x_iconst (v := -1) C dX5_sees_29 (by decide) ?_
          obtain ⟨rfl, rfl⟩ := rt hM
          exact x_iret C hR rfl dX5_sees_30
        · have hM := iq c_7 hM
          refine x_iload_n C dX5_sees_23 3 rfl rfl ?_
          refine x_bipush (v := 10) C dX5_sees_24 (by decide) ?_
          refine x_icmp_le (tgt := 31) C dX5_sees_26 (by decide) (fun c_8 => ?_) (fun c_8 => ?_)
          · have hM := ip c_8 hM
            refine x_aload_n C dX5_sees_31 0 rfl rfl ?_
            refine xg_5_9 C kd_0 gw_279 dX5_sees_32 ?_
            refine x_iload_n C dX5_sees_35 1 rfl rfl ?_
            refine x_iload_n C dX5_sees_36 2 rfl rfl ?_
            refine x_iload_n C dX5_sees_37 3 rfl rfl ?_
            obtain ⟨r_10, w_9, h_11, hM⟩ := cl hM
            refine x_callVN (As := [.int x1, .int x2, .int x3]) C (c_X3_add E.l g x1 x2 x3 w_1 h_11) k_X3_add kd_86 (by decide) rfl rfl nw_605 rfl rfl ⟨Nat.le_of_ble_eq_true rfl, Nat.le_of_ble_eq_true rfl⟩ rfl rfl (Nat.le_of_ble_eq_true rfl) dX5_sees_38 ?_
            refine x_if_eq (tgt := 54) C dX5_sees_41 (by decide) (fun c_12 => ?_) (fun c_12 => ?_)
            · have hM := ip c_12 hM
              refine x_bipush (v := -3) C dX5_sees_54 (by decide) ?_
              obtain ⟨rfl, rfl⟩ := rt hM
              exact x_iret C hR rfl dX5_sees_56
            · have hM := iq c_12 hM
              refine x_aload_n C dX5_sees_44 0 rfl rfl ?_
              refine xg_5_9 C kd_0 gw_279 dX5_sees_45 ?_
              refine xgN_3_3 C kd_86 nw_252 dX5_sees_48 ?_
              refine x_goto (tgt := 56) C dX5_sees_51 (by decide) ?_
              obtain ⟨rfl, rfl⟩ := rt hM
              exact x_iret C hR rfl dX5_sees_56
          · have hM := iq c_8 hM
            refine x_iconst (v := -1) C dX5_sees_29 (by decide) ?_
            obtain ⟨rfl, rfl⟩ := rt hM
            exact x_iret C hR rfl dX5_sees_30
theorem c_X5_sees (l : Launch) (g : Gx) (x1 : Int32) (x2 : Int32) (x3 : Int32) (w : Wd) {rr : Int32} {wr : Wd} (hM : f_X5_sees x1 x2 x3 w = some (rr, wr)) : MetM l yX5_sees cX5_sees 4 (some .int) rm_X5_sees g [.ref (ad g 0), .int x1, .int x2, .int x3] w (some (.int rr)) wr := by
  refine met_of (by decide) (Nat.le_of_ble_eq_true rfl) (fun E hl C hR => ?_)
  refine x_sub (L' := [(0, .ref (ad g 0)), (1, .int x1), (2, .int x2), (3, .int x3)]) [0, 1, 2, 3] rfl ?_
  exact o_X5_sees_b0 C hR x1 x2 x3 w hM
abbrev rm_X5_forget : Room := { frames := 0, cells := 0, slots := 0, locals := 0 }
set_option maxHeartbeats 1000000 in
set_option maxRecDepth 20000 in
theorem o_X5_forget_b0 {E : Ex} {g : Gx} (C : Ctx E RX5 cX5_forget rm_X5_forget 2 g) {rr : Int32} {wr : Wd} (hR : Rets E g (some .int) (some (.int rr)) wr) (w : Wd) (hM : f_X5_forget_b0 w = some (rr, wr)) : Xx E 2 g 0 [(0, .ref (ad g 0))] [] w := by
  unfold f_X5_forget_b0 at hM
  refine x_aload_n C dX5_forget_0 0 rfl rfl ?_
  refine xg_5_9 C kd_0 gw_279 dX5_forget_1 ?_
  refine xgN_3_3 C kd_86 nw_252 dX5_forget_4 ?_
  obtain ⟨x1_1, e_2, hM⟩ := bd hM
  refine x_top e_2 ?_
  refine x_istore_n (L' := [(1, .int x1_1), (0, .ref (ad g 0))]) C dX5_forget_7 rfl (by decide) rfl ?_
  refine x_aload_n C dX5_forget_8 1 rfl rfl ?_
  refine xg_5_9 C kd_0 gw_279 dX5_forget_9 ?_
  refine x_iconst (v := 0) C dX5_forget_12 (by decide) ?_
  obtain ⟨w_3, e_4, hM⟩ := bd hM
  refine xpN_3_3 C kd_86 nw_252 dX5_forget_13 ?_
  refine x_w e_4 ?_
  refine x_iload_n C dX5_forget_16 0 rfl rfl ?_
  obtain ⟨rfl, rfl⟩ := rt hM
  exact x_iret C hR rfl dX5_forget_17
theorem c_X5_forget (l : Launch) (g : Gx) (w : Wd) {rr : Int32} {wr : Wd} (hM : f_X5_forget w = some (rr, wr)) : MetM l yX5_forget cX5_forget 2 (some .int) rm_X5_forget g [.ref (ad g 0)] w (some (.int rr)) wr := by
  refine met_of (by decide) (Nat.le_of_ble_eq_true rfl) (fun E hl C hR => ?_)
  refine x_sub (L' := [(0, .ref (ad g 0))]) [0] rfl ?_
  exact o_X5_forget_b0 C hR w hM
abbrev rm_X5_depthAlone : Room := { frames := 2, cells := 0, slots := 0, locals := 34 }
set_option maxHeartbeats 1000000 in
set_option maxRecDepth 20000 in
theorem o_X5_depthAlone_h18 {E : Ex} {g : Gx} (C : Ctx E RX5 cX5_depthAlone rm_X5_depthAlone 7 g) {rr : Int32} {wr : Wd} (hR : Rets E g (some .int) (some (.int rr)) wr) {kh18 : (Int32 → Int32 → Int32 → Int32 → Int32 → Int32 → Wd → Option (Int32 × Wd))} (Hh18 : ∀ (x1 : Int32) (x2 : Int32) (x3 : Int32) (x4 : Int32) (x5 : Int32) (x6 : Int32) (w : Wd), kh18 x1 x2 x3 x4 x5 x6 w = some (rr, wr) → Xx E 7 g 18 [(0, .ref (ad g 0)), (1, .int x1), (2, .int x2), (3, .int x3), (4, .int x4), (5, .int x5), (6, .int x6)] [] w) (x1 : Int32) (x2 : Int32) (x3 : Int32) (x4 : Int32) (x5 : Int32) (x6 : Int32) (w : Wd) (hM : f_X5_depthAlone_h18 kh18 x1 x2 x3 x4 x5 x6 w = some (rr, wr)) : Xx E 7 g 18 [(0, .ref (ad g 0)), (1, .int x1), (2, .int x2), (3, .int x3), (4, .int x4), (5, .int x5), (6, .int x6)] [] w := by
  unfold f_X5_depthAlone_h18 at hM
  refine x_iload C dX5_depthAlone_18 6 rfl ?_
  refine x_iload_n C dX5_depthAlone_20 3 rfl rfl ?_
  refine x_icmp_ge (tgt := 68) C dX5_depthAlone_21 (by decide) (fun c_1 => ?_) (fun c_1 => ?_)
  · have hM := ip c_1 hM
    refine x_iload C dX5_depthAlone_68 4 rfl ?_
    obtain ⟨rfl, rfl⟩ := rt hM
    exact x_iret C hR rfl dX5_depthAlone_70
  · have hM := iq c_1 hM
    refine x_bipush (v := 30) C dX5_depthAlone_24 (by decide) ?_
    refine x_iload C dX5_depthAlone_26 5 rfl ?_
    refine x_aload_n C dX5_depthAlone_28 0 rfl rfl ?_
    refine xg_5_1 C kd_0 gw_271 dX5_depthAlone_29 ?_
    refine xgN_2_6 C kd_4 nw_167 dX5_depthAlone_32 ?_
    refine x_iload_n C dX5_depthAlone_35 1 rfl rfl ?_
    obtain ⟨q_2, hM⟩ := gd hM
    refine x_iald C kd_7 ln_7 q_2 rfl dX5_depthAlone_36 ?_
    refine x_iadd C dX5_depthAlone_37 ?_
    refine x_mmin C gw_439 gw_347 gw_90 mc_min (Nat.le_of_ble_eq_true rfl) (Nat.le_of_ble_eq_true rfl) dX5_depthAlone_38 ?_
    obtain ⟨x5_3, e_4, hM⟩ := bd hM
    refine x_top e_4 ?_
    refine x_istore (L' := [(5, .int x5_3), (0, .ref (ad g 0)), (1, .int x1), (2, .int x2), (3, .int x3), (4, .int x4), (6, .int x6)]) C dX5_depthAlone_41 (by decide) rfl ?_
    refine x_iload C dX5_depthAlone_43 5 rfl ?_
    refine x_iload C dX5_depthAlone_45 0 rfl ?_
    refine x_aload_n C dX5_depthAlone_47 1 rfl rfl ?_
    refine xg_5_3 C kd_0 gw_273 dX5_depthAlone_48 ?_
    refine xgN_4_1 C kd_14 nw_197 dX5_depthAlone_51 ?_
    refine x_iadd C dX5_depthAlone_54 ?_
    refine x_iload_n C dX5_depthAlone_55 3 rfl rfl ?_
    refine x_isub C dX5_depthAlone_56 ?_
    obtain ⟨r_6, w_5, h_7, hM⟩ := cl hM
    refine x_callS (As := [.int x4, .int ((x5_3 + (wget w 14 1)) - x2)]) C (c_X5_moved E.l g x4 ((x5_3 + (wget w 14 1)) - x2) w h_7) k_X5_moved gw_629 rfl rfl ⟨Nat.le_of_ble_eq_true rfl, Nat.le_of_ble_eq_true rfl⟩ rfl rfl (Nat.le_of_ble_eq_true rfl) dX5_depthAlone_57 ?_
    obtain ⟨x4_8, e_9, hM⟩ := bd hM
    refine x_top e_9 ?_
    refine x_istore (L' := [(4, .int x4_8), (5, .int x5_3), (0, .ref (ad g 0)), (1, .int x1), (2, .int x2), (3, .int x3), (6, .int x6)]) C dX5_depthAlone_60 (by decide) rfl ?_
    obtain ⟨x6_10, e_11, hM⟩ := bd hM
    refine x_iinc (L' := [(6, .int x6_10), (4, .int x4_8), (5, .int x5_3), (0, .ref (ad g 0)), (1, .int x1), (2, .int x2), (3, .int x3)]) C dX5_depthAlone_62 6 rfl (v := x6_10) (by rw [e_11]; first | rfl | decide) (by decide) rfl ?_
    refine x_goto (tgt := 18) C dX5_depthAlone_65 (by decide) ?_
    refine x_sub (L' := [(0, .ref (ad g 0)), (1, .int x1), (2, .int x2), (3, .int x3), (4, .int x4_8), (5, .int x5_3), (6, .int x6_10)]) [3, 4, 5, 6, 1, 2, 0] rfl ?_
    exact Hh18 x1 x2 x3 x4_8 x5_3 x6_10 w_5 hM
theorem o_X5_depthAlone_l18 {E : Ex} {g : Gx} (C : Ctx E RX5 cX5_depthAlone rm_X5_depthAlone 7 g) {rr : Int32} {wr : Wd} (hR : Rets E g (some .int) (some (.int rr)) wr) : ∀ (n : Nat) (x1 : Int32) (x2 : Int32) (x3 : Int32) (x4 : Int32) (x5 : Int32) (x6 : Int32) (w : Wd), f_X5_depthAlone_l18 n x1 x2 x3 x4 x5 x6 w = some (rr, wr) → Xx E 7 g 18 [(0, .ref (ad g 0)), (1, .int x1), (2, .int x2), (3, .int x3), (4, .int x4), (5, .int x5), (6, .int x6)] [] w := by
  intro n
  induction n with
  | zero =>
    intro x1 x2 x3 x4 x5 x6 w hM
    rw [f_X5_depthAlone_l18] at hM
    cases hM
  | succ n ih =>
    intro x1 x2 x3 x4 x5 x6 w hM
    rw [f_X5_depthAlone_l18] at hM
    exact o_X5_depthAlone_h18 C hR ih x1 x2 x3 x4 x5 x6 w hM
set_option maxHeartbeats 1000000 in
set_option maxRecDepth 20000 in
theorem o_X5_depthAlone_b0 {E : Ex} {g : Gx} (C : Ctx E RX5 cX5_depthAlone rm_X5_depthAlone 7 g) {rr : Int32} {wr : Wd} (hR : Rets E g (some .int) (some (.int rr)) wr) (x1 : Int32) (x2 : Int32) (x3 : Int32) (w : Wd) (hM : f_X5_depthAlone_b0 x1 x2 x3 w = some (rr, wr)) : Xx E 7 g 0 [(0, .ref (ad g 0)), (1, .int x1), (2, .int x2), (3, .int x3)] [] w := by
  unfold f_X5_depthAlone_b0 at hM
  refine x_bipush (v := 10) C dX5_depthAlone_0 (by decide) ?_
  obtain ⟨x4_1, e_2, hM⟩ := bd hM
  refine x_top e_2 ?_
  refine x_istore (L' := [(4, .int x4_1), (0, .ref (ad g 0)), (1, .int x1), (2, .int x2), (3, .int x3)]) C dX5_depthAlone_2 (by decide) rfl ?_
  refine x_aload_n C dX5_depthAlone_4 1 rfl rfl ?_
  refine xg_5_3 C kd_0 gw_273 dX5_depthAlone_5 ?_
  refine xgN_4_3 C kd_14 nw_201 dX5_depthAlone_8 ?_
  refine x_iload_n C dX5_depthAlone_11 2 rfl rfl ?_
  obtain ⟨q_3, hM⟩ := gd hM
  refine x_iald C kd_16 ln_16 q_3 rfl dX5_depthAlone_12 ?_
  obtain ⟨x5_4, e_5, hM⟩ := bd hM
  refine x_top e_5 ?_
  refine x_istore (L' := [(5, .int x5_4), (4, .int x4_1), (0, .ref (ad g 0)), (1, .int x1), (2, .int x2), (3, .int x3)]) C dX5_depthAlone_13 (by decide) rfl ?_
  refine x_iconst (v := 0) C dX5_depthAlone_15 (by decide) ?_
  obtain ⟨x6_6, e_7, hM⟩ := bd hM
  refine x_top e_7 ?_
  refine x_istore (L' := [(6, .int x6_6), (5, .int x5_4), (4, .int x4_1), (0, .ref (ad g 0)), (1, .int x1), (2, .int x2), (3, .int x3)]) C dX5_depthAlone_16 (by decide) rfl ?_
  refine x_sub (L' := [(0, .ref (ad g 0)), (1, .int x1), (2, .int x2), (3, .int x3), (4, .int x4_1), (5, .int x5_4), (6, .int x6_6)]) [3, 4, 5, 6, 2, 1, 0] rfl ?_
  exact o_X5_depthAlone_l18 C hR 300 x1 x2 x3 x4_1 x5_4 x6_6 w hM
theorem c_X5_depthAlone (l : Launch) (g : Gx) (x1 : Int32) (x2 : Int32) (x3 : Int32) (w : Wd) {rr : Int32} {wr : Wd} (hM : f_X5_depthAlone x1 x2 x3 w = some (rr, wr)) : MetM l yX5_depthAlone cX5_depthAlone 7 (some .int) rm_X5_depthAlone g [.ref (ad g 0), .int x1, .int x2, .int x3] w (some (.int rr)) wr := by
  refine met_of (by decide) (Nat.le_of_ble_eq_true rfl) (fun E hl C hR => ?_)
  refine x_sub (L' := [(0, .ref (ad g 0)), (1, .int x1), (2, .int x2), (3, .int x3)]) [0, 1, 2, 3] rfl ?_
  exact o_X5_depthAlone_b0 C hR x1 x2 x3 w hM
abbrev rm_X5_fitsWhatIsSeen : Room := { frames := 3, cells := 0, slots := 0, locals := 60 }
set_option maxHeartbeats 1000000 in
set_option maxRecDepth 20000 in
theorem o_X5_fitsWhatIsSeen_b61 {E : Ex} {g : Gx} (C : Ctx E RX5 cX5_fitsWhatIsSeen rm_X5_fitsWhatIsSeen 4 g) {rr : Int32} {wr : Wd} (hR : Rets E g (some .boolean) (some (.int rr)) wr) {kh2 : (Int32 → Int32 → Int32 → Wd → Option (Int32 × Wd))} (Hh2 : ∀ (x1 : Int32) (x2 : Int32) (x3 : Int32) (w : Wd), kh2 x1 x2 x3 w = some (rr, wr) → Xx E 4 g 2 [(0, .ref (ad g 0)), (1, .int x1), (2, .int x2), (3, .int x3)] [] w) (x1 : Int32) (x2 : Int32) (x3 : Int32) (w : Wd) (hM : f_X5_fitsWhatIsSeen_b61 kh2 x1 x2 x3 w = some (rr, wr)) : Xx E 4 g 61 [(0, .ref (ad g 0)), (1, .int x1), (2, .int x2), (3, .int x3)] [] w := by
  unfold f_X5_fitsWhatIsSeen_b61 at hM
  obtain ⟨x3_1, e_2, hM⟩ := bd hM
  refine x_iinc (L' := [(3, .int x3_1), (0, .ref (ad g 0)), (1, .int x1), (2, .int x2)]) C dX5_fitsWhatIsSeen_61 3 rfl (v := x3_1) (by rw [e_2]; first | rfl | decide) (by decide) rfl ?_
  refine x_goto (tgt := 2) C dX5_fitsWhatIsSeen_64 (by decide) ?_
  refine x_sub (L' := [(0, .ref (ad g 0)), (1, .int x1), (2, .int x2), (3, .int x3_1)]) [1, 2, 3, 0] rfl ?_
  exact Hh2 x1 x2 x3_1 w hM
set_option maxHeartbeats 1000000 in
set_option maxRecDepth 20000 in
theorem o_X5_fitsWhatIsSeen_h2 {E : Ex} {g : Gx} (C : Ctx E RX5 cX5_fitsWhatIsSeen rm_X5_fitsWhatIsSeen 4 g) {rr : Int32} {wr : Wd} (hR : Rets E g (some .boolean) (some (.int rr)) wr) {kh2 : (Int32 → Int32 → Int32 → Wd → Option (Int32 × Wd))} (Hh2 : ∀ (x1 : Int32) (x2 : Int32) (x3 : Int32) (w : Wd), kh2 x1 x2 x3 w = some (rr, wr) → Xx E 4 g 2 [(0, .ref (ad g 0)), (1, .int x1), (2, .int x2), (3, .int x3)] [] w) (x1 : Int32) (x2 : Int32) (x3 : Int32) (w : Wd) (hM : f_X5_fitsWhatIsSeen_h2 kh2 x1 x2 x3 w = some (rr, wr)) : Xx E 4 g 2 [(0, .ref (ad g 0)), (1, .int x1), (2, .int x2), (3, .int x3)] [] w := by
  unfold f_X5_fitsWhatIsSeen_h2 at hM
  refine x_iload_n C dX5_fitsWhatIsSeen_2 3 rfl rfl ?_
  refine x_bipush (v := 6) C dX5_fitsWhatIsSeen_3 (by decide) ?_
  refine x_icmp_ge (tgt := 67) C dX5_fitsWhatIsSeen_5 (by decide) (fun c_1 => ?_) (fun c_1 => ?_)
  · have hM := ip c_1 hM
    refine x_iconst (v := 1) C dX5_fitsWhatIsSeen_67 (by decide) ?_
    obtain ⟨rfl, rfl⟩ := rt hM
    exact x_zret C hR (by rfl) rfl dX5_fitsWhatIsSeen_68
  · have hM := iq c_1 hM
    refine x_iload_n C dX5_fitsWhatIsSeen_8 3 rfl rfl ?_
    refine x_aload_n C dX5_fitsWhatIsSeen_9 0 rfl rfl ?_
    refine xg_5_9 C kd_0 gw_279 dX5_fitsWhatIsSeen_10 ?_
    refine xgN_3_3 C kd_86 nw_252 dX5_fitsWhatIsSeen_13 ?_
    refine x_icmp_ge (tgt := 67) C dX5_fitsWhatIsSeen_16 (by decide) (fun c_2 => ?_) (fun c_2 => ?_)
    · have hM := ip c_2 hM
      refine x_iconst (v := 1) C dX5_fitsWhatIsSeen_67 (by decide) ?_
      obtain ⟨rfl, rfl⟩ := rt hM
      exact x_zret C hR (by rfl) rfl dX5_fitsWhatIsSeen_68
    · have hM := iq c_2 hM
      refine x_aload_n C dX5_fitsWhatIsSeen_19 0 rfl rfl ?_
      refine xg_5_9 C kd_0 gw_279 dX5_fitsWhatIsSeen_20 ?_
      refine xgN_3_0 C kd_86 nw_246 dX5_fitsWhatIsSeen_23 ?_
      refine x_iload_n C dX5_fitsWhatIsSeen_26 3 rfl rfl ?_
      obtain ⟨q_3, hM⟩ := gd hM
      refine x_iald C kd_87 ln_87 q_3 rfl dX5_fitsWhatIsSeen_27 ?_
      refine x_iload_n C dX5_fitsWhatIsSeen_28 1 rfl rfl ?_
      refine x_icmp_ne (tgt := 61) C dX5_fitsWhatIsSeen_29 (by decide) (fun c_4 => ?_) (fun c_4 => ?_)
      · have hM := iq c_4 hM
        refine x_sub (L' := [(0, .ref (ad g 0)), (1, .int x1), (2, .int x2), (3, .int x3)]) [0, 1, 2, 3] rfl ?_
        exact o_X5_fitsWhatIsSeen_b61 C hR Hh2 x1 x2 x3 w hM
      · have hM := ip c_4 hM
        refine x_aload_n C dX5_fitsWhatIsSeen_32 0 rfl rfl ?_
        refine x_iload_n C dX5_fitsWhatIsSeen_33 1 rfl rfl ?_
        refine x_iload_n C dX5_fitsWhatIsSeen_34 2 rfl rfl ?_
        refine x_aload_n C dX5_fitsWhatIsSeen_35 0 rfl rfl ?_
        refine xg_5_9 C kd_0 gw_279 dX5_fitsWhatIsSeen_36 ?_
        refine xgN_3_1 C kd_86 nw_248 dX5_fitsWhatIsSeen_39 ?_
        refine x_iload_n C dX5_fitsWhatIsSeen_42 3 rfl rfl ?_
        obtain ⟨q_5, hM⟩ := gd hM
        refine x_iald C kd_88 ln_88 q_5 rfl dX5_fitsWhatIsSeen_43 ?_
        obtain ⟨r_7, w_6, h_8, hM⟩ := cl hM
        refine x_callV (As := [.int x1, .int x2, .int (wget w 88 x3.toNatClampNeg)]) C (c_X5_depthAlone E.l g x1 x2 (wget w 88 x3.toNatClampNeg) w h_8) k_X5_depthAlone kd_0 (by decide) rfl rfl gw_625 rfl rfl ⟨Nat.le_of_ble_eq_true rfl, Nat.le_of_ble_eq_true rfl⟩ rfl rfl (Nat.le_of_ble_eq_true rfl) dX5_fitsWhatIsSeen_44 ?_
        refine x_aload_n C dX5_fitsWhatIsSeen_47 0 rfl rfl ?_
        refine xg_5_9 C kd_0 gw_279 dX5_fitsWhatIsSeen_48 ?_
        refine xgN_3_2 C kd_86 nw_250 dX5_fitsWhatIsSeen_51 ?_
        refine x_iload_n C dX5_fitsWhatIsSeen_54 3 rfl rfl ?_
        obtain ⟨q_9, hM⟩ := gd hM
        refine x_iald C kd_89 ln_89 q_9 rfl dX5_fitsWhatIsSeen_55 ?_
        refine x_icmp_eq (tgt := 61) C dX5_fitsWhatIsSeen_56 (by decide) (fun c_10 => ?_) (fun c_10 => ?_)
        · have hM := ip c_10 hM
          refine x_sub (L' := [(0, .ref (ad g 0)), (1, .int x1), (2, .int x2), (3, .int x3)]) [0, 1, 2, 3] rfl ?_
          exact o_X5_fitsWhatIsSeen_b61 C hR Hh2 x1 x2 x3 w_6 hM
        · have hM := iq c_10 hM
          refine x_iconst (v := 0) C dX5_fitsWhatIsSeen_59 (by decide) ?_
          obtain ⟨rfl, rfl⟩ := rt hM
          exact x_zret C hR (by rfl) rfl dX5_fitsWhatIsSeen_60
theorem o_X5_fitsWhatIsSeen_l2 {E : Ex} {g : Gx} (C : Ctx E RX5 cX5_fitsWhatIsSeen rm_X5_fitsWhatIsSeen 4 g) {rr : Int32} {wr : Wd} (hR : Rets E g (some .boolean) (some (.int rr)) wr) : ∀ (n : Nat) (x1 : Int32) (x2 : Int32) (x3 : Int32) (w : Wd), f_X5_fitsWhatIsSeen_l2 n x1 x2 x3 w = some (rr, wr) → Xx E 4 g 2 [(0, .ref (ad g 0)), (1, .int x1), (2, .int x2), (3, .int x3)] [] w := by
  intro n
  induction n with
  | zero =>
    intro x1 x2 x3 w hM
    rw [f_X5_fitsWhatIsSeen_l2] at hM
    cases hM
  | succ n ih =>
    intro x1 x2 x3 w hM
    rw [f_X5_fitsWhatIsSeen_l2] at hM
    exact o_X5_fitsWhatIsSeen_h2 C hR ih x1 x2 x3 w hM
set_option maxHeartbeats 1000000 in
set_option maxRecDepth 20000 in
theorem o_X5_fitsWhatIsSeen_b0 {E : Ex} {g : Gx} (C : Ctx E RX5 cX5_fitsWhatIsSeen rm_X5_fitsWhatIsSeen 4 g) {rr : Int32} {wr : Wd} (hR : Rets E g (some .boolean) (some (.int rr)) wr) (x1 : Int32) (x2 : Int32) (w : Wd) (hM : f_X5_fitsWhatIsSeen_b0 x1 x2 w = some (rr, wr)) : Xx E 4 g 0 [(0, .ref (ad g 0)), (1, .int x1), (2, .int x2)] [] w := by
  unfold f_X5_fitsWhatIsSeen_b0 at hM
  refine x_iconst (v := 0) C dX5_fitsWhatIsSeen_0 (by decide) ?_
  obtain ⟨x3_1, e_2, hM⟩ := bd hM
  refine x_top e_2 ?_
  refine x_istore_n (L' := [(3, .int x3_1), (0, .ref (ad g 0)), (1, .int x1), (2, .int x2)]) C dX5_fitsWhatIsSeen_1 rfl (by decide) rfl ?_
  refine x_sub (L' := [(0, .ref (ad g 0)), (1, .int x1), (2, .int x2), (3, .int x3_1)]) [1, 2, 3, 0] rfl ?_
  exact o_X5_fitsWhatIsSeen_l2 C hR 300 x1 x2 x3_1 w hM
theorem c_X5_fitsWhatIsSeen (l : Launch) (g : Gx) (x1 : Int32) (x2 : Int32) (w : Wd) {rr : Int32} {wr : Wd} (hM : f_X5_fitsWhatIsSeen x1 x2 w = some (rr, wr)) : MetM l yX5_fitsWhatIsSeen cX5_fitsWhatIsSeen 4 (some .boolean) rm_X5_fitsWhatIsSeen g [.ref (ad g 0), .int x1, .int x2] w (some (.int rr)) wr := by
  refine met_of (by decide) (Nat.le_of_ble_eq_true rfl) (fun E hl C hR => ?_)
  refine x_sub (L' := [(0, .ref (ad g 0)), (1, .int x1), (2, .int x2)]) [0, 1, 2] rfl ?_
  exact o_X5_fitsWhatIsSeen_b0 C hR x1 x2 w hM
abbrev rm_X5_fittingWeights : Room := { frames := 4, cells := 0, slots := 0, locals := 83 }
set_option maxHeartbeats 1000000 in
set_option maxRecDepth 20000 in
theorem o_X5_fittingWeights_b29 {E : Ex} {g : Gx} (C : Ctx E RX5 cX5_fittingWeights rm_X5_fittingWeights 5 g) {rr : Int64} {wr : Wd} (hR : Rets E g (some .long) (some (.long rr)) wr) {kh5 : (Int32 → Int64 → Int32 → Wd → Option (Int64 × Wd))} (Hh5 : ∀ (x1 : Int32) (x2 : Int64) (x4 : Int32) (w : Wd), kh5 x1 x2 x4 w = some (rr, wr) → Xx E 5 g 5 [(0, .ref (ad g 0)), (1, .int x1), (2, .long x2), (4, .int x4)] [] w) (x1 : Int32) (x2 : Int64) (x4 : Int32) (w : Wd) (hM : f_X5_fittingWeights_b29 kh5 x1 x2 x4 w = some (rr, wr)) : Xx E 5 g 29 [(0, .ref (ad g 0)), (1, .int x1), (2, .long x2), (4, .int x4)] [] w := by
  unfold f_X5_fittingWeights_b29 at hM
  obtain ⟨x4_1, e_2, hM⟩ := bd hM
  refine x_iinc (L' := [(4, .int x4_1), (0, .ref (ad g 0)), (1, .int x1), (2, .long x2)]) C dX5_fittingWeights_29 3 rfl (v := x4_1) (by rw [e_2]; first | rfl | decide) (by decide) rfl ?_
  refine x_goto (tgt := 5) C dX5_fittingWeights_32 (by decide) ?_
  refine x_sub (L' := [(0, .ref (ad g 0)), (1, .int x1), (2, .long x2), (4, .int x4_1)]) [1, 2, 3, 0] rfl ?_
  exact Hh5 x1 x2 x4_1 w hM
set_option maxHeartbeats 1000000 in
set_option maxRecDepth 20000 in
theorem o_X5_fittingWeights_h5 {E : Ex} {g : Gx} (C : Ctx E RX5 cX5_fittingWeights rm_X5_fittingWeights 5 g) {rr : Int64} {wr : Wd} (hR : Rets E g (some .long) (some (.long rr)) wr) {kh5 : (Int32 → Int64 → Int32 → Wd → Option (Int64 × Wd))} (Hh5 : ∀ (x1 : Int32) (x2 : Int64) (x4 : Int32) (w : Wd), kh5 x1 x2 x4 w = some (rr, wr) → Xx E 5 g 5 [(0, .ref (ad g 0)), (1, .int x1), (2, .long x2), (4, .int x4)] [] w) (x1 : Int32) (x2 : Int64) (x4 : Int32) (w : Wd) (hM : f_X5_fittingWeights_h5 kh5 x1 x2 x4 w = some (rr, wr)) : Xx E 5 g 5 [(0, .ref (ad g 0)), (1, .int x1), (2, .long x2), (4, .int x4)] [] w := by
  unfold f_X5_fittingWeights_h5 at hM
  refine x_iload C dX5_fittingWeights_5 3 rfl ?_
  refine x_bipush (v := 40) C dX5_fittingWeights_7 (by decide) ?_
  refine x_icmp_gt (tgt := 35) C dX5_fittingWeights_9 (by decide) (fun c_1 => ?_) (fun c_1 => ?_)
  · have hM := ip c_1 hM
    refine x_lload_n C dX5_fittingWeights_35 2 rfl rfl ?_
    obtain ⟨rfl, rfl⟩ := rt hM
    exact x_lret C hR rfl dX5_fittingWeights_36
  · have hM := iq c_1 hM
    refine x_aload_n C dX5_fittingWeights_12 0 rfl rfl ?_
    refine x_iload_n C dX5_fittingWeights_13 1 rfl rfl ?_
    refine x_iload C dX5_fittingWeights_14 3 rfl ?_
    obtain ⟨r_3, w_2, h_4, hM⟩ := cl hM
    refine x_callV (As := [.int x1, .int x4]) C (c_X5_fitsWhatIsSeen E.l g x1 x4 w h_4) k_X5_fitsWhatIsSeen kd_0 (by decide) rfl rfl gw_621 rfl rfl ⟨Nat.le_of_ble_eq_true rfl, Nat.le_of_ble_eq_true rfl⟩ rfl rfl (Nat.le_of_ble_eq_true rfl) dX5_fittingWeights_16 ?_
    refine x_if_eq (tgt := 29) C dX5_fittingWeights_19 (by decide) (fun c_5 => ?_) (fun c_5 => ?_)
    · have hM := ip c_5 hM
      refine x_sub (L' := [(0, .ref (ad g 0)), (1, .int x1), (2, .long x2), (4, .int x4)]) [0, 1, 2, 3] rfl ?_
      exact o_X5_fittingWeights_b29 C hR Hh5 x1 x2 x4 w_2 hM
    · have hM := iq c_5 hM
      refine x_lload_n C dX5_fittingWeights_22 2 rfl rfl ?_
      refine x_lconst (v := 1) C dX5_fittingWeights_23 (by decide) ?_
      refine x_iload C dX5_fittingWeights_24 3 rfl ?_
      refine x_lshl C dX5_fittingWeights_26 ?_
      refine x_lor C dX5_fittingWeights_27 ?_
      obtain ⟨x2_6, e_7, hM⟩ := bd hM
      refine x_topl e_7 ?_
      refine x_lstore_n (L' := [(2, .long x2_6), (0, .ref (ad g 0)), (1, .int x1), (4, .int x4)]) C dX5_fittingWeights_28 rfl (by decide) rfl ?_
      refine x_sub (L' := [(0, .ref (ad g 0)), (1, .int x1), (2, .long x2_6), (4, .int x4)]) [1, 2, 0, 3] rfl ?_
      exact o_X5_fittingWeights_b29 C hR Hh5 x1 x2_6 x4 w_2 hM
theorem o_X5_fittingWeights_l5 {E : Ex} {g : Gx} (C : Ctx E RX5 cX5_fittingWeights rm_X5_fittingWeights 5 g) {rr : Int64} {wr : Wd} (hR : Rets E g (some .long) (some (.long rr)) wr) : ∀ (n : Nat) (x1 : Int32) (x2 : Int64) (x4 : Int32) (w : Wd), f_X5_fittingWeights_l5 n x1 x2 x4 w = some (rr, wr) → Xx E 5 g 5 [(0, .ref (ad g 0)), (1, .int x1), (2, .long x2), (4, .int x4)] [] w := by
  intro n
  induction n with
  | zero =>
    intro x1 x2 x4 w hM
    rw [f_X5_fittingWeights_l5] at hM
    cases hM
  | succ n ih =>
    intro x1 x2 x4 w hM
    rw [f_X5_fittingWeights_l5] at hM
    exact o_X5_fittingWeights_h5 C hR ih x1 x2 x4 w hM
set_option maxHeartbeats 1000000 in
set_option maxRecDepth 20000 in
theorem o_X5_fittingWeights_b0 {E : Ex} {g : Gx} (C : Ctx E RX5 cX5_fittingWeights rm_X5_fittingWeights 5 g) {rr : Int64} {wr : Wd} (hR : Rets E g (some .long) (some (.long rr)) wr) (x1 : Int32) (w : Wd) (hM : f_X5_fittingWeights_b0 x1 w = some (rr, wr)) : Xx E 5 g 0 [(0, .ref (ad g 0)), (1, .int x1)] [] w := by
  unfold f_X5_fittingWeights_b0 at hM
  refine x_lconst (v := 0) C dX5_fittingWeights_0 (by decide) ?_
  obtain ⟨x2_1, e_2, hM⟩ := bd hM
  refine x_topl e_2 ?_
  refine x_lstore_n (L' := [(2, .long x2_1), (0, .ref (ad g 0)), (1, .int x1)]) C dX5_fittingWeights_1 rfl (by decide) rfl ?_
  refine x_iconst (v := 0) C dX5_fittingWeights_2 (by decide) ?_
  obtain ⟨x4_3, e_4, hM⟩ := bd hM
  refine x_top e_4 ?_
  refine x_istore (L' := [(4, .int x4_3), (2, .long x2_1), (0, .ref (ad g 0)), (1, .int x1)]) C dX5_fittingWeights_3 (by decide) rfl ?_
  refine x_sub (L' := [(0, .ref (ad g 0)), (1, .int x1), (2, .long x2_1), (4, .int x4_3)]) [2, 3, 1, 0] rfl ?_
  exact o_X5_fittingWeights_l5 C hR 300 x1 x2_1 x4_3 w hM
theorem c_X5_fittingWeights (l : Launch) (g : Gx) (x1 : Int32) (w : Wd) {rr : Int64} {wr : Wd} (hM : f_X5_fittingWeights x1 w = some (rr, wr)) : MetM l yX5_fittingWeights cX5_fittingWeights 5 (some .long) rm_X5_fittingWeights g [.ref (ad g 0), .int x1] w (some (.long rr)) wr := by
  refine met_of (by decide) (Nat.le_of_ble_eq_true rfl) (fun E hl C hR => ?_)
  refine x_sub (L' := [(0, .ref (ad g 0)), (1, .int x1)]) [0, 1] rfl ?_
  exact o_X5_fittingWeights_b0 C hR x1 w hM
abbrev rm_J13_bitCount_95d88 : Room := { frames := 0, cells := 0, slots := 0, locals := 0 }
set_option maxHeartbeats 1000000 in
set_option maxRecDepth 20000 in
theorem o_J13_bitCount_95d88_b0 {E : Ex} {g : Gx} (C : Ctx E RJ13 cJ13_bitCount_95d88 rm_J13_bitCount_95d88 2 g) {rr : Int32} {wr : Wd} (hR : Rets E g (some .int) (some (.int rr)) wr) (x0 : Int64) (w : Wd) (hM : f_J13_bitCount_95d88_b0 x0 w = some (rr, wr)) : Xx E 2 g 0 [(0, .long x0)] [] w := by
  unfold f_J13_bitCount_95d88_b0 at hM
  refine x_lload_n C dJ13_bitCount_95d88_0 0 rfl rfl ?_
  refine x_lload_n C dJ13_bitCount_95d88_1 0 rfl rfl ?_
  refine x_iconst (v := 1) C dJ13_bitCount_95d88_2 (by decide) ?_
  refine x_lushr C dJ13_bitCount_95d88_3 ?_
  refine x_ldc2 (v := 6148914691236517205) C gw_633 dJ13_bitCount_95d88_4 ?_
  refine x_land C dJ13_bitCount_95d88_7 ?_
  refine x_lsub C dJ13_bitCount_95d88_8 ?_
  obtain ⟨x0_1, e_2, hM⟩ := bd hM
  refine x_topl e_2 ?_
  refine x_lstore_n (L' := [(0, .long x0_1)]) C dJ13_bitCount_95d88_9 rfl (by decide) rfl ?_
  refine x_lload_n C dJ13_bitCount_95d88_10 0 rfl rfl ?_
  refine x_ldc2 (v := 3689348814741910323) C gw_634 dJ13_bitCount_95d88_11 ?_
  refine x_land C dJ13_bitCount_95d88_14 ?_
  refine x_lload_n C dJ13_bitCount_95d88_15 0 rfl rfl ?_
  refine x_iconst (v := 2) C dJ13_bitCount_95d88_16 (by decide) ?_
  refine x_lushr C dJ13_bitCount_95d88_17 ?_
  refine x_ldc2 (v := 3689348814741910323) C gw_634 dJ13_bitCount_95d88_18 ?_
  refine x_land C dJ13_bitCount_95d88_21 ?_
  refine x_ladd C dJ13_bitCount_95d88_22 ?_
  obtain ⟨x0_3, e_4, hM⟩ := bd hM
  refine x_topl e_4 ?_
  refine x_lstore_n (L' := [(0, .long x0_3)]) C dJ13_bitCount_95d88_23 rfl (by decide) rfl ?_
  refine x_lload_n C dJ13_bitCount_95d88_24 0 rfl rfl ?_
  refine x_lload_n C dJ13_bitCount_95d88_25 0 rfl rfl ?_
  refine x_iconst (v := 4) C dJ13_bitCount_95d88_26 (by decide) ?_
  refine x_lushr C dJ13_bitCount_95d88_27 ?_
  refine x_ladd C dJ13_bitCount_95d88_28 ?_
  refine x_ldc2 (v := 1085102592571150095) C gw_635 dJ13_bitCount_95d88_29 ?_
  refine x_land C dJ13_bitCount_95d88_32 ?_
  obtain ⟨x0_5, e_6, hM⟩ := bd hM
  refine x_topl e_6 ?_
  refine x_lstore_n (L' := [(0, .long x0_5)]) C dJ13_bitCount_95d88_33 rfl (by decide) rfl ?_
  refine x_lload_n C dJ13_bitCount_95d88_34 0 rfl rfl ?_
  refine x_lload_n C dJ13_bitCount_95d88_35 0 rfl rfl ?_
  refine x_bipush (v := 8) C dJ13_bitCount_95d88_36 (by decide) ?_
  refine x_lushr C dJ13_bitCount_95d88_38 ?_
  refine x_ladd C dJ13_bitCount_95d88_39 ?_
  obtain ⟨x0_7, e_8, hM⟩ := bd hM
  refine x_topl e_8 ?_
  refine x_lstore_n (L' := [(0, .long x0_7)]) C dJ13_bitCount_95d88_40 rfl (by decide) rfl ?_
  refine x_lload_n C dJ13_bitCount_95d88_41 0 rfl rfl ?_
  refine x_lload_n C dJ13_bitCount_95d88_42 0 rfl rfl ?_
  refine x_bipush (v := 16) C dJ13_bitCount_95d88_43 (by decide) ?_
  refine x_lushr C dJ13_bitCount_95d88_45 ?_
  refine x_ladd C dJ13_bitCount_95d88_46 ?_
  obtain ⟨x0_9, e_10, hM⟩ := bd hM
  refine x_topl e_10 ?_
  refine x_lstore_n (L' := [(0, .long x0_9)]) C dJ13_bitCount_95d88_47 rfl (by decide) rfl ?_
  refine x_lload_n C dJ13_bitCount_95d88_48 0 rfl rfl ?_
  refine x_lload_n C dJ13_bitCount_95d88_49 0 rfl rfl ?_
  refine x_bipush (v := 32) C dJ13_bitCount_95d88_50 (by decide) ?_
  refine x_lushr C dJ13_bitCount_95d88_52 ?_
  refine x_ladd C dJ13_bitCount_95d88_53 ?_
  obtain ⟨x0_11, e_12, hM⟩ := bd hM
  refine x_topl e_12 ?_
  refine x_lstore_n (L' := [(0, .long x0_11)]) C dJ13_bitCount_95d88_54 rfl (by decide) rfl ?_
  refine x_lload_n C dJ13_bitCount_95d88_55 0 rfl rfl ?_
  refine x_l2i C dJ13_bitCount_95d88_56 ?_
  refine x_bipush (v := 127) C dJ13_bitCount_95d88_57 (by decide) ?_
  refine x_iand C dJ13_bitCount_95d88_59 ?_
  obtain ⟨rfl, rfl⟩ := rt hM
  exact x_iret C hR rfl dJ13_bitCount_95d88_60
theorem c_J13_bitCount_95d88 (l : Launch) (g : Gx) (x0 : Int64) (w : Wd) {rr : Int32} {wr : Wd} (hM : f_J13_bitCount_95d88 x0 w = some (rr, wr)) : MetM l yJ13_bitCount_95d88 cJ13_bitCount_95d88 2 (some .int) rm_J13_bitCount_95d88 g [.long x0] w (some (.int rr)) wr := by
  refine met_of (by decide) (Nat.le_of_ble_eq_true rfl) (fun E hl C hR => ?_)
  refine x_sub (L' := [(0, .long x0)]) [0] rfl ?_
  exact o_J13_bitCount_95d88_b0 C hR x0 w hM
abbrev rm_X5_least : Room := { frames := 0, cells := 0, slots := 0, locals := 0 }
set_option maxHeartbeats 1000000 in
set_option maxRecDepth 20000 in
theorem o_X5_least_h2 {E : Ex} {g : Gx} (C : Ctx E RX5 cX5_least rm_X5_least 3 g) {rr : Int32} {wr : Wd} (hR : Rets E g (some .int) (some (.int rr)) wr) {kh2 : (Int64 → Int32 → Wd → Option (Int32 × Wd))} (Hh2 : ∀ (x0 : Int64) (x2 : Int32) (w : Wd), kh2 x0 x2 w = some (rr, wr) → Xx E 3 g 2 [(0, .long x0), (2, .int x2)] [] w) (x0 : Int64) (x2 : Int32) (w : Wd) (hM : f_X5_least_h2 kh2 x0 x2 w = some (rr, wr)) : Xx E 3 g 2 [(0, .long x0), (2, .int x2)] [] w := by
  unfold f_X5_least_h2 at hM
  refine x_iload_n C dX5_least_2 1 rfl rfl ?_
  refine x_bipush (v := 40) C dX5_least_3 (by decide) ?_
  refine x_icmp_gt (tgt := 26) C dX5_least_5 (by decide) (fun c_1 => ?_) (fun c_1 => ?_)
  · have hM := ip c_1 hM
    refine x_bipush (v := -9) C dX5_least_26 (by decide) ?_
    obtain ⟨rfl, rfl⟩ := rt hM
    exact x_iret C hR rfl dX5_least_28
  · have hM := iq c_1 hM
    refine x_lload_n C dX5_least_8 0 rfl rfl ?_
    refine x_iload_n C dX5_least_9 1 rfl rfl ?_
    refine x_lshr C dX5_least_10 ?_
    refine x_lconst (v := 1) C dX5_least_11 (by decide) ?_
    refine x_land C dX5_least_12 ?_
    refine x_lconst (v := 0) C dX5_least_13 (by decide) ?_
    refine x_lcmp C dX5_least_14 ?_
    refine x_if_eq (tgt := 20) C dX5_least_15 (by decide) (fun c_2 => ?_) (fun c_2 => ?_)
    · have hM := ip c_2 hM
      obtain ⟨x2_3, e_4, hM⟩ := bd hM
      refine x_iinc (L' := [(2, .int x2_3), (0, .long x0)]) C dX5_least_20 1 rfl (v := x2_3) (by rw [e_4]; first | rfl | decide) (by decide) rfl ?_
      refine x_goto (tgt := 2) C dX5_least_23 (by decide) ?_
      refine x_sub (L' := [(0, .long x0), (2, .int x2_3)]) [1, 0] rfl ?_
      exact Hh2 x0 x2_3 w hM
    · have hM := iq c_2 hM
      refine x_iload_n C dX5_least_18 1 rfl rfl ?_
      obtain ⟨rfl, rfl⟩ := rt hM
      exact x_iret C hR rfl dX5_least_19
theorem o_X5_least_l2 {E : Ex} {g : Gx} (C : Ctx E RX5 cX5_least rm_X5_least 3 g) {rr : Int32} {wr : Wd} (hR : Rets E g (some .int) (some (.int rr)) wr) : ∀ (n : Nat) (x0 : Int64) (x2 : Int32) (w : Wd), f_X5_least_l2 n x0 x2 w = some (rr, wr) → Xx E 3 g 2 [(0, .long x0), (2, .int x2)] [] w := by
  intro n
  induction n with
  | zero =>
    intro x0 x2 w hM
    rw [f_X5_least_l2] at hM
    cases hM
  | succ n ih =>
    intro x0 x2 w hM
    rw [f_X5_least_l2] at hM
    exact o_X5_least_h2 C hR ih x0 x2 w hM
set_option maxHeartbeats 1000000 in
set_option maxRecDepth 20000 in
theorem o_X5_least_b0 {E : Ex} {g : Gx} (C : Ctx E RX5 cX5_least rm_X5_least 3 g) {rr : Int32} {wr : Wd} (hR : Rets E g (some .int) (some (.int rr)) wr) (x0 : Int64) (w : Wd) (hM : f_X5_least_b0 x0 w = some (rr, wr)) : Xx E 3 g 0 [(0, .long x0)] [] w := by
  unfold f_X5_least_b0 at hM
  refine x_iconst (v := 0) C dX5_least_0 (by decide) ?_
  obtain ⟨x2_1, e_2, hM⟩ := bd hM
  refine x_top e_2 ?_
  refine x_istore_n (L' := [(2, .int x2_1), (0, .long x0)]) C dX5_least_1 rfl (by decide) rfl ?_
  refine x_sub (L' := [(0, .long x0), (2, .int x2_1)]) [1, 0] rfl ?_
  exact o_X5_least_l2 C hR 300 x0 x2_1 w hM
theorem c_X5_least (l : Launch) (g : Gx) (x0 : Int64) (w : Wd) {rr : Int32} {wr : Wd} (hM : f_X5_least x0 w = some (rr, wr)) : MetM l yX5_least cX5_least 3 (some .int) rm_X5_least g [.long x0] w (some (.int rr)) wr := by
  refine met_of (by decide) (Nat.le_of_ble_eq_true rfl) (fun E hl C hR => ?_)
  refine x_sub (L' := [(0, .long x0)]) [0] rfl ?_
  exact o_X5_least_b0 C hR x0 w hM
abbrev rm_X5_greatest : Room := { frames := 0, cells := 0, slots := 0, locals := 0 }
set_option maxHeartbeats 1000000 in
set_option maxRecDepth 20000 in
theorem o_X5_greatest_h3 {E : Ex} {g : Gx} (C : Ctx E RX5 cX5_greatest rm_X5_greatest 3 g) {rr : Int32} {wr : Wd} (hR : Rets E g (some .int) (some (.int rr)) wr) {kh3 : (Int64 → Int32 → Wd → Option (Int32 × Wd))} (Hh3 : ∀ (x0 : Int64) (x2 : Int32) (w : Wd), kh3 x0 x2 w = some (rr, wr) → Xx E 3 g 3 [(0, .long x0), (2, .int x2)] [] w) (x0 : Int64) (x2 : Int32) (w : Wd) (hM : f_X5_greatest_h3 kh3 x0 x2 w = some (rr, wr)) : Xx E 3 g 3 [(0, .long x0), (2, .int x2)] [] w := by
  unfold f_X5_greatest_h3 at hM
  refine x_iload_n C dX5_greatest_3 1 rfl rfl ?_
  refine x_if_lt (tgt := 25) C dX5_greatest_4 (by decide) (fun c_1 => ?_) (fun c_1 => ?_)
  · have hM := ip c_1 hM
    refine x_bipush (v := -9) C dX5_greatest_25 (by decide) ?_
    obtain ⟨rfl, rfl⟩ := rt hM
    exact x_iret C hR rfl dX5_greatest_27
  · have hM := iq c_1 hM
    refine x_lload_n C dX5_greatest_7 0 rfl rfl ?_
    refine x_iload_n C dX5_greatest_8 1 rfl rfl ?_
    refine x_lshr C dX5_greatest_9 ?_
    refine x_lconst (v := 1) C dX5_greatest_10 (by decide) ?_
    refine x_land C dX5_greatest_11 ?_
    refine x_lconst (v := 0) C dX5_greatest_12 (by decide) ?_
    refine x_lcmp C dX5_greatest_13 ?_
    refine x_if_eq (tgt := 19) C dX5_greatest_14 (by decide) (fun c_2 => ?_) (fun c_2 => ?_)
    · have hM := ip c_2 hM
      obtain ⟨x2_3, e_4, hM⟩ := bd hM
      refine x_iinc (L' := [(2, .int x2_3), (0, .long x0)]) C dX5_greatest_19 1 rfl (v := x2_3) (by rw [e_4]; first | rfl | decide) (by decide) rfl ?_
      refine x_goto (tgt := 3) C dX5_greatest_22 (by decide) ?_
      refine x_sub (L' := [(0, .long x0), (2, .int x2_3)]) [1, 0] rfl ?_
      exact Hh3 x0 x2_3 w hM
    · have hM := iq c_2 hM
      refine x_iload_n C dX5_greatest_17 1 rfl rfl ?_
      obtain ⟨rfl, rfl⟩ := rt hM
      exact x_iret C hR rfl dX5_greatest_18
theorem o_X5_greatest_l3 {E : Ex} {g : Gx} (C : Ctx E RX5 cX5_greatest rm_X5_greatest 3 g) {rr : Int32} {wr : Wd} (hR : Rets E g (some .int) (some (.int rr)) wr) : ∀ (n : Nat) (x0 : Int64) (x2 : Int32) (w : Wd), f_X5_greatest_l3 n x0 x2 w = some (rr, wr) → Xx E 3 g 3 [(0, .long x0), (2, .int x2)] [] w := by
  intro n
  induction n with
  | zero =>
    intro x0 x2 w hM
    rw [f_X5_greatest_l3] at hM
    cases hM
  | succ n ih =>
    intro x0 x2 w hM
    rw [f_X5_greatest_l3] at hM
    exact o_X5_greatest_h3 C hR ih x0 x2 w hM
set_option maxHeartbeats 1000000 in
set_option maxRecDepth 20000 in
theorem o_X5_greatest_b0 {E : Ex} {g : Gx} (C : Ctx E RX5 cX5_greatest rm_X5_greatest 3 g) {rr : Int32} {wr : Wd} (hR : Rets E g (some .int) (some (.int rr)) wr) (x0 : Int64) (w : Wd) (hM : f_X5_greatest_b0 x0 w = some (rr, wr)) : Xx E 3 g 0 [(0, .long x0)] [] w := by
  unfold f_X5_greatest_b0 at hM
  refine x_bipush (v := 40) C dX5_greatest_0 (by decide) ?_
  obtain ⟨x2_1, e_2, hM⟩ := bd hM
  refine x_top e_2 ?_
  refine x_istore_n (L' := [(2, .int x2_1), (0, .long x0)]) C dX5_greatest_2 rfl (by decide) rfl ?_
  refine x_sub (L' := [(0, .long x0), (2, .int x2_1)]) [1, 0] rfl ?_
  exact o_X5_greatest_l3 C hR 300 x0 x2_1 w hM
theorem c_X5_greatest (l : Launch) (g : Gx) (x0 : Int64) (w : Wd) {rr : Int32} {wr : Wd} (hM : f_X5_greatest x0 w = some (rr, wr)) : MetM l yX5_greatest cX5_greatest 3 (some .int) rm_X5_greatest g [.long x0] w (some (.int rr)) wr := by
  refine met_of (by decide) (Nat.le_of_ble_eq_true rfl) (fun E hl C hR => ?_)
  refine x_sub (L' := [(0, .long x0)]) [0] rfl ?_
  exact o_X5_greatest_b0 C hR x0 w hM
abbrev rm_X5_weights : Room := { frames := 5, cells := 0, slots := 0, locals := 107 }
set_option maxHeartbeats 1000000 in
set_option maxRecDepth 20000 in
theorem o_X5_weights_b0 {E : Ex} {g : Gx} (C : Ctx E RX5 cX5_weights rm_X5_weights 5 g) {rr : Int32} {wr : Wd} (hR : Rets E g (some .int) (some (.int rr)) wr) (x1 : Int32) (x2 : Int32) (w : Wd) (hM : f_X5_weights_b0 x1 x2 w = some (rr, wr)) : Xx E 5 g 0 [(0, .ref (ad g 0)), (1, .int x1), (2, .int x2)] [] w := by
  unfold f_X5_weights_b0 at hM
  refine x_aload_n C dX5_weights_0 0 rfl rfl ?_
  refine x_iload_n C dX5_weights_1 1 rfl rfl ?_
  obtain ⟨r_2, w_1, h_3, hM⟩ := cl hM
  refine x_callV (As := [.int x1]) C (c_X5_isTold E.l g x1 w h_3) k_X5_isTold kd_0 (by decide) rfl rfl gw_385 rfl rfl ⟨Nat.le_of_ble_eq_true rfl, Nat.le_of_ble_eq_true rfl⟩ rfl rfl (Nat.le_of_ble_eq_true rfl) dX5_weights_2 ?_
  refine x_if_eq (tgt := 17) C dX5_weights_5 (by decide) (fun c_4 => ?_) (fun c_4 => ?_)
  · have hM := ip c_4 hM
    refine x_iconst (v := -1) C dX5_weights_17 (by decide) ?_
    obtain ⟨rfl, rfl⟩ := rt hM
    exact x_iret C hR rfl dX5_weights_18
  · have hM := iq c_4 hM
    refine x_iload_n C dX5_weights_8 2 rfl rfl ?_
    refine x_if_lt (tgt := 17) C dX5_weights_9 (by decide) (fun c_5 => ?_) (fun c_5 => ?_)
    · have hM := ip c_5 hM
      refine x_iconst (v := -1) C dX5_weights_17 (by decide) ?_
      obtain ⟨rfl, rfl⟩ := rt hM
      exact x_iret C hR rfl dX5_weights_18
    · have hM := iq c_5 hM
      refine x_iload_n C dX5_weights_12 2 rfl rfl ?_
      refine x_iconst (v := 2) C dX5_weights_13 (by decide) ?_
      refine x_icmp_le (tgt := 19) C dX5_weights_14 (by decide) (fun c_6 => ?_) (fun c_6 => ?_)
      · have hM := ip c_6 hM
        refine x_aload_n C dX5_weights_19 0 rfl rfl ?_
        refine x_iload_n C dX5_weights_20 1 rfl rfl ?_
        obtain ⟨r_8, w_7, h_9, hM⟩ := cl hM
        refine x_callV (As := [.int x1]) C (c_X5_fittingWeights E.l g x1 w_1 h_9) k_X5_fittingWeights kd_0 (by decide) rfl rfl gw_617 rfl rfl ⟨Nat.le_of_ble_eq_true rfl, Nat.le_of_ble_eq_true rfl⟩ rfl rfl (Nat.le_of_ble_eq_true rfl) dX5_weights_21 ?_
        obtain ⟨x3_10, e_11, hM⟩ := bd hM
        refine x_topl e_11 ?_
        refine x_lstore_n (L' := [(3, .long x3_10), (0, .ref (ad g 0)), (1, .int x1), (2, .int x2)]) C dX5_weights_24 rfl (by decide) rfl ?_
        refine x_iload_n C dX5_weights_25 3 rfl rfl ?_
        refine x_if_ne (tgt := 34) C dX5_weights_26 (by decide) (fun c_12 => ?_) (fun c_12 => ?_)
        · have hM := iq c_12 hM
          refine x_iload_n C dX5_weights_34 3 rfl rfl ?_
          refine x_iconst (v := 1) C dX5_weights_35 (by decide) ?_
          refine x_icmp_ne (tgt := 46) C dX5_weights_36 (by decide) (fun c_13 => ?_) (fun c_13 => ?_)
          · have hM := iq c_13 hM
            refine x_lload_n C dX5_weights_46 0 rfl rfl ?_
            obtain ⟨r_15, w_14, h_16, hM⟩ := cl hM
            refine x_callS (As := [.long x3_10]) C (c_X5_greatest E.l g x3_10 w_7 h_16) k_X5_greatest gw_639 rfl rfl ⟨Nat.le_of_ble_eq_true rfl, Nat.le_of_ble_eq_true rfl⟩ rfl rfl (Nat.le_of_ble_eq_true rfl) dX5_weights_47 ?_
            obtain ⟨rfl, rfl⟩ := rt hM
            exact x_iret C hR rfl dX5_weights_50
          · have hM := ip c_13 hM
            refine x_lload_n C dX5_weights_39 0 rfl rfl ?_
            obtain ⟨r_18, w_17, h_19, hM⟩ := cl hM
            refine x_callS (As := [.long x3_10]) C (c_X5_least E.l g x3_10 w_7 h_19) k_X5_least gw_636 rfl rfl ⟨Nat.le_of_ble_eq_true rfl, Nat.le_of_ble_eq_true rfl⟩ rfl rfl (Nat.le_of_ble_eq_true rfl) dX5_weights_40 ?_
            refine x_goto (tgt := 50) C dX5_weights_43 (by decide) ?_
            obtain ⟨rfl, rfl⟩ := rt hM
            exact x_iret C hR rfl dX5_weights_50
        · have hM := ip c_12 hM
          refine x_lload_n C dX5_weights_29 0 rfl rfl ?_
          obtain ⟨r_21, w_20, h_22, hM⟩ := cl hM
          refine x_callS (As := [.long x3_10]) C (c_J13_bitCount_95d88 E.l g x3_10 w_7 h_22) k_J13_bitCount_95d88 gw_630 rfl rfl ⟨Nat.le_of_ble_eq_true rfl, Nat.le_of_ble_eq_true rfl⟩ rfl rfl (Nat.le_of_ble_eq_true rfl) dX5_weights_30 ?_
          obtain ⟨rfl, rfl⟩ := rt hM
          exact x_iret C hR rfl dX5_weights_33
      · have hM := iq c_6 hM
        refine x_iconst (v := -1) C dX5_weights_17 (by decide) ?_
        obtain ⟨rfl, rfl⟩ := rt hM
        exact x_iret C hR rfl dX5_weights_18
theorem c_X5_weights (l : Launch) (g : Gx) (x1 : Int32) (x2 : Int32) (w : Wd) {rr : Int32} {wr : Wd} (hM : f_X5_weights x1 x2 w = some (rr, wr)) : MetM l yX5_weights cX5_weights 5 (some .int) rm_X5_weights g [.ref (ad g 0), .int x1, .int x2] w (some (.int rr)) wr := by
  refine met_of (by decide) (Nat.le_of_ble_eq_true rfl) (fun E hl C hR => ?_)
  refine x_sub (L' := [(0, .ref (ad g 0)), (1, .int x1), (2, .int x2)]) [0, 1, 2] rfl ?_
  exact o_X5_weights_b0 C hR x1 x2 w hM
abbrev rm_X5_oneMoreAt : Room := { frames := 0, cells := 0, slots := 0, locals := 0 }
set_option maxHeartbeats 1000000 in
set_option maxRecDepth 20000 in
theorem o_X5_oneMoreAt_b0 {E : Ex} {g : Gx} (C : Ctx E RX5 cX5_oneMoreAt rm_X5_oneMoreAt 2 g) {rr : Int32} {wr : Wd} (hR : Rets E g (some .int) (some (.int rr)) wr) (x1 : Int32) (w : Wd) (hM : f_X5_oneMoreAt_b0 x1 w = some (rr, wr)) : Xx E 2 g 0 [(0, .ref (ad g 0)), (1, .int x1)] [] w := by
  unfold f_X5_oneMoreAt_b0 at hM
  refine x_iload_n C dX5_oneMoreAt_0 1 rfl rfl ?_
  refine x_if_lt (tgt := 10) C dX5_oneMoreAt_1 (by decide) (fun c_1 => ?_) (fun c_1 => ?_)
  · have hM := ip c_1 hM
    refine x_iconst (v := 0) C dX5_oneMoreAt_10 (by decide) ?_
    obtain ⟨rfl, rfl⟩ := rt hM
    exact x_iret C hR rfl dX5_oneMoreAt_11
  · have hM := iq c_1 hM
    refine x_iload_n C dX5_oneMoreAt_4 1 rfl rfl ?_
    refine x_bipush (v := 10) C dX5_oneMoreAt_5 (by decide) ?_
    refine x_icmp_le (tgt := 12) C dX5_oneMoreAt_7 (by decide) (fun c_2 => ?_) (fun c_2 => ?_)
    · have hM := ip c_2 hM
      refine x_aload_n C dX5_oneMoreAt_12 0 rfl rfl ?_
      refine xg_5_11 C kd_0 gw_281 dX5_oneMoreAt_13 ?_
      refine x_iload_n C dX5_oneMoreAt_16 1 rfl rfl ?_
      refine x_dup2 C dX5_oneMoreAt_17 rfl rfl ?_
      obtain ⟨q_3, hM⟩ := gd hM
      refine x_iald C kd_91 ln_91 q_3 rfl dX5_oneMoreAt_18 ?_
      refine x_iconst (v := 1) C dX5_oneMoreAt_19 (by decide) ?_
      refine x_iadd C dX5_oneMoreAt_20 ?_
      obtain ⟨q_4, hM⟩ := gd hM
      obtain ⟨w_5, e_6, hM⟩ := bd hM
      refine x_iast C kd_91 ln_91 q_4 rfl dX5_oneMoreAt_21 ?_
      refine x_w e_6 ?_
      refine x_aload_n C dX5_oneMoreAt_22 0 rfl rfl ?_
      refine xg_5_11 C kd_0 gw_281 dX5_oneMoreAt_23 ?_
      refine x_iload_n C dX5_oneMoreAt_26 1 rfl rfl ?_
      obtain ⟨q_7, hM⟩ := gd hM
      refine x_iald C kd_91 ln_91 q_7 rfl dX5_oneMoreAt_27 ?_
      obtain ⟨rfl, rfl⟩ := rt hM
      exact x_iret C hR rfl dX5_oneMoreAt_28
    · have hM := iq c_2 hM
      refine x_iconst (v := 0) C dX5_oneMoreAt_10 (by decide) ?_
      obtain ⟨rfl, rfl⟩ := rt hM
      exact x_iret C hR rfl dX5_oneMoreAt_11
theorem c_X5_oneMoreAt (l : Launch) (g : Gx) (x1 : Int32) (w : Wd) {rr : Int32} {wr : Wd} (hM : f_X5_oneMoreAt x1 w = some (rr, wr)) : MetM l yX5_oneMoreAt cX5_oneMoreAt 2 (some .int) rm_X5_oneMoreAt g [.ref (ad g 0), .int x1] w (some (.int rr)) wr := by
  refine met_of (by decide) (Nat.le_of_ble_eq_true rfl) (fun E hl C hR => ?_)
  refine x_sub (L' := [(0, .ref (ad g 0)), (1, .int x1)]) [0, 1] rfl ?_
  exact o_X5_oneMoreAt_b0 C hR x1 w hM
abbrev rm_X5_mostAlike : Room := { frames := 3, cells := 0, slots := 0, locals := 60 }
set_option maxHeartbeats 1000000 in
set_option maxRecDepth 20000 in
theorem o_X5_mostAlike_b67 {E : Ex} {g : Gx} (C : Ctx E RX5 cX5_mostAlike rm_X5_mostAlike 7 g) {rr : Int32} {wr : Wd} (hR : Rets E g (some .int) (some (.int rr)) wr) {kh30 : (Int32 → Int32 → Int64 → Int32 → Int32 → Wd → Option (Int32 × Wd))} (Hh30 : ∀ (x1 : Int32) (x2 : Int32) (x3 : Int64) (x5 : Int32) (x6 : Int32) (w : Wd), kh30 x1 x2 x3 x5 x6 w = some (rr, wr) → Xx E 7 g 30 [(0, .ref (ad g 0)), (1, .int x1), (2, .int x2), (3, .long x3), (5, .int x5), (6, .int x6)] [] w) (x1 : Int32) (x2 : Int32) (x3 : Int64) (x5 : Int32) (x6 : Int32) (w : Wd) (hM : f_X5_mostAlike_b67 kh30 x1 x2 x3 x5 x6 w = some (rr, wr)) : Xx E 7 g 67 [(0, .ref (ad g 0)), (1, .int x1), (2, .int x2), (3, .long x3), (5, .int x5), (6, .int x6)] [] w := by
  unfold f_X5_mostAlike_b67 at hM
  obtain ⟨x6_1, e_2, hM⟩ := bd hM
  refine x_iinc (L' := [(6, .int x6_1), (0, .ref (ad g 0)), (1, .int x1), (2, .int x2), (3, .long x3), (5, .int x5)]) C dX5_mostAlike_67 5 rfl (v := x6_1) (by rw [e_2]; first | rfl | decide) (by decide) rfl ?_
  refine x_goto (tgt := 30) C dX5_mostAlike_70 (by decide) ?_
  refine x_sub (L' := [(0, .ref (ad g 0)), (1, .int x1), (2, .int x2), (3, .long x3), (5, .int x5), (6, .int x6_1)]) [1, 2, 3, 4, 5, 0] rfl ?_
  exact Hh30 x1 x2 x3 x5 x6_1 w hM
set_option maxHeartbeats 1000000 in
set_option maxRecDepth 20000 in
theorem o_X5_mostAlike_h30 {E : Ex} {g : Gx} (C : Ctx E RX5 cX5_mostAlike rm_X5_mostAlike 7 g) {rr : Int32} {wr : Wd} (hR : Rets E g (some .int) (some (.int rr)) wr) {kh30 : (Int32 → Int32 → Int64 → Int32 → Int32 → Wd → Option (Int32 × Wd))} (Hh30 : ∀ (x1 : Int32) (x2 : Int32) (x3 : Int64) (x5 : Int32) (x6 : Int32) (w : Wd), kh30 x1 x2 x3 x5 x6 w = some (rr, wr) → Xx E 7 g 30 [(0, .ref (ad g 0)), (1, .int x1), (2, .int x2), (3, .long x3), (5, .int x5), (6, .int x6)] [] w) (x1 : Int32) (x2 : Int32) (x3 : Int64) (x5 : Int32) (x6 : Int32) (w : Wd) (hM : f_X5_mostAlike_h30 kh30 x1 x2 x3 x5 x6 w = some (rr, wr)) : Xx E 7 g 30 [(0, .ref (ad g 0)), (1, .int x1), (2, .int x2), (3, .long x3), (5, .int x5), (6, .int x6)] [] w := by
  unfold f_X5_mostAlike_h30 at hM
  refine x_iload C dX5_mostAlike_30 5 rfl ?_
  refine x_bipush (v := 40) C dX5_mostAlike_32 (by decide) ?_
  refine x_icmp_gt (tgt := 73) C dX5_mostAlike_34 (by decide) (fun c_1 => ?_) (fun c_1 => ?_)
  · have hM := ip c_1 hM
    refine x_iload C dX5_mostAlike_73 4 rfl ?_
    obtain ⟨rfl, rfl⟩ := rt hM
    exact x_iret C hR rfl dX5_mostAlike_75
  · have hM := iq c_1 hM
    refine x_lload_n C dX5_mostAlike_37 3 rfl rfl ?_
    refine x_iload C dX5_mostAlike_38 5 rfl ?_
    refine x_lshr C dX5_mostAlike_40 ?_
    refine x_lconst (v := 1) C dX5_mostAlike_41 (by decide) ?_
    refine x_land C dX5_mostAlike_42 ?_
    refine x_lconst (v := 0) C dX5_mostAlike_43 (by decide) ?_
    refine x_lcmp C dX5_mostAlike_44 ?_
    refine x_if_eq (tgt := 67) C dX5_mostAlike_45 (by decide) (fun c_2 => ?_) (fun c_2 => ?_)
    · have hM := ip c_2 hM
      refine x_sub (L' := [(0, .ref (ad g 0)), (1, .int x1), (2, .int x2), (3, .long x3), (5, .int x5), (6, .int x6)]) [0, 1, 2, 3, 4, 5] rfl ?_
      exact o_X5_mostAlike_b67 C hR Hh30 x1 x2 x3 x5 x6 w hM
    · have hM := iq c_2 hM
      refine x_iload C dX5_mostAlike_48 4 rfl ?_
      refine x_aload_n C dX5_mostAlike_50 0 rfl rfl ?_
      refine x_aload_n C dX5_mostAlike_51 0 rfl rfl ?_
      refine x_iload_n C dX5_mostAlike_52 1 rfl rfl ?_
      refine x_iload C dX5_mostAlike_53 5 rfl ?_
      refine x_iload_n C dX5_mostAlike_55 2 rfl rfl ?_
      obtain ⟨r_4, w_3, h_5, hM⟩ := cl hM
      refine x_callV (As := [.int x1, .int x6, .int x2]) C (c_X5_depthAlone E.l g x1 x6 x2 w h_5) k_X5_depthAlone kd_0 (by decide) rfl rfl gw_625 rfl rfl ⟨Nat.le_of_ble_eq_true rfl, Nat.le_of_ble_eq_true rfl⟩ rfl rfl (Nat.le_of_ble_eq_true rfl) dX5_mostAlike_56 ?_
      obtain ⟨r_7, w_6, h_8, hM⟩ := cl hM
      refine x_callV (As := [.int r_4]) C (c_X5_oneMoreAt E.l g r_4 w_3 h_8) k_X5_oneMoreAt kd_0 (by decide) rfl rfl gw_650 rfl rfl ⟨Nat.le_of_ble_eq_true rfl, Nat.le_of_ble_eq_true rfl⟩ rfl rfl (Nat.le_of_ble_eq_true rfl) dX5_mostAlike_59 ?_
      refine x_mmax C gw_499 gw_500 gw_90 mc_max (Nat.le_of_ble_eq_true rfl) (Nat.le_of_ble_eq_true rfl) dX5_mostAlike_62 ?_
      obtain ⟨x5_9, e_10, hM⟩ := bd hM
      refine x_top e_10 ?_
      refine x_istore (L' := [(5, .int x5_9), (0, .ref (ad g 0)), (1, .int x1), (2, .int x2), (3, .long x3), (6, .int x6)]) C dX5_mostAlike_65 (by decide) rfl ?_
      refine x_sub (L' := [(0, .ref (ad g 0)), (1, .int x1), (2, .int x2), (3, .long x3), (5, .int x5_9), (6, .int x6)]) [1, 2, 3, 4, 0, 5] rfl ?_
      exact o_X5_mostAlike_b67 C hR Hh30 x1 x2 x3 x5_9 x6 w_6 hM
theorem o_X5_mostAlike_l30 {E : Ex} {g : Gx} (C : Ctx E RX5 cX5_mostAlike rm_X5_mostAlike 7 g) {rr : Int32} {wr : Wd} (hR : Rets E g (some .int) (some (.int rr)) wr) : ∀ (n : Nat) (x1 : Int32) (x2 : Int32) (x3 : Int64) (x5 : Int32) (x6 : Int32) (w : Wd), f_X5_mostAlike_l30 n x1 x2 x3 x5 x6 w = some (rr, wr) → Xx E 7 g 30 [(0, .ref (ad g 0)), (1, .int x1), (2, .int x2), (3, .long x3), (5, .int x5), (6, .int x6)] [] w := by
  intro n
  induction n with
  | zero =>
    intro x1 x2 x3 x5 x6 w hM
    rw [f_X5_mostAlike_l30] at hM
    cases hM
  | succ n ih =>
    intro x1 x2 x3 x5 x6 w hM
    rw [f_X5_mostAlike_l30] at hM
    exact o_X5_mostAlike_h30 C hR ih x1 x2 x3 x5 x6 w hM
set_option maxHeartbeats 1000000 in
set_option maxRecDepth 20000 in
theorem o_X5_mostAlike_h3 {E : Ex} {g : Gx} (C : Ctx E RX5 cX5_mostAlike rm_X5_mostAlike 7 g) {rr : Int32} {wr : Wd} (hR : Rets E g (some .int) (some (.int rr)) wr) {kh3 : (Int32 → Int32 → Int64 → Int32 → Wd → Option (Int32 × Wd))} (Hh3 : ∀ (x1 : Int32) (x2 : Int32) (x3 : Int64) (x5 : Int32) (w : Wd), kh3 x1 x2 x3 x5 w = some (rr, wr) → Xx E 7 g 3 [(0, .ref (ad g 0)), (1, .int x1), (2, .int x2), (3, .long x3), (5, .int x5)] [] w) (x1 : Int32) (x2 : Int32) (x3 : Int64) (x5 : Int32) (w : Wd) (hM : f_X5_mostAlike_h3 kh3 x1 x2 x3 x5 w = some (rr, wr)) : Xx E 7 g 3 [(0, .ref (ad g 0)), (1, .int x1), (2, .int x2), (3, .long x3), (5, .int x5)] [] w := by
  unfold f_X5_mostAlike_h3 at hM
  refine x_iload C dX5_mostAlike_3 4 rfl ?_
  refine x_bipush (v := 10) C dX5_mostAlike_5 (by decide) ?_
  refine x_icmp_gt (tgt := 24) C dX5_mostAlike_7 (by decide) (fun c_1 => ?_) (fun c_1 => ?_)
  · have hM := ip c_1 hM
    refine x_iconst (v := 0) C dX5_mostAlike_24 (by decide) ?_
    obtain ⟨x5_2, e_3, hM⟩ := bd hM
    refine x_top e_3 ?_
    refine x_istore (L' := [(5, .int x5_2), (0, .ref (ad g 0)), (1, .int x1), (2, .int x2), (3, .long x3)]) C dX5_mostAlike_25 (by decide) rfl ?_
    refine x_iconst (v := 0) C dX5_mostAlike_27 (by decide) ?_
    obtain ⟨x6_4, e_5, hM⟩ := bd hM
    refine x_top e_5 ?_
    refine x_istore (L' := [(6, .int x6_4), (5, .int x5_2), (0, .ref (ad g 0)), (1, .int x1), (2, .int x2), (3, .long x3)]) C dX5_mostAlike_28 (by decide) rfl ?_
    refine x_sub (L' := [(0, .ref (ad g 0)), (1, .int x1), (2, .int x2), (3, .long x3), (5, .int x5_2), (6, .int x6_4)]) [2, 3, 4, 5, 1, 0] rfl ?_
    exact o_X5_mostAlike_l30 C hR 300 x1 x2 x3 x5_2 x6_4 w hM
  · have hM := iq c_1 hM
    refine x_aload_n C dX5_mostAlike_10 0 rfl rfl ?_
    refine xg_5_11 C kd_0 gw_281 dX5_mostAlike_11 ?_
    refine x_iload C dX5_mostAlike_14 4 rfl ?_
    refine x_iconst (v := 0) C dX5_mostAlike_16 (by decide) ?_
    obtain ⟨q_6, hM⟩ := gd hM
    obtain ⟨w_7, e_8, hM⟩ := bd hM
    refine x_iast C kd_91 ln_91 q_6 rfl dX5_mostAlike_17 ?_
    refine x_w e_8 ?_
    obtain ⟨x5_9, e_10, hM⟩ := bd hM
    refine x_iinc (L' := [(5, .int x5_9), (0, .ref (ad g 0)), (1, .int x1), (2, .int x2), (3, .long x3)]) C dX5_mostAlike_18 4 rfl (v := x5_9) (by rw [e_10]; first | rfl | decide) (by decide) rfl ?_
    refine x_goto (tgt := 3) C dX5_mostAlike_21 (by decide) ?_
    refine x_sub (L' := [(0, .ref (ad g 0)), (1, .int x1), (2, .int x2), (3, .long x3), (5, .int x5_9)]) [1, 2, 3, 4, 0] rfl ?_
    exact Hh3 x1 x2 x3 x5_9 w_7 hM
theorem o_X5_mostAlike_l3 {E : Ex} {g : Gx} (C : Ctx E RX5 cX5_mostAlike rm_X5_mostAlike 7 g) {rr : Int32} {wr : Wd} (hR : Rets E g (some .int) (some (.int rr)) wr) : ∀ (n : Nat) (x1 : Int32) (x2 : Int32) (x3 : Int64) (x5 : Int32) (w : Wd), f_X5_mostAlike_l3 n x1 x2 x3 x5 w = some (rr, wr) → Xx E 7 g 3 [(0, .ref (ad g 0)), (1, .int x1), (2, .int x2), (3, .long x3), (5, .int x5)] [] w := by
  intro n
  induction n with
  | zero =>
    intro x1 x2 x3 x5 w hM
    rw [f_X5_mostAlike_l3] at hM
    cases hM
  | succ n ih =>
    intro x1 x2 x3 x5 w hM
    rw [f_X5_mostAlike_l3] at hM
    exact o_X5_mostAlike_h3 C hR ih x1 x2 x3 x5 w hM
set_option maxHeartbeats 1000000 in
set_option maxRecDepth 20000 in
theorem o_X5_mostAlike_b0 {E : Ex} {g : Gx} (C : Ctx E RX5 cX5_mostAlike rm_X5_mostAlike 7 g) {rr : Int32} {wr : Wd} (hR : Rets E g (some .int) (some (.int rr)) wr) (x1 : Int32) (x2 : Int32) (x3 : Int64) (w : Wd) (hM : f_X5_mostAlike_b0 x1 x2 x3 w = some (rr, wr)) : Xx E 7 g 0 [(0, .ref (ad g 0)), (1, .int x1), (2, .int x2), (3, .long x3)] [] w := by
  unfold f_X5_mostAlike_b0 at hM
  refine x_iconst (v := 0) C dX5_mostAlike_0 (by decide) ?_
  obtain ⟨x5_1, e_2, hM⟩ := bd hM
  refine x_top e_2 ?_
  refine x_istore (L' := [(5, .int x5_1), (0, .ref (ad g 0)), (1, .int x1), (2, .int x2), (3, .long x3)]) C dX5_mostAlike_1 (by decide) rfl ?_
  refine x_sub (L' := [(0, .ref (ad g 0)), (1, .int x1), (2, .int x2), (3, .long x3), (5, .int x5_1)]) [1, 2, 3, 4, 0] rfl ?_
  exact o_X5_mostAlike_l3 C hR 300 x1 x2 x3 x5_1 w hM
theorem c_X5_mostAlike (l : Launch) (g : Gx) (x1 : Int32) (x2 : Int32) (x3 : Int64) (w : Wd) {rr : Int32} {wr : Wd} (hM : f_X5_mostAlike x1 x2 x3 w = some (rr, wr)) : MetM l yX5_mostAlike cX5_mostAlike 7 (some .int) rm_X5_mostAlike g [.ref (ad g 0), .int x1, .int x2, .long x3] w (some (.int rr)) wr := by
  refine met_of (by decide) (Nat.le_of_ble_eq_true rfl) (fun E hl C hR => ?_)
  refine x_sub (L' := [(0, .ref (ad g 0)), (1, .int x1), (2, .int x2), (3, .long x3)]) [0, 1, 2, 3] rfl ?_
  exact o_X5_mostAlike_b0 C hR x1 x2 x3 w hM
abbrev rm_X5_look : Room := { frames := 5, cells := 0, slots := 0, locals := 107 }
set_option maxHeartbeats 1000000 in
set_option maxRecDepth 20000 in
theorem o_X5_look_b70 {E : Ex} {g : Gx} (C : Ctx E RX5 cX5_look rm_X5_look 8 g) {rr : Int32} {wr : Wd} (hR : Rets E g (some .int) (some (.int rr)) wr) {kh38 : (Int32 → Int64 → Int32 → Int32 → Int32 → Wd → Option (Int32 × Wd))} (Hh38 : ∀ (x1 : Int32) (x2 : Int64) (x4 : Int32) (x5 : Int32) (x6 : Int32) (w : Wd), kh38 x1 x2 x4 x5 x6 w = some (rr, wr) → Xx E 8 g 38 [(0, .ref (ad g 0)), (1, .int x1), (2, .long x2), (4, .int x4), (5, .int x5), (6, .int x6)] [] w) (x1 : Int32) (x2 : Int64) (x4 : Int32) (x5 : Int32) (x6 : Int32) (w : Wd) (hM : f_X5_look_b70 kh38 x1 x2 x4 x5 x6 w = some (rr, wr)) : Xx E 8 g 70 [(0, .ref (ad g 0)), (1, .int x1), (2, .long x2), (4, .int x4), (5, .int x5), (6, .int x6)] [] w := by
  unfold f_X5_look_b70 at hM
  obtain ⟨x6_1, e_2, hM⟩ := bd hM
  refine x_iinc (L' := [(6, .int x6_1), (0, .ref (ad g 0)), (1, .int x1), (2, .long x2), (4, .int x4), (5, .int x5)]) C dX5_look_70 5 rfl (v := x6_1) (by rw [e_2]; first | rfl | decide) (by decide) rfl ?_
  refine x_goto (tgt := 38) C dX5_look_73 (by decide) ?_
  refine x_sub (L' := [(0, .ref (ad g 0)), (1, .int x1), (2, .long x2), (4, .int x4), (5, .int x5), (6, .int x6_1)]) [1, 2, 3, 4, 5, 0] rfl ?_
  exact Hh38 x1 x2 x4 x5 x6_1 w hM
set_option maxHeartbeats 1000000 in
set_option maxRecDepth 20000 in
theorem o_X5_look_h38 {E : Ex} {g : Gx} (C : Ctx E RX5 cX5_look rm_X5_look 8 g) {rr : Int32} {wr : Wd} (hR : Rets E g (some .int) (some (.int rr)) wr) {kh38 : (Int32 → Int64 → Int32 → Int32 → Int32 → Wd → Option (Int32 × Wd))} (Hh38 : ∀ (x1 : Int32) (x2 : Int64) (x4 : Int32) (x5 : Int32) (x6 : Int32) (w : Wd), kh38 x1 x2 x4 x5 x6 w = some (rr, wr) → Xx E 8 g 38 [(0, .ref (ad g 0)), (1, .int x1), (2, .long x2), (4, .int x4), (5, .int x5), (6, .int x6)] [] w) (x1 : Int32) (x2 : Int64) (x4 : Int32) (x5 : Int32) (x6 : Int32) (w : Wd) (hM : f_X5_look_h38 kh38 x1 x2 x4 x5 x6 w = some (rr, wr)) : Xx E 8 g 38 [(0, .ref (ad g 0)), (1, .int x1), (2, .long x2), (4, .int x4), (5, .int x5), (6, .int x6)] [] w := by
  unfold f_X5_look_h38 at hM
  refine x_iload C dX5_look_38 5 rfl ?_
  refine x_bipush (v := 20) C dX5_look_40 (by decide) ?_
  refine x_icmp_gt (tgt := 76) C dX5_look_42 (by decide) (fun c_1 => ?_) (fun c_1 => ?_)
  · have hM := ip c_1 hM
    refine x_iload C dX5_look_76 3 rfl ?_
    obtain ⟨rfl, rfl⟩ := rt hM
    exact x_iret C hR rfl dX5_look_78
  · have hM := iq c_1 hM
    refine x_aload_n C dX5_look_45 0 rfl rfl ?_
    refine x_iload_n C dX5_look_46 1 rfl rfl ?_
    refine x_iload C dX5_look_47 5 rfl ?_
    refine x_lload_n C dX5_look_49 2 rfl rfl ?_
    obtain ⟨r_3, w_2, h_4, hM⟩ := cl hM
    refine x_callV (As := [.int x1, .int x6, .long x2]) C (c_X5_mostAlike E.l g x1 x6 x2 w h_4) k_X5_mostAlike kd_0 (by decide) rfl rfl gw_646 rfl rfl ⟨Nat.le_of_ble_eq_true rfl, Nat.le_of_ble_eq_true rfl⟩ rfl rfl (Nat.le_of_ble_eq_true rfl) dX5_look_50 ?_
    obtain ⟨x7_5, e_6, hM⟩ := bd hM
    refine x_top e_6 ?_
    refine x_istore (L' := [(7, .int x7_5), (0, .ref (ad g 0)), (1, .int x1), (2, .long x2), (4, .int x4), (5, .int x5), (6, .int x6)]) C dX5_look_53 (by decide) rfl ?_
    refine x_iload C dX5_look_55 0 rfl ?_
    refine x_iload C dX5_look_57 5 rfl ?_
    refine x_icmp_ge (tgt := 70) C dX5_look_59 (by decide) (fun c_7 => ?_) (fun c_7 => ?_)
    · have hM := ip c_7 hM
      refine x_sub (L' := [(0, .ref (ad g 0)), (1, .int x1), (2, .long x2), (4, .int x4), (5, .int x5), (6, .int x6)]) [1, 2, 3, 4, 5, 6] rfl ?_
      exact o_X5_look_b70 C hR Hh38 x1 x2 x4 x5 x6 w_2 hM
    · have hM := iq c_7 hM
      refine x_iload C dX5_look_62 0 rfl ?_
      obtain ⟨x5_8, e_9, hM⟩ := bd hM
      refine x_top e_9 ?_
      refine x_istore (L' := [(5, .int x5_8), (7, .int x7_5), (0, .ref (ad g 0)), (1, .int x1), (2, .long x2), (4, .int x4), (6, .int x6)]) C dX5_look_64 (by decide) rfl ?_
      refine x_iload C dX5_look_66 6 rfl ?_
      obtain ⟨x4_10, e_11, hM⟩ := bd hM
      refine x_top e_11 ?_
      refine x_istore (L' := [(4, .int x4_10), (5, .int x5_8), (7, .int x7_5), (0, .ref (ad g 0)), (1, .int x1), (2, .long x2), (6, .int x6)]) C dX5_look_68 (by decide) rfl ?_
      refine x_sub (L' := [(0, .ref (ad g 0)), (1, .int x1), (2, .long x2), (4, .int x4_10), (5, .int x5_8), (6, .int x6)]) [3, 4, 5, 0, 1, 6] rfl ?_
      exact o_X5_look_b70 C hR Hh38 x1 x2 x4_10 x5_8 x6 w_2 hM
theorem o_X5_look_l38 {E : Ex} {g : Gx} (C : Ctx E RX5 cX5_look rm_X5_look 8 g) {rr : Int32} {wr : Wd} (hR : Rets E g (some .int) (some (.int rr)) wr) : ∀ (n : Nat) (x1 : Int32) (x2 : Int64) (x4 : Int32) (x5 : Int32) (x6 : Int32) (w : Wd), f_X5_look_l38 n x1 x2 x4 x5 x6 w = some (rr, wr) → Xx E 8 g 38 [(0, .ref (ad g 0)), (1, .int x1), (2, .long x2), (4, .int x4), (5, .int x5), (6, .int x6)] [] w := by
  intro n
  induction n with
  | zero =>
    intro x1 x2 x4 x5 x6 w hM
    rw [f_X5_look_l38] at hM
    cases hM
  | succ n ih =>
    intro x1 x2 x4 x5 x6 w hM
    rw [f_X5_look_l38] at hM
    exact o_X5_look_h38 C hR ih x1 x2 x4 x5 x6 w hM
set_option maxHeartbeats 1000000 in
set_option maxRecDepth 20000 in
theorem o_X5_look_b0 {E : Ex} {g : Gx} (C : Ctx E RX5 cX5_look rm_X5_look 8 g) {rr : Int32} {wr : Wd} (hR : Rets E g (some .int) (some (.int rr)) wr) (x1 : Int32) (w : Wd) (hM : f_X5_look_b0 x1 w = some (rr, wr)) : Xx E 8 g 0 [(0, .ref (ad g 0)), (1, .int x1)] [] w := by
  unfold f_X5_look_b0 at hM
  refine x_aload_n C dX5_look_0 0 rfl rfl ?_
  refine x_iload_n C dX5_look_1 1 rfl rfl ?_
  obtain ⟨r_2, w_1, h_3, hM⟩ := cl hM
  refine x_callV (As := [.int x1]) C (c_X5_isTold E.l g x1 w h_3) k_X5_isTold kd_0 (by decide) rfl rfl gw_385 rfl rfl ⟨Nat.le_of_ble_eq_true rfl, Nat.le_of_ble_eq_true rfl⟩ rfl rfl (Nat.le_of_ble_eq_true rfl) dX5_look_2 ?_
  refine x_if_ne (tgt := 10) C dX5_look_5 (by decide) (fun c_4 => ?_) (fun c_4 => ?_)
  · have hM := iq c_4 hM
    refine x_aload_n C dX5_look_10 0 rfl rfl ?_
    refine x_iload_n C dX5_look_11 1 rfl rfl ?_
    obtain ⟨r_6, w_5, h_7, hM⟩ := cl hM
    refine x_callV (As := [.int x1]) C (c_X5_fittingWeights E.l g x1 w_1 h_7) k_X5_fittingWeights kd_0 (by decide) rfl rfl gw_617 rfl rfl ⟨Nat.le_of_ble_eq_true rfl, Nat.le_of_ble_eq_true rfl⟩ rfl rfl (Nat.le_of_ble_eq_true rfl) dX5_look_12 ?_
    obtain ⟨x2_8, e_9, hM⟩ := bd hM
    refine x_topl e_9 ?_
    refine x_lstore_n (L' := [(2, .long x2_8), (0, .ref (ad g 0)), (1, .int x1)]) C dX5_look_15 rfl (by decide) rfl ?_
    refine x_lload_n C dX5_look_16 0 rfl rfl ?_
    obtain ⟨r_11, w_10, h_12, hM⟩ := cl hM
    refine x_callS (As := [.long x2_8]) C (c_J13_bitCount_95d88 E.l g x2_8 w_5 h_12) k_J13_bitCount_95d88 gw_630 rfl rfl ⟨Nat.le_of_ble_eq_true rfl, Nat.le_of_ble_eq_true rfl⟩ rfl rfl (Nat.le_of_ble_eq_true rfl) dX5_look_17 ?_
    refine x_iconst (v := 1) C dX5_look_20 (by decide) ?_
    refine x_icmp_gt (tgt := 27) C dX5_look_21 (by decide) (fun c_13 => ?_) (fun c_13 => ?_)
    · have hM := ip c_13 hM
      refine x_bipush (v := -9) C dX5_look_27 (by decide) ?_
      obtain ⟨x4_14, e_15, hM⟩ := bd hM
      refine x_top e_15 ?_
      refine x_istore (L' := [(4, .int x4_14), (2, .long x2_8), (0, .ref (ad g 0)), (1, .int x1)]) C dX5_look_29 (by decide) rfl ?_
      refine x_bipush (v := 42) C dX5_look_31 (by decide) ?_
      obtain ⟨x5_16, e_17, hM⟩ := bd hM
      refine x_top e_17 ?_
      refine x_istore (L' := [(5, .int x5_16), (4, .int x4_14), (2, .long x2_8), (0, .ref (ad g 0)), (1, .int x1)]) C dX5_look_33 (by decide) rfl ?_
      refine x_iconst (v := 1) C dX5_look_35 (by decide) ?_
      obtain ⟨x6_18, e_19, hM⟩ := bd hM
      refine x_top e_19 ?_
      refine x_istore (L' := [(6, .int x6_18), (5, .int x5_16), (4, .int x4_14), (2, .long x2_8), (0, .ref (ad g 0)), (1, .int x1)]) C dX5_look_36 (by decide) rfl ?_
      refine x_sub (L' := [(0, .ref (ad g 0)), (1, .int x1), (2, .long x2_8), (4, .int x4_14), (5, .int x5_16), (6, .int x6_18)]) [4, 5, 3, 2, 1, 0] rfl ?_
      exact o_X5_look_l38 C hR 300 x1 x2_8 x4_14 x5_16 x6_18 w_10 hM
    · have hM := iq c_13 hM
      refine x_bipush (v := -9) C dX5_look_24 (by decide) ?_
      obtain ⟨rfl, rfl⟩ := rt hM
      exact x_iret C hR rfl dX5_look_26
  · have hM := ip c_4 hM
    refine x_iconst (v := -1) C dX5_look_8 (by decide) ?_
    obtain ⟨rfl, rfl⟩ := rt hM
    exact x_iret C hR rfl dX5_look_9
theorem c_X5_look (l : Launch) (g : Gx) (x1 : Int32) (w : Wd) {rr : Int32} {wr : Wd} (hM : f_X5_look x1 w = some (rr, wr)) : MetM l yX5_look cX5_look 8 (some .int) rm_X5_look g [.ref (ad g 0), .int x1] w (some (.int rr)) wr := by
  refine met_of (by decide) (Nat.le_of_ble_eq_true rfl) (fun E hl C hR => ?_)
  refine x_sub (L' := [(0, .ref (ad g 0)), (1, .int x1)]) [0, 1] rfl ?_
  exact o_X5_look_b0 C hR x1 w hM
abbrev rm_X5_dough : Room := { frames := 0, cells := 0, slots := 0, locals := 0 }
set_option maxHeartbeats 1000000 in
set_option maxRecDepth 20000 in
theorem o_X5_dough_b0 {E : Ex} {g : Gx} (C : Ctx E RX5 cX5_dough rm_X5_dough 2 g) {rr : Int32} {wr : Wd} (hR : Rets E g (some .int) (some (.int rr)) wr) (x1 : Int32) (w : Wd) (hM : f_X5_dough_b0 x1 w = some (rr, wr)) : Xx E 2 g 0 [(0, .ref (ad g 0)), (1, .int x1)] [] w := by
  unfold f_X5_dough_b0 at hM
  refine x_aload_n C dX5_dough_0 0 rfl rfl ?_
  refine x_dup C dX5_dough_1 rfl ?_
  refine xg_5_12 C kd_0 gw_282 dX5_dough_2 ?_
  refine x_lconst (v := 1) C dX5_dough_5 (by decide) ?_
  refine x_ladd C dX5_dough_6 ?_
  obtain ⟨w_1, e_2, hM⟩ := bd hM
  refine xp_5_12 C kd_0 gw_282 dX5_dough_7 ?_
  refine x_w e_2 ?_
  refine x_aload_n C dX5_dough_10 0 rfl rfl ?_
  refine xg_5_3 C kd_0 gw_273 dX5_dough_11 ?_
  refine xgN_4_3 C kd_14 nw_201 dX5_dough_14 ?_
  refine x_iload_n C dX5_dough_17 1 rfl rfl ?_
  obtain ⟨q_3, hM⟩ := gd hM
  refine x_iald C kd_16 ln_16 q_3 rfl dX5_dough_18 ?_
  obtain ⟨rfl, rfl⟩ := rt hM
  exact x_iret C hR rfl dX5_dough_19
theorem c_X5_dough (l : Launch) (g : Gx) (x1 : Int32) (w : Wd) {rr : Int32} {wr : Wd} (hM : f_X5_dough x1 w = some (rr, wr)) : MetM l yX5_dough cX5_dough 2 (some .int) rm_X5_dough g [.ref (ad g 0), .int x1] w (some (.int rr)) wr := by
  refine met_of (by decide) (Nat.le_of_ble_eq_true rfl) (fun E hl C hR => ?_)
  refine x_sub (L' := [(0, .ref (ad g 0)), (1, .int x1)]) [0, 1] rfl ?_
  exact o_X5_dough_b0 C hR x1 w hM
abbrev rm_X5_suet : Room := { frames := 1, cells := 0, slots := 0, locals := 21 }
set_option maxHeartbeats 1000000 in
set_option maxRecDepth 20000 in
theorem o_X5_suet_b0 {E : Ex} {g : Gx} (C : Ctx E RX5 cX5_suet rm_X5_suet 2 g) {rr : Int32} {wr : Wd} (hR : Rets E g (some .int) (some (.int rr)) wr) (x1 : Int32) (w : Wd) (hM : f_X5_suet_b0 x1 w = some (rr, wr)) : Xx E 2 g 0 [(0, .ref (ad g 0)), (1, .int x1)] [] w := by
  unfold f_X5_suet_b0 at hM
  refine x_aload_n C dX5_suet_0 0 rfl rfl ?_
  refine x_dup C dX5_suet_1 rfl ?_
  refine xg_5_12 C kd_0 gw_282 dX5_suet_2 ?_
  refine x_ldc2 (v := 10) C gw_667 dX5_suet_5 ?_
  refine x_ladd C dX5_suet_8 ?_
  obtain ⟨w_1, e_2, hM⟩ := bd hM
  refine xp_5_12 C kd_0 gw_282 dX5_suet_9 ?_
  refine x_w e_2 ?_
  refine x_aload_n C dX5_suet_12 0 rfl rfl ?_
  refine x_iload_n C dX5_suet_13 1 rfl rfl ?_
  obtain ⟨r_4, w_3, h_5, hM⟩ := cl hM
  refine x_callV (As := [.int x1]) C (c_X5_dough E.l g x1 w_1 h_5) k_X5_dough kd_0 (by decide) rfl rfl gw_659 rfl rfl ⟨Nat.le_of_ble_eq_true rfl, Nat.le_of_ble_eq_true rfl⟩ rfl rfl (Nat.le_of_ble_eq_true rfl) dX5_suet_14 ?_
  refine x_aload_n C dX5_suet_17 0 rfl rfl ?_
  refine xg_5_1 C kd_0 gw_271 dX5_suet_18 ?_
  refine xgN_2_4 C kd_4 nw_162 dX5_suet_21 ?_
  refine x_iload_n C dX5_suet_24 1 rfl rfl ?_
  obtain ⟨q_6, hM⟩ := gd hM
  refine x_iald C kd_5 ln_5 q_6 rfl dX5_suet_25 ?_
  refine x_iadd C dX5_suet_26 ?_
  obtain ⟨rfl, rfl⟩ := rt hM
  exact x_iret C hR rfl dX5_suet_27
theorem c_X5_suet (l : Launch) (g : Gx) (x1 : Int32) (w : Wd) {rr : Int32} {wr : Wd} (hM : f_X5_suet x1 w = some (rr, wr)) : MetM l yX5_suet cX5_suet 2 (some .int) rm_X5_suet g [.ref (ad g 0), .int x1] w (some (.int rr)) wr := by
  refine met_of (by decide) (Nat.le_of_ble_eq_true rfl) (fun E hl C hR => ?_)
  refine x_sub (L' := [(0, .ref (ad g 0)), (1, .int x1)]) [0, 1] rfl ?_
  exact o_X5_suet_b0 C hR x1 w hM
abbrev rm_X5_parsley : Room := { frames := 1, cells := 0, slots := 0, locals := 21 }
set_option maxHeartbeats 1000000 in
set_option maxRecDepth 20000 in
theorem o_X5_parsley_b0 {E : Ex} {g : Gx} (C : Ctx E RX5 cX5_parsley rm_X5_parsley 2 g) {rr : Int32} {wr : Wd} (hR : Rets E g (some .int) (some (.int rr)) wr) (x1 : Int32) (w : Wd) (hM : f_X5_parsley_b0 x1 w = some (rr, wr)) : Xx E 2 g 0 [(0, .ref (ad g 0)), (1, .int x1)] [] w := by
  unfold f_X5_parsley_b0 at hM
  refine x_aload_n C dX5_parsley_0 0 rfl rfl ?_
  refine x_dup C dX5_parsley_1 rfl ?_
  refine xg_5_12 C kd_0 gw_282 dX5_parsley_2 ?_
  refine x_ldc2 (v := 100) C gw_672 dX5_parsley_5 ?_
  refine x_ladd C dX5_parsley_8 ?_
  obtain ⟨w_1, e_2, hM⟩ := bd hM
  refine xp_5_12 C kd_0 gw_282 dX5_parsley_9 ?_
  refine x_w e_2 ?_
  refine x_aload_n C dX5_parsley_12 0 rfl rfl ?_
  refine x_iload_n C dX5_parsley_13 1 rfl rfl ?_
  obtain ⟨r_4, w_3, h_5, hM⟩ := cl hM
  refine x_callV (As := [.int x1]) C (c_X5_dough E.l g x1 w_1 h_5) k_X5_dough kd_0 (by decide) rfl rfl gw_659 rfl rfl ⟨Nat.le_of_ble_eq_true rfl, Nat.le_of_ble_eq_true rfl⟩ rfl rfl (Nat.le_of_ble_eq_true rfl) dX5_parsley_14 ?_
  refine x_aload_n C dX5_parsley_17 0 rfl rfl ?_
  refine xg_5_3 C kd_0 gw_273 dX5_parsley_18 ?_
  refine xgN_4_4 C kd_14 nw_203 dX5_parsley_21 ?_
  refine x_iload_n C dX5_parsley_24 1 rfl rfl ?_
  obtain ⟨q_6, hM⟩ := gd hM
  refine x_iald C kd_17 ln_17 q_6 rfl dX5_parsley_25 ?_
  obtain ⟨r_8, w_7, h_9, hM⟩ := cl hM
  refine x_callS (As := [.int (wget w_3 17 x1.toNatClampNeg)]) C (c_J6_bitCount_0f7a4 E.l g (wget w_3 17 x1.toNatClampNeg) w_3 h_9) k_J6_bitCount_0f7a4 gw_421 rfl rfl ⟨Nat.le_of_ble_eq_true rfl, Nat.le_of_ble_eq_true rfl⟩ rfl rfl (Nat.le_of_ble_eq_true rfl) dX5_parsley_26 ?_
  refine x_isub C dX5_parsley_29 ?_
  obtain ⟨rfl, rfl⟩ := rt hM
  exact x_iret C hR rfl dX5_parsley_30
theorem c_X5_parsley (l : Launch) (g : Gx) (x1 : Int32) (w : Wd) {rr : Int32} {wr : Wd} (hM : f_X5_parsley x1 w = some (rr, wr)) : MetM l yX5_parsley cX5_parsley 2 (some .int) rm_X5_parsley g [.ref (ad g 0), .int x1] w (some (.int rr)) wr := by
  refine met_of (by decide) (Nat.le_of_ble_eq_true rfl) (fun E hl C hR => ?_)
  refine x_sub (L' := [(0, .ref (ad g 0)), (1, .int x1)]) [0, 1] rfl ?_
  exact o_X5_parsley_b0 C hR x1 w hM
abbrev rm_X5_leader : Room := { frames := 2, cells := 0, slots := 0, locals := 42 }
set_option maxHeartbeats 1000000 in
set_option maxRecDepth 20000 in
theorem o_X5_leader_b0 {E : Ex} {g : Gx} (C : Ctx E RX5 cX5_leader rm_X5_leader 2 g) {rr : Int32} {wr : Wd} (hR : Rets E g (some .int) (some (.int rr)) wr) (x1 : Int32) (w : Wd) (hM : f_X5_leader_b0 x1 w = some (rr, wr)) : Xx E 2 g 0 [(0, .ref (ad g 0)), (1, .int x1)] [] w := by
  unfold f_X5_leader_b0 at hM
  refine x_aload_n C dX5_leader_0 0 rfl rfl ?_
  refine x_dup C dX5_leader_1 rfl ?_
  refine xg_5_12 C kd_0 gw_282 dX5_leader_2 ?_
  refine x_ldc2 (v := 1000) C gw_677 dX5_leader_5 ?_
  refine x_ladd C dX5_leader_8 ?_
  obtain ⟨w_1, e_2, hM⟩ := bd hM
  refine xp_5_12 C kd_0 gw_282 dX5_leader_9 ?_
  refine x_w e_2 ?_
  refine x_iconst (v := 2) C dX5_leader_12 (by decide) ?_
  refine x_aload_n C dX5_leader_13 0 rfl rfl ?_
  refine x_iload_n C dX5_leader_14 1 rfl rfl ?_
  obtain ⟨r_4, w_3, h_5, hM⟩ := cl hM
  refine x_callV (As := [.int x1]) C (c_X5_suet E.l g x1 w_1 h_5) k_X5_suet kd_0 (by decide) rfl rfl gw_663 rfl rfl ⟨Nat.le_of_ble_eq_true rfl, Nat.le_of_ble_eq_true rfl⟩ rfl rfl (Nat.le_of_ble_eq_true rfl) dX5_leader_15 ?_
  refine x_imul C dX5_leader_18 ?_
  obtain ⟨rfl, rfl⟩ := rt hM
  exact x_iret C hR rfl dX5_leader_19
theorem c_X5_leader (l : Launch) (g : Gx) (x1 : Int32) (w : Wd) {rr : Int32} {wr : Wd} (hM : f_X5_leader x1 w = some (rr, wr)) : MetM l yX5_leader cX5_leader 2 (some .int) rm_X5_leader g [.ref (ad g 0), .int x1] w (some (.int rr)) wr := by
  refine met_of (by decide) (Nat.le_of_ble_eq_true rfl) (fun E hl C hR => ?_)
  refine x_sub (L' := [(0, .ref (ad g 0)), (1, .int x1)]) [0, 1] rfl ?_
  exact o_X5_leader_b0 C hR x1 w hM
abbrev rm_X5_carrot : Room := { frames := 2, cells := 0, slots := 0, locals := 42 }
set_option maxHeartbeats 1000000 in
set_option maxRecDepth 20000 in
theorem o_X5_carrot_b0 {E : Ex} {g : Gx} (C : Ctx E RX5 cX5_carrot rm_X5_carrot 2 g) {rr : Int32} {wr : Wd} (hR : Rets E g (some .int) (some (.int rr)) wr) (x1 : Int32) (w : Wd) (hM : f_X5_carrot_b0 x1 w = some (rr, wr)) : Xx E 2 g 0 [(0, .ref (ad g 0)), (1, .int x1)] [] w := by
  unfold f_X5_carrot_b0 at hM
  refine x_aload_n C dX5_carrot_0 0 rfl rfl ?_
  refine x_dup C dX5_carrot_1 rfl ?_
  refine xg_5_12 C kd_0 gw_282 dX5_carrot_2 ?_
  refine x_ldc2 (v := 10000) C gw_682 dX5_carrot_5 ?_
  refine x_ladd C dX5_carrot_8 ?_
  obtain ⟨w_1, e_2, hM⟩ := bd hM
  refine xp_5_12 C kd_0 gw_282 dX5_carrot_9 ?_
  refine x_w e_2 ?_
  refine x_aload_n C dX5_carrot_12 0 rfl rfl ?_
  refine x_iload_n C dX5_carrot_13 1 rfl rfl ?_
  obtain ⟨r_4, w_3, h_5, hM⟩ := cl hM
  refine x_callV (As := [.int x1]) C (c_X5_parsley E.l g x1 w_1 h_5) k_X5_parsley kd_0 (by decide) rfl rfl gw_668 rfl rfl ⟨Nat.le_of_ble_eq_true rfl, Nat.le_of_ble_eq_true rfl⟩ rfl rfl (Nat.le_of_ble_eq_true rfl) dX5_carrot_14 ?_
  refine x_iload_n C dX5_carrot_17 1 rfl rfl ?_
  refine x_iadd C dX5_carrot_18 ?_
  obtain ⟨rfl, rfl⟩ := rt hM
  exact x_iret C hR rfl dX5_carrot_19
theorem c_X5_carrot (l : Launch) (g : Gx) (x1 : Int32) (w : Wd) {rr : Int32} {wr : Wd} (hM : f_X5_carrot x1 w = some (rr, wr)) : MetM l yX5_carrot cX5_carrot 2 (some .int) rm_X5_carrot g [.ref (ad g 0), .int x1] w (some (.int rr)) wr := by
  refine met_of (by decide) (Nat.le_of_ble_eq_true rfl) (fun E hl C hR => ?_)
  refine x_sub (L' := [(0, .ref (ad g 0)), (1, .int x1)]) [0, 1] rfl ?_
  exact o_X5_carrot_b0 C hR x1 w hM
abbrev rm_X5_bay : Room := { frames := 1, cells := 0, slots := 0, locals := 21 }
set_option maxHeartbeats 1000000 in
set_option maxRecDepth 20000 in
theorem o_X5_bay_b0 {E : Ex} {g : Gx} (C : Ctx E RX5 cX5_bay rm_X5_bay 2 g) {rr : Int32} {wr : Wd} (hR : Rets E g (some .int) (some (.int rr)) wr) (x1 : Int32) (w : Wd) (hM : f_X5_bay_b0 x1 w = some (rr, wr)) : Xx E 2 g 0 [(0, .ref (ad g 0)), (1, .int x1)] [] w := by
  unfold f_X5_bay_b0 at hM
  refine x_aload_n C dX5_bay_0 0 rfl rfl ?_
  refine x_dup C dX5_bay_1 rfl ?_
  refine xg_5_12 C kd_0 gw_282 dX5_bay_2 ?_
  refine x_ldc2 (v := 100000) C gw_687 dX5_bay_5 ?_
  refine x_ladd C dX5_bay_8 ?_
  obtain ⟨w_1, e_2, hM⟩ := bd hM
  refine xp_5_12 C kd_0 gw_282 dX5_bay_9 ?_
  refine x_w e_2 ?_
  refine x_aload_n C dX5_bay_12 0 rfl rfl ?_
  refine x_iload_n C dX5_bay_13 1 rfl rfl ?_
  obtain ⟨r_4, w_3, h_5, hM⟩ := cl hM
  refine x_callV (As := [.int x1]) C (c_X5_dough E.l g x1 w_1 h_5) k_X5_dough kd_0 (by decide) rfl rfl gw_659 rfl rfl ⟨Nat.le_of_ble_eq_true rfl, Nat.le_of_ble_eq_true rfl⟩ rfl rfl (Nat.le_of_ble_eq_true rfl) dX5_bay_14 ?_
  refine x_aload_n C dX5_bay_17 0 rfl rfl ?_
  refine xg_5_3 C kd_0 gw_273 dX5_bay_18 ?_
  refine xgN_4_1 C kd_14 nw_197 dX5_bay_21 ?_
  refine x_iadd C dX5_bay_24 ?_
  obtain ⟨rfl, rfl⟩ := rt hM
  exact x_iret C hR rfl dX5_bay_25
theorem c_X5_bay (l : Launch) (g : Gx) (x1 : Int32) (w : Wd) {rr : Int32} {wr : Wd} (hM : f_X5_bay x1 w = some (rr, wr)) : MetM l yX5_bay cX5_bay 2 (some .int) rm_X5_bay g [.ref (ad g 0), .int x1] w (some (.int rr)) wr := by
  refine met_of (by decide) (Nat.le_of_ble_eq_true rfl) (fun E hl C hR => ?_)
  refine x_sub (L' := [(0, .ref (ad g 0)), (1, .int x1)]) [0, 1] rfl ?_
  exact o_X5_bay_b0 C hR x1 w hM
abbrev rm_X5_rate : Room := { frames := 3, cells := 0, slots := 0, locals := 63 }
set_option maxHeartbeats 1000000 in
set_option maxRecDepth 20000 in
theorem o_X5_rate_b0 {E : Ex} {g : Gx} (C : Ctx E RX5 cX5_rate rm_X5_rate 3 g) {rr : Int32} {wr : Wd} (hR : Rets E g (some .int) (some (.int rr)) wr) (x1 : Int32) (x2 : Int32) (w : Wd) (hM : f_X5_rate_b0 x1 x2 w = some (rr, wr)) : Xx E 3 g 0 [(0, .ref (ad g 0)), (1, .int x1), (2, .int x2)] [] w := by
  unfold f_X5_rate_b0 at hM
  refine x_aload_n C dX5_rate_0 0 rfl rfl ?_
  refine x_iload_n C dX5_rate_1 2 rfl rfl ?_
  obtain ⟨r_2, w_1, h_3, hM⟩ := cl hM
  refine x_callV (As := [.int x2]) C (c_X5_isTold E.l g x2 w h_3) k_X5_isTold kd_0 (by decide) rfl rfl gw_385 rfl rfl ⟨Nat.le_of_ble_eq_true rfl, Nat.le_of_ble_eq_true rfl⟩ rfl rfl (Nat.le_of_ble_eq_true rfl) dX5_rate_2 ?_
  refine x_if_ne (tgt := 11) C dX5_rate_5 (by decide) (fun c_4 => ?_) (fun c_4 => ?_)
  · have hM := iq c_4 hM
    refine x_iload_n C dX5_rate_11 1 rfl rfl ?_
    by_cases c_8 : x1 = 0
    · have hM := ip c_8 hM
      refine x_tableIn (off := 40) (tgt := 52) C dX5_rate_12 (by rw [c_8]; decide) (by rw [c_8]; decide) (by rw [c_8]; rfl) (by decide) ?_
      refine x_aload_n C dX5_rate_52 0 rfl rfl ?_
      refine x_iload_n C dX5_rate_53 2 rfl rfl ?_
      obtain ⟨r_6, w_5, h_7, hM⟩ := cl hM
      refine x_callV (As := [.int x2]) C (c_X5_dough E.l g x2 w_1 h_7) k_X5_dough kd_0 (by decide) rfl rfl gw_659 rfl rfl ⟨Nat.le_of_ble_eq_true rfl, Nat.le_of_ble_eq_true rfl⟩ rfl rfl (Nat.le_of_ble_eq_true rfl) dX5_rate_54 ?_
      obtain ⟨rfl, rfl⟩ := rt hM
      exact x_iret C hR rfl dX5_rate_57
    have hM := iq c_8 hM
    by_cases c_12 : x1 = 1
    · have hM := ip c_12 hM
      refine x_tableIn (off := 46) (tgt := 58) C dX5_rate_12 (by rw [c_12]; decide) (by rw [c_12]; decide) (by rw [c_12]; rfl) (by decide) ?_
      refine x_aload_n C dX5_rate_58 0 rfl rfl ?_
      refine x_iload_n C dX5_rate_59 2 rfl rfl ?_
      obtain ⟨r_10, w_9, h_11, hM⟩ := cl hM
      refine x_callV (As := [.int x2]) C (c_X5_suet E.l g x2 w_1 h_11) k_X5_suet kd_0 (by decide) rfl rfl gw_663 rfl rfl ⟨Nat.le_of_ble_eq_true rfl, Nat.le_of_ble_eq_true rfl⟩ rfl rfl (Nat.le_of_ble_eq_true rfl) dX5_rate_60 ?_
      obtain ⟨rfl, rfl⟩ := rt hM
      exact x_iret C hR rfl dX5_rate_63
    have hM := iq c_12 hM
    by_cases c_16 : x1 = 2
    · have hM := ip c_16 hM
      refine x_tableIn (off := 52) (tgt := 64) C dX5_rate_12 (by rw [c_16]; decide) (by rw [c_16]; decide) (by rw [c_16]; rfl) (by decide) ?_
      refine x_aload_n C dX5_rate_64 0 rfl rfl ?_
      refine x_iload_n C dX5_rate_65 2 rfl rfl ?_
      obtain ⟨r_14, w_13, h_15, hM⟩ := cl hM
      refine x_callV (As := [.int x2]) C (c_X5_parsley E.l g x2 w_1 h_15) k_X5_parsley kd_0 (by decide) rfl rfl gw_668 rfl rfl ⟨Nat.le_of_ble_eq_true rfl, Nat.le_of_ble_eq_true rfl⟩ rfl rfl (Nat.le_of_ble_eq_true rfl) dX5_rate_66 ?_
      obtain ⟨rfl, rfl⟩ := rt hM
      exact x_iret C hR rfl dX5_rate_69
    have hM := iq c_16 hM
    by_cases c_20 : x1 = 3
    · have hM := ip c_20 hM
      refine x_tableIn (off := 58) (tgt := 70) C dX5_rate_12 (by rw [c_20]; decide) (by rw [c_20]; decide) (by rw [c_20]; rfl) (by decide) ?_
      refine x_aload_n C dX5_rate_70 0 rfl rfl ?_
      refine x_iload_n C dX5_rate_71 2 rfl rfl ?_
      obtain ⟨r_18, w_17, h_19, hM⟩ := cl hM
      refine x_callV (As := [.int x2]) C (c_X5_leader E.l g x2 w_1 h_19) k_X5_leader kd_0 (by decide) rfl rfl gw_673 rfl rfl ⟨Nat.le_of_ble_eq_true rfl, Nat.le_of_ble_eq_true rfl⟩ rfl rfl (Nat.le_of_ble_eq_true rfl) dX5_rate_72 ?_
      obtain ⟨rfl, rfl⟩ := rt hM
      exact x_iret C hR rfl dX5_rate_75
    have hM := iq c_20 hM
    by_cases c_24 : x1 = 4
    · have hM := ip c_24 hM
      refine x_tableIn (off := 64) (tgt := 76) C dX5_rate_12 (by rw [c_24]; decide) (by rw [c_24]; decide) (by rw [c_24]; rfl) (by decide) ?_
      refine x_aload_n C dX5_rate_76 0 rfl rfl ?_
      refine x_iload_n C dX5_rate_77 2 rfl rfl ?_
      obtain ⟨r_22, w_21, h_23, hM⟩ := cl hM
      refine x_callV (As := [.int x2]) C (c_X5_carrot E.l g x2 w_1 h_23) k_X5_carrot kd_0 (by decide) rfl rfl gw_678 rfl rfl ⟨Nat.le_of_ble_eq_true rfl, Nat.le_of_ble_eq_true rfl⟩ rfl rfl (Nat.le_of_ble_eq_true rfl) dX5_rate_78 ?_
      obtain ⟨rfl, rfl⟩ := rt hM
      exact x_iret C hR rfl dX5_rate_81
    have hM := iq c_24 hM
    by_cases c_28 : x1 = 5
    · have hM := ip c_28 hM
      refine x_tableIn (off := 70) (tgt := 82) C dX5_rate_12 (by rw [c_28]; decide) (by rw [c_28]; decide) (by rw [c_28]; rfl) (by decide) ?_
      refine x_aload_n C dX5_rate_82 0 rfl rfl ?_
      refine x_iload_n C dX5_rate_83 2 rfl rfl ?_
      obtain ⟨r_26, w_25, h_27, hM⟩ := cl hM
      refine x_callV (As := [.int x2]) C (c_X5_bay E.l g x2 w_1 h_27) k_X5_bay kd_0 (by decide) rfl rfl gw_683 rfl rfl ⟨Nat.le_of_ble_eq_true rfl, Nat.le_of_ble_eq_true rfl⟩ rfl rfl (Nat.le_of_ble_eq_true rfl) dX5_rate_84 ?_
      obtain ⟨rfl, rfl⟩ := rt hM
      exact x_iret C hR rfl dX5_rate_87
    have hM := iq c_28 hM
    have tc_8 := lv_neT (a := 0) c_8 (by decide)
    have tc_12 := lv_neT (a := 1) c_12 (by decide)
    have tc_16 := lv_neT (a := 2) c_16 (by decide)
    have tc_20 := lv_neT (a := 3) c_20 (by decide)
    have tc_24 := lv_neT (a := 4) c_24 (by decide)
    have tc_28 := lv_neT (a := 5) c_28 (by decide)
    refine x_tableOut (tgt := 88) C dX5_rate_12 (by omega) (by decide) ?_
    refine x_ldc (v := -1000000) C gw_658 dX5_rate_88 ?_
    obtain ⟨rfl, rfl⟩ := rt hM
    exact x_iret C hR rfl dX5_rate_90
  · have hM := ip c_4 hM
    refine x_ldc (v := -1000000) C gw_658 dX5_rate_8 ?_
    obtain ⟨rfl, rfl⟩ := rt hM
    exact x_iret C hR rfl dX5_rate_10
theorem c_X5_rate (l : Launch) (g : Gx) (x1 : Int32) (x2 : Int32) (w : Wd) {rr : Int32} {wr : Wd} (hM : f_X5_rate x1 x2 w = some (rr, wr)) : MetM l yX5_rate cX5_rate 3 (some .int) rm_X5_rate g [.ref (ad g 0), .int x1, .int x2] w (some (.int rr)) wr := by
  refine met_of (by decide) (Nat.le_of_ble_eq_true rfl) (fun E hl C hR => ?_)
  refine x_sub (L' := [(0, .ref (ad g 0)), (1, .int x1), (2, .int x2)]) [0, 1, 2] rfl ?_
  exact o_X5_rate_b0 C hR x1 x2 w hM
abbrev rm_X5_imageOf : Room := { frames := 0, cells := 0, slots := 0, locals := 0 }
set_option maxHeartbeats 1000000 in
set_option maxRecDepth 20000 in
theorem o_X5_imageOf_b0 {E : Ex} {g : Gx} (C : Ctx E RX5 cX5_imageOf rm_X5_imageOf 2 g) {rr : Nat} {wr : Wd} (hR : Rets E g (some (.object "DumplingPolls$Stew")) (some (.ref (ad g rr))) wr) (x1 : Int32) (w : Wd) (hM : f_X5_imageOf_b0 x1 w = some (rr, wr)) : Xx E 2 g 0 [(0, .ref (ad g 0)), (1, .int x1)] [] w := by
  unfold f_X5_imageOf_b0 at hM
  refine x_iload_n C dX5_imageOf_0 1 rfl rfl ?_
  refine x_if_ne (tgt := 11) C dX5_imageOf_1 (by decide) (fun c_1 => ?_) (fun c_1 => ?_)
  · have hM := iq c_1 hM
    refine x_aload_n C dX5_imageOf_11 0 rfl rfl ?_
    refine xg_5_7 C kd_0 gw_277 dX5_imageOf_12 ?_
    obtain ⟨rfl, rfl⟩ := rt hM
    exact x_aret C hR (Or.inr ⟨_, rfl⟩) rfl dX5_imageOf_15
  · have hM := ip c_1 hM
    refine x_aload_n C dX5_imageOf_4 0 rfl rfl ?_
    refine xg_5_6 C kd_0 gw_276 dX5_imageOf_5 ?_
    refine x_goto (tgt := 15) C dX5_imageOf_8 (by decide) ?_
    obtain ⟨rfl, rfl⟩ := rt hM
    exact x_aret C hR (Or.inr ⟨_, rfl⟩) rfl dX5_imageOf_15
theorem c_X5_imageOf (l : Launch) (g : Gx) (x1 : Int32) (w : Wd) {rr : Nat} {wr : Wd} (hM : f_X5_imageOf x1 w = some (rr, wr)) : MetM l yX5_imageOf cX5_imageOf 2 (some (.object "DumplingPolls$Stew")) rm_X5_imageOf g [.ref (ad g 0), .int x1] w (some (.ref (ad g rr))) wr := by
  refine met_of (by decide) (Nat.le_of_ble_eq_true rfl) (fun E hl C hR => ?_)
  refine x_sub (L' := [(0, .ref (ad g 0)), (1, .int x1)]) [0, 1] rfl ?_
  exact o_X5_imageOf_b0 C hR x1 w hM
abbrev rm_X5_keep : Room := { frames := 2, cells := 0, slots := 0, locals := 39 }
set_option maxHeartbeats 1000000 in
set_option maxRecDepth 20000 in
theorem o_X5_keep_b0 {E : Ex} {g : Gx} (C : Ctx E RX5 cX5_keep rm_X5_keep 2 g) {rr : Int32} {wr : Wd} (hR : Rets E g (some .int) (some (.int rr)) wr) (x1 : Int32) (w : Wd) (hM : f_X5_keep_b0 x1 w = some (rr, wr)) : Xx E 2 g 0 [(0, .ref (ad g 0)), (1, .int x1)] [] w := by
  unfold f_X5_keep_b0 at hM
  refine x_iload_n C dX5_keep_0 1 rfl rfl ?_
  refine x_if_lt (tgt := 9) C dX5_keep_1 (by decide) (fun c_1 => ?_) (fun c_1 => ?_)
  · have hM := ip c_1 hM
    refine x_iconst (v := -1) C dX5_keep_9 (by decide) ?_
    obtain ⟨rfl, rfl⟩ := rt hM
    exact x_iret C hR rfl dX5_keep_10
  · have hM := iq c_1 hM
    refine x_iload_n C dX5_keep_4 1 rfl rfl ?_
    refine x_iconst (v := 1) C dX5_keep_5 (by decide) ?_
    refine x_icmp_le (tgt := 11) C dX5_keep_6 (by decide) (fun c_2 => ?_) (fun c_2 => ?_)
    · have hM := ip c_2 hM
      refine x_aload_n C dX5_keep_11 0 rfl rfl ?_
      refine x_iload_n C dX5_keep_12 1 rfl rfl ?_
      obtain ⟨r_4, w_3, h_5, hM⟩ := cl hM
      obtain ⟨q_6, hM⟩ := gd hM
      refine x_callV (As := [.int x1]) C (c_X5_imageOf E.l g x1 w h_5) k_X5_imageOf kd_0 (by decide) rfl rfl gw_692 rfl rfl ⟨Nat.le_of_ble_eq_true rfl, Nat.le_of_ble_eq_true rfl⟩ rfl rfl (Nat.le_of_ble_eq_true rfl) dX5_keep_13 ?_
      refine x_aload_n C dX5_keep_16 0 rfl rfl ?_
      refine xg_5_3 C kd_0 gw_273 dX5_keep_17 ?_
      obtain ⟨r_8, w_7, h_9, hM⟩ := cl hM
      refine x_callVNv (As := [.ref (ad g 14)]) C (c_X4_copy E.l g r_4 14 (of_decide_eq_true q_6) kd_14 w_3 h_9) k_X4_copy (of_decide_eq_true q_6) (by decide) rfl rfl nw_551 rfl rfl ⟨Nat.le_of_ble_eq_true rfl, Nat.le_of_ble_eq_true rfl⟩ rfl rfl (Nat.le_of_ble_eq_true rfl) dX5_keep_20 ?_
      refine x_aload_n C dX5_keep_23 0 rfl rfl ?_
      refine x_dup C dX5_keep_24 rfl ?_
      refine xg_5_8 C kd_0 gw_278 dX5_keep_25 ?_
      refine x_iconst (v := 1) C dX5_keep_28 (by decide) ?_
      refine x_iload_n C dX5_keep_29 1 rfl rfl ?_
      refine x_ishl C dX5_keep_30 ?_
      refine x_ior C dX5_keep_31 ?_
      obtain ⟨w_10, e_11, hM⟩ := bd hM
      refine xp_5_8 C kd_0 gw_278 dX5_keep_32 ?_
      refine x_w e_11 ?_
      refine x_aload_n C dX5_keep_35 0 rfl rfl ?_
      refine xg_5_3 C kd_0 gw_273 dX5_keep_36 ?_
      refine xgN_4_0 C kd_14 nw_195 dX5_keep_39 ?_
      obtain ⟨rfl, rfl⟩ := rt hM
      exact x_iret C hR rfl dX5_keep_42
    · have hM := iq c_2 hM
      refine x_iconst (v := -1) C dX5_keep_9 (by decide) ?_
      obtain ⟨rfl, rfl⟩ := rt hM
      exact x_iret C hR rfl dX5_keep_10
theorem c_X5_keep (l : Launch) (g : Gx) (x1 : Int32) (w : Wd) {rr : Int32} {wr : Wd} (hM : f_X5_keep x1 w = some (rr, wr)) : MetM l yX5_keep cX5_keep 2 (some .int) rm_X5_keep g [.ref (ad g 0), .int x1] w (some (.int rr)) wr := by
  refine met_of (by decide) (Nat.le_of_ble_eq_true rfl) (fun E hl C hR => ?_)
  refine x_sub (L' := [(0, .ref (ad g 0)), (1, .int x1)]) [0, 1] rfl ?_
  exact o_X5_keep_b0 C hR x1 w hM
abbrev rm_X5_back : Room := { frames := 2, cells := 0, slots := 0, locals := 39 }
set_option maxHeartbeats 1000000 in
set_option maxRecDepth 20000 in
theorem o_X5_back_b0 {E : Ex} {g : Gx} (C : Ctx E RX5 cX5_back rm_X5_back 2 g) {rr : Int32} {wr : Wd} (hR : Rets E g (some .int) (some (.int rr)) wr) (x1 : Int32) (w : Wd) (hM : f_X5_back_b0 x1 w = some (rr, wr)) : Xx E 2 g 0 [(0, .ref (ad g 0)), (1, .int x1)] [] w := by
  unfold f_X5_back_b0 at hM
  refine x_iload_n C dX5_back_0 1 rfl rfl ?_
  refine x_if_lt (tgt := 9) C dX5_back_1 (by decide) (fun c_1 => ?_) (fun c_1 => ?_)
  · have hM := ip c_1 hM
    refine x_iconst (v := -1) C dX5_back_9 (by decide) ?_
    obtain ⟨rfl, rfl⟩ := rt hM
    exact x_iret C hR rfl dX5_back_10
  · have hM := iq c_1 hM
    refine x_iload_n C dX5_back_4 1 rfl rfl ?_
    refine x_iconst (v := 1) C dX5_back_5 (by decide) ?_
    refine x_icmp_le (tgt := 11) C dX5_back_6 (by decide) (fun c_2 => ?_) (fun c_2 => ?_)
    · have hM := ip c_2 hM
      refine x_aload_n C dX5_back_11 0 rfl rfl ?_
      refine xg_5_8 C kd_0 gw_278 dX5_back_12 ?_
      refine x_iload_n C dX5_back_15 1 rfl rfl ?_
      refine x_ishr C dX5_back_16 ?_
      refine x_iconst (v := 1) C dX5_back_17 (by decide) ?_
      refine x_iand C dX5_back_18 ?_
      refine x_if_ne (tgt := 25) C dX5_back_19 (by decide) (fun c_3 => ?_) (fun c_3 => ?_)
      · have hM := iq c_3 hM
        refine x_aload_n C dX5_back_25 0 rfl rfl ?_
        refine xg_5_3 C kd_0 gw_273 dX5_back_26 ?_
        refine x_aload_n C dX5_back_29 0 rfl rfl ?_
        refine x_iload_n C dX5_back_30 1 rfl rfl ?_
        obtain ⟨r_5, w_4, h_6, hM⟩ := cl hM
        obtain ⟨q_7, hM⟩ := gd hM
        refine x_callV (As := [.int x1]) C (c_X5_imageOf E.l g x1 w h_6) k_X5_imageOf kd_0 (by decide) rfl rfl gw_692 rfl rfl ⟨Nat.le_of_ble_eq_true rfl, Nat.le_of_ble_eq_true rfl⟩ rfl rfl (Nat.le_of_ble_eq_true rfl) dX5_back_31 ?_
        obtain ⟨r_9, w_8, h_10, hM⟩ := cl hM
        refine x_callVNv (As := [.ref (ad g r_5)]) C (c_X4_copy E.l g 14 r_5 kd_14 (of_decide_eq_true q_7) w_4 h_10) k_X4_copy kd_14 (by decide) rfl rfl nw_551 rfl rfl ⟨Nat.le_of_ble_eq_true rfl, Nat.le_of_ble_eq_true rfl⟩ rfl rfl (Nat.le_of_ble_eq_true rfl) dX5_back_34 ?_
        refine x_aload_n C dX5_back_37 0 rfl rfl ?_
        refine xg_5_5 C kd_0 gw_275 dX5_back_38 ?_
        refine x_iconst (v := 0) C dX5_back_41 (by decide) ?_
        obtain ⟨w_11, e_12, hM⟩ := bd hM
        refine xpN_0_2 C kd_24 nw_231 dX5_back_42 ?_
        refine x_w e_12 ?_
        refine x_aload_n C dX5_back_45 0 rfl rfl ?_
        refine xg_5_3 C kd_0 gw_273 dX5_back_46 ?_
        refine xgN_4_0 C kd_14 nw_195 dX5_back_49 ?_
        obtain ⟨rfl, rfl⟩ := rt hM
        exact x_iret C hR rfl dX5_back_52
      · have hM := ip c_3 hM
        refine x_bipush (v := -2) C dX5_back_22 (by decide) ?_
        obtain ⟨rfl, rfl⟩ := rt hM
        exact x_iret C hR rfl dX5_back_24
    · have hM := iq c_2 hM
      refine x_iconst (v := -1) C dX5_back_9 (by decide) ?_
      obtain ⟨rfl, rfl⟩ := rt hM
      exact x_iret C hR rfl dX5_back_10
theorem c_X5_back (l : Launch) (g : Gx) (x1 : Int32) (w : Wd) {rr : Int32} {wr : Wd} (hM : f_X5_back x1 w = some (rr, wr)) : MetM l yX5_back cX5_back 2 (some .int) rm_X5_back g [.ref (ad g 0), .int x1] w (some (.int rr)) wr := by
  refine met_of (by decide) (Nat.le_of_ble_eq_true rfl) (fun E hl C hR => ?_)
  refine x_sub (L' := [(0, .ref (ad g 0)), (1, .int x1)]) [0, 1] rfl ?_
  exact o_X5_back_b0 C hR x1 w hM
abbrev rm_X5_count : Room := { frames := 0, cells := 0, slots := 0, locals := 0 }
set_option maxHeartbeats 1000000 in
set_option maxRecDepth 20000 in
theorem o_X5_count_b0 {E : Ex} {g : Gx} (C : Ctx E RX5 cX5_count rm_X5_count 2 g) {rr : Int32} {wr : Wd} (hR : Rets E g (some .int) (some (.int rr)) wr) (x1 : Int32) (w : Wd) (hM : f_X5_count_b0 x1 w = some (rr, wr)) : Xx E 2 g 0 [(0, .ref (ad g 0)), (1, .int x1)] [] w := by
  unfold f_X5_count_b0 at hM
  refine x_iload_n C dX5_count_0 1 rfl rfl ?_
  by_cases c_1 : x1 = 0
  · have hM := ip c_1 hM
    refine x_tableIn (off := 39) (tgt := 40) C dX5_count_1 (by rw [c_1]; decide) (by rw [c_1]; decide) (by rw [c_1]; rfl) (by decide) ?_
    refine x_aload_n C dX5_count_40 0 rfl rfl ?_
    refine xg_5_1 C kd_0 gw_271 dX5_count_41 ?_
    refine xgN_2_0 C kd_4 nw_149 dX5_count_44 ?_
    obtain ⟨rfl, rfl⟩ := rt hM
    exact x_iret C hR rfl dX5_count_47
  have hM := iq c_1 hM
  by_cases c_2 : x1 = 1
  · have hM := ip c_2 hM
    refine x_tableIn (off := 47) (tgt := 48) C dX5_count_1 (by rw [c_2]; decide) (by rw [c_2]; decide) (by rw [c_2]; rfl) (by decide) ?_
    refine x_aload_n C dX5_count_48 0 rfl rfl ?_
    refine xg_5_1 C kd_0 gw_271 dX5_count_49 ?_
    refine xgN_2_1 C kd_4 nw_153 dX5_count_52 ?_
    obtain ⟨rfl, rfl⟩ := rt hM
    exact x_iret C hR rfl dX5_count_55
  have hM := iq c_2 hM
  by_cases c_3 : x1 = 2
  · have hM := ip c_3 hM
    refine x_tableIn (off := 55) (tgt := 56) C dX5_count_1 (by rw [c_3]; decide) (by rw [c_3]; decide) (by rw [c_3]; rfl) (by decide) ?_
    refine x_aload_n C dX5_count_56 0 rfl rfl ?_
    refine xg_5_1 C kd_0 gw_271 dX5_count_57 ?_
    refine xgN_2_2 C kd_4 nw_157 dX5_count_60 ?_
    obtain ⟨rfl, rfl⟩ := rt hM
    exact x_iret C hR rfl dX5_count_63
  have hM := iq c_3 hM
  by_cases c_4 : x1 = 3
  · have hM := ip c_4 hM
    refine x_tableIn (off := 63) (tgt := 64) C dX5_count_1 (by rw [c_4]; decide) (by rw [c_4]; decide) (by rw [c_4]; rfl) (by decide) ?_
    refine x_aload_n C dX5_count_64 0 rfl rfl ?_
    refine xg_5_1 C kd_0 gw_271 dX5_count_65 ?_
    refine xgN_2_3 C kd_4 nw_160 dX5_count_68 ?_
    obtain ⟨rfl, rfl⟩ := rt hM
    exact x_iret C hR rfl dX5_count_71
  have hM := iq c_4 hM
  by_cases c_5 : x1 = 4
  · have hM := ip c_5 hM
    refine x_tableIn (off := 71) (tgt := 72) C dX5_count_1 (by rw [c_5]; decide) (by rw [c_5]; decide) (by rw [c_5]; rfl) (by decide) ?_
    refine x_aload_n C dX5_count_72 0 rfl rfl ?_
    refine xg_5_9 C kd_0 gw_279 dX5_count_73 ?_
    refine xgN_3_3 C kd_86 nw_252 dX5_count_76 ?_
    obtain ⟨rfl, rfl⟩ := rt hM
    exact x_iret C hR rfl dX5_count_79
  have hM := iq c_5 hM
  by_cases c_6 : x1 = 5
  · have hM := ip c_6 hM
    refine x_tableIn (off := 79) (tgt := 80) C dX5_count_1 (by rw [c_6]; decide) (by rw [c_6]; decide) (by rw [c_6]; rfl) (by decide) ?_
    refine x_aload_n C dX5_count_80 0 rfl rfl ?_
    refine xg_5_0 C kd_0 gw_270 dX5_count_81 ?_
    refine xgN_1_2 C kd_1 nw_111 dX5_count_84 ?_
    obtain ⟨rfl, rfl⟩ := rt hM
    exact x_iret C hR rfl dX5_count_87
  have hM := iq c_6 hM
  have tc_1 := lv_neT (a := 0) c_1 (by decide)
  have tc_2 := lv_neT (a := 1) c_2 (by decide)
  have tc_3 := lv_neT (a := 2) c_3 (by decide)
  have tc_4 := lv_neT (a := 3) c_4 (by decide)
  have tc_5 := lv_neT (a := 4) c_5 (by decide)
  have tc_6 := lv_neT (a := 5) c_6 (by decide)
  refine x_tableOut (tgt := 88) C dX5_count_1 (by omega) (by decide) ?_
  refine x_iconst (v := -1) C dX5_count_88 (by decide) ?_
  obtain ⟨rfl, rfl⟩ := rt hM
  exact x_iret C hR rfl dX5_count_89
theorem c_X5_count (l : Launch) (g : Gx) (x1 : Int32) (w : Wd) {rr : Int32} {wr : Wd} (hM : f_X5_count x1 w = some (rr, wr)) : MetM l yX5_count cX5_count 2 (some .int) rm_X5_count g [.ref (ad g 0), .int x1] w (some (.int rr)) wr := by
  refine met_of (by decide) (Nat.le_of_ble_eq_true rfl) (fun E hl C hR => ?_)
  refine x_sub (L' := [(0, .ref (ad g 0)), (1, .int x1)]) [0, 1] rfl ?_
  exact o_X5_count_b0 C hR x1 w hM
abbrev rm_X5_trace : Room := { frames := 0, cells := 0, slots := 0, locals := 0 }
set_option maxHeartbeats 1000000 in
set_option maxRecDepth 20000 in
theorem o_X5_trace_b0 {E : Ex} {g : Gx} (C : Ctx E RX5 cX5_trace rm_X5_trace 1 g) {rr : Int64} {wr : Wd} (hR : Rets E g (some .long) (some (.long rr)) wr) (w : Wd) (hM : f_X5_trace_b0 w = some (rr, wr)) : Xx E 1 g 0 [(0, .ref (ad g 0))] [] w := by
  unfold f_X5_trace_b0 at hM
  refine x_aload_n C dX5_trace_0 0 rfl rfl ?_
  refine xg_5_12 C kd_0 gw_282 dX5_trace_1 ?_
  obtain ⟨rfl, rfl⟩ := rt hM
  exact x_lret C hR rfl dX5_trace_4
theorem c_X5_trace (l : Launch) (g : Gx) (w : Wd) {rr : Int64} {wr : Wd} (hM : f_X5_trace w = some (rr, wr)) : MetM l yX5_trace cX5_trace 1 (some .long) rm_X5_trace g [.ref (ad g 0)] w (some (.long rr)) wr := by
  refine met_of (by decide) (Nat.le_of_ble_eq_true rfl) (fun E hl C hR => ?_)
  refine x_sub (L' := [(0, .ref (ad g 0))]) [0] rfl ?_
  exact o_X5_trace_b0 C hR w hM
abbrev rm_X6_in : Room := { frames := 0, cells := 0, slots := 0, locals := 0 }
set_option maxHeartbeats 1000000 in
set_option maxRecDepth 20000 in
theorem o_X6_in_b0 {E : Ex} {g : Gx} (C : Ctx E RX6 cX6_in rm_X6_in 3 g) {rr : Int32} {wr : Wd} (hR : Rets E g (some .boolean) (some (.int rr)) wr) (x0 : Int32) (x1 : Int32) (x2 : Int32) (w : Wd) (hM : f_X6_in_b0 x0 x1 x2 w = some (rr, wr)) : Xx E 3 g 0 [(0, .int x0), (1, .int x1), (2, .int x2)] [] w := by
  unfold f_X6_in_b0 at hM
  refine x_iload_n C dX6_in_0 0 rfl rfl ?_
  refine x_iload_n C dX6_in_1 1 rfl rfl ?_
  refine x_icmp_lt (tgt := 14) C dX6_in_2 (by decide) (fun c_1 => ?_) (fun c_1 => ?_)
  · have hM := ip c_1 hM
    refine x_iconst (v := 0) C dX6_in_14 (by decide) ?_
    obtain ⟨rfl, rfl⟩ := rt hM
    exact x_zret C hR (by rfl) rfl dX6_in_15
  · have hM := iq c_1 hM
    refine x_iload_n C dX6_in_5 0 rfl rfl ?_
    refine x_iload_n C dX6_in_6 2 rfl rfl ?_
    refine x_icmp_gt (tgt := 14) C dX6_in_7 (by decide) (fun c_2 => ?_) (fun c_2 => ?_)
    · have hM := ip c_2 hM
      refine x_iconst (v := 0) C dX6_in_14 (by decide) ?_
      obtain ⟨rfl, rfl⟩ := rt hM
      exact x_zret C hR (by rfl) rfl dX6_in_15
    · have hM := iq c_2 hM
      refine x_iconst (v := 1) C dX6_in_10 (by decide) ?_
      refine x_goto (tgt := 15) C dX6_in_11 (by decide) ?_
      obtain ⟨rfl, rfl⟩ := rt hM
      exact x_zret C hR (by rfl) rfl dX6_in_15
theorem c_X6_in (l : Launch) (g : Gx) (x0 : Int32) (x1 : Int32) (x2 : Int32) (w : Wd) {rr : Int32} {wr : Wd} (hM : f_X6_in x0 x1 x2 w = some (rr, wr)) : MetM l yX6_in cX6_in 3 (some .boolean) rm_X6_in g [.int x0, .int x1, .int x2] w (some (.int rr)) wr := by
  refine met_of (by decide) (Nat.le_of_ble_eq_true rfl) (fun E hl C hR => ?_)
  refine x_sub (L' := [(0, .int x0), (1, .int x1), (2, .int x2)]) [0, 1, 2] rfl ?_
  exact o_X6_in_b0 C hR x0 x1 x2 w hM
abbrev rm_X6_has : Room := { frames := 0, cells := 0, slots := 0, locals := 0 }
set_option maxHeartbeats 1000000 in
set_option maxRecDepth 20000 in
theorem o_X6_has_b0 {E : Ex} {g : Gx} (C : Ctx E RX6 cX6_has rm_X6_has 2 g) {rr : Int32} {wr : Wd} (hR : Rets E g (some .boolean) (some (.int rr)) wr) (x0 : Int32) (x1 : Int32) (w : Wd) (hM : f_X6_has_b0 x0 x1 w = some (rr, wr)) : Xx E 2 g 0 [(0, .int x0), (1, .int x1)] [] w := by
  unfold f_X6_has_b0 at hM
  refine x_iload_n C dX6_has_0 0 rfl rfl ?_
  refine x_iload_n C dX6_has_1 1 rfl rfl ?_
  refine x_ishr C dX6_has_2 ?_
  refine x_iconst (v := 1) C dX6_has_3 (by decide) ?_
  refine x_iand C dX6_has_4 ?_
  refine x_iconst (v := 1) C dX6_has_5 (by decide) ?_
  refine x_icmp_ne (tgt := 13) C dX6_has_6 (by decide) (fun c_1 => ?_) (fun c_1 => ?_)
  · have hM := iq c_1 hM
    refine x_iconst (v := 0) C dX6_has_13 (by decide) ?_
    obtain ⟨rfl, rfl⟩ := rt hM
    exact x_zret C hR (by rfl) rfl dX6_has_14
  · have hM := ip c_1 hM
    refine x_iconst (v := 1) C dX6_has_9 (by decide) ?_
    refine x_goto (tgt := 14) C dX6_has_10 (by decide) ?_
    obtain ⟨rfl, rfl⟩ := rt hM
    exact x_zret C hR (by rfl) rfl dX6_has_14
theorem c_X6_has (l : Launch) (g : Gx) (x0 : Int32) (x1 : Int32) (w : Wd) {rr : Int32} {wr : Wd} (hM : f_X6_has x0 x1 w = some (rr, wr)) : MetM l yX6_has cX6_has 2 (some .boolean) rm_X6_has g [.int x0, .int x1] w (some (.int rr)) wr := by
  refine met_of (by decide) (Nat.le_of_ble_eq_true rfl) (fun E hl C hR => ?_)
  refine x_sub (L' := [(0, .int x0), (1, .int x1)]) [0, 1] rfl ?_
  exact o_X6_has_b0 C hR x0 x1 w hM
abbrev rm_X6_bits : Room := { frames := 0, cells := 0, slots := 0, locals := 0 }
set_option maxHeartbeats 1000000 in
set_option maxRecDepth 20000 in
theorem o_X6_bits_h4 {E : Ex} {g : Gx} (C : Ctx E RX6 cX6_bits rm_X6_bits 3 g) {rr : Int32} {wr : Wd} (hR : Rets E g (some .int) (some (.int rr)) wr) {kh4 : (Int32 → Int32 → Int32 → Wd → Option (Int32 × Wd))} (Hh4 : ∀ (x0 : Int32) (x1 : Int32) (x2 : Int32) (w : Wd), kh4 x0 x1 x2 w = some (rr, wr) → Xx E 3 g 4 [(0, .int x0), (1, .int x1), (2, .int x2)] [] w) (x0 : Int32) (x1 : Int32) (x2 : Int32) (w : Wd) (hM : f_X6_bits_h4 kh4 x0 x1 x2 w = some (rr, wr)) : Xx E 3 g 4 [(0, .int x0), (1, .int x1), (2, .int x2)] [] w := by
  unfold f_X6_bits_h4 at hM
  refine x_iload_n C dX6_bits_4 2 rfl rfl ?_
  refine x_bipush (v := 6) C dX6_bits_5 (by decide) ?_
  refine x_icmp_ge (tgt := 24) C dX6_bits_7 (by decide) (fun c_1 => ?_) (fun c_1 => ?_)
  · have hM := ip c_1 hM
    refine x_iload_n C dX6_bits_24 1 rfl rfl ?_
    obtain ⟨rfl, rfl⟩ := rt hM
    exact x_iret C hR rfl dX6_bits_25
  · have hM := iq c_1 hM
    refine x_iload_n C dX6_bits_10 1 rfl rfl ?_
    refine x_iload_n C dX6_bits_11 0 rfl rfl ?_
    refine x_iload_n C dX6_bits_12 2 rfl rfl ?_
    refine x_ishr C dX6_bits_13 ?_
    refine x_iconst (v := 1) C dX6_bits_14 (by decide) ?_
    refine x_iand C dX6_bits_15 ?_
    refine x_iadd C dX6_bits_16 ?_
    obtain ⟨x1_2, e_3, hM⟩ := bd hM
    refine x_top e_3 ?_
    refine x_istore_n (L' := [(1, .int x1_2), (0, .int x0), (2, .int x2)]) C dX6_bits_17 rfl (by decide) rfl ?_
    obtain ⟨x2_4, e_5, hM⟩ := bd hM
    refine x_iinc (L' := [(2, .int x2_4), (1, .int x1_2), (0, .int x0)]) C dX6_bits_18 2 rfl (v := x2_4) (by rw [e_5]; first | rfl | decide) (by decide) rfl ?_
    refine x_goto (tgt := 4) C dX6_bits_21 (by decide) ?_
    refine x_sub (L' := [(0, .int x0), (1, .int x1_2), (2, .int x2_4)]) [2, 1, 0] rfl ?_
    exact Hh4 x0 x1_2 x2_4 w hM
theorem o_X6_bits_l4 {E : Ex} {g : Gx} (C : Ctx E RX6 cX6_bits rm_X6_bits 3 g) {rr : Int32} {wr : Wd} (hR : Rets E g (some .int) (some (.int rr)) wr) : ∀ (n : Nat) (x0 : Int32) (x1 : Int32) (x2 : Int32) (w : Wd), f_X6_bits_l4 n x0 x1 x2 w = some (rr, wr) → Xx E 3 g 4 [(0, .int x0), (1, .int x1), (2, .int x2)] [] w := by
  intro n
  induction n with
  | zero =>
    intro x0 x1 x2 w hM
    rw [f_X6_bits_l4] at hM
    cases hM
  | succ n ih =>
    intro x0 x1 x2 w hM
    rw [f_X6_bits_l4] at hM
    exact o_X6_bits_h4 C hR ih x0 x1 x2 w hM
set_option maxHeartbeats 1000000 in
set_option maxRecDepth 20000 in
theorem o_X6_bits_b0 {E : Ex} {g : Gx} (C : Ctx E RX6 cX6_bits rm_X6_bits 3 g) {rr : Int32} {wr : Wd} (hR : Rets E g (some .int) (some (.int rr)) wr) (x0 : Int32) (w : Wd) (hM : f_X6_bits_b0 x0 w = some (rr, wr)) : Xx E 3 g 0 [(0, .int x0)] [] w := by
  unfold f_X6_bits_b0 at hM
  refine x_iconst (v := 0) C dX6_bits_0 (by decide) ?_
  obtain ⟨x1_1, e_2, hM⟩ := bd hM
  refine x_top e_2 ?_
  refine x_istore_n (L' := [(1, .int x1_1), (0, .int x0)]) C dX6_bits_1 rfl (by decide) rfl ?_
  refine x_iconst (v := 0) C dX6_bits_2 (by decide) ?_
  obtain ⟨x2_3, e_4, hM⟩ := bd hM
  refine x_top e_4 ?_
  refine x_istore_n (L' := [(2, .int x2_3), (1, .int x1_1), (0, .int x0)]) C dX6_bits_3 rfl (by decide) rfl ?_
  refine x_sub (L' := [(0, .int x0), (1, .int x1_1), (2, .int x2_3)]) [2, 1, 0] rfl ?_
  exact o_X6_bits_l4 C hR 300 x0 x1_1 x2_3 w hM
theorem c_X6_bits (l : Launch) (g : Gx) (x0 : Int32) (w : Wd) {rr : Int32} {wr : Wd} (hM : f_X6_bits x0 w = some (rr, wr)) : MetM l yX6_bits cX6_bits 3 (some .int) rm_X6_bits g [.int x0] w (some (.int rr)) wr := by
  refine met_of (by decide) (Nat.le_of_ble_eq_true rfl) (fun E hl C hR => ?_)
  refine x_sub (L' := [(0, .int x0)]) [0] rfl ?_
  exact o_X6_bits_b0 C hR x0 w hM
abbrev rm_X6_isOne : Room := { frames := 1, cells := 0, slots := 0, locals := 22 }
set_option maxHeartbeats 1000000 in
set_option maxRecDepth 20000 in
theorem o_X6_isOne_b0 {E : Ex} {g : Gx} (C : Ctx E RX6 cX6_isOne rm_X6_isOne 2 g) {rr : Int32} {wr : Wd} (hR : Rets E g (some .boolean) (some (.int rr)) wr) (x1 : Int32) (w : Wd) (hM : f_X6_isOne_b0 x1 w = some (rr, wr)) : Xx E 2 g 0 [(0, .ref (ad g 92)), (1, .int x1)] [] w := by
  unfold f_X6_isOne_b0 at hM
  refine x_iload_n C dX6_isOne_0 1 rfl rfl ?_
  refine x_iconst (v := 0) C dX6_isOne_1 (by decide) ?_
  refine x_aload_n C dX6_isOne_2 0 rfl rfl ?_
  refine xg_6_0 C kd_92 gw_714 dX6_isOne_3 ?_
  refine x_iconst (v := 1) C dX6_isOne_6 (by decide) ?_
  refine x_isub C dX6_isOne_7 ?_
  obtain ⟨r_2, w_1, h_3, hM⟩ := cl hM
  refine x_callS (As := [.int x1, .int (0 : Int32), .int ((wget w 92 0) - (1 : Int32))]) C (c_X6_in E.l g x1 (0 : Int32) ((wget w 92 0) - (1 : Int32)) w h_3) k_X6_in gw_813 rfl rfl ⟨Nat.le_of_ble_eq_true rfl, Nat.le_of_ble_eq_true rfl⟩ rfl rfl (Nat.le_of_ble_eq_true rfl) dX6_isOne_8 ?_
  obtain ⟨q_4, hM⟩ := gd hM
  obtain ⟨rfl, rfl⟩ := rt hM
  exact x_zret C hR (nb_n q_4) rfl dX6_isOne_11
theorem c_X6_isOne (l : Launch) (g : Gx) (x1 : Int32) (w : Wd) {rr : Int32} {wr : Wd} (hM : f_X6_isOne x1 w = some (rr, wr)) : MetM l yX6_isOne cX6_isOne 2 (some .boolean) rm_X6_isOne g [.ref (ad g 92), .int x1] w (some (.int rr)) wr := by
  refine met_of (by decide) (Nat.le_of_ble_eq_true rfl) (fun E hl C hR => ?_)
  refine x_sub (L' := [(0, .ref (ad g 92)), (1, .int x1)]) [0, 1] rfl ?_
  exact o_X6_isOne_b0 C hR x1 w hM
abbrev rm_X6_copy : Room := { frames := 0, cells := 0, slots := 0, locals := 0 }
set_option maxHeartbeats 1000000 in
set_option maxRecDepth 20000 in
theorem o_X6_copy_h3 {E : Ex} {g : Gx} (C : Ctx E RX6 cX6_copy rm_X6_copy 5 g) {rr : Unit} {wr : Wd} (hR : Rets E g none none wr) {k0 : Nat} (hk0 : kindOf k0 = 7) {k2 : Nat} (hk2 : kindOf k2 = 7) {kh3 : (Int32 → Int32 → Int32 → Wd → Option (Unit × Wd))} (Hh3 : ∀ (x1 : Int32) (x3 : Int32) (x4 : Int32) (w : Wd), kh3 x1 x3 x4 w = some (rr, wr) → Xx E 5 g 3 [(0, .ref (ad g k0)), (1, .int x1), (2, .ref (ad g k2)), (3, .int x3), (4, .int x4)] [] w) (x1 : Int32) (x3 : Int32) (x4 : Int32) (w : Wd) (hM : f_X6_copy_h3 k0 k2 kh3 x1 x3 x4 w = some (rr, wr)) : Xx E 5 g 3 [(0, .ref (ad g k0)), (1, .int x1), (2, .ref (ad g k2)), (3, .int x3), (4, .int x4)] [] w := by
  unfold f_X6_copy_h3 at hM
  refine x_iload C dX6_copy_3 4 rfl ?_
  refine x_bipush (v := 26) C dX6_copy_5 (by decide) ?_
  refine x_icmp_ge (tgt := 28) C dX6_copy_7 (by decide) (fun c_1 => ?_) (fun c_1 => ?_)
  · have hM := ip c_1 hM
    obtain ⟨rfl, rfl⟩ := rt hM
    exact x_vret C hR rfl dX6_copy_28
  · have hM := iq c_1 hM
    refine x_aload_n C dX6_copy_10 0 rfl rfl ?_
    refine x_iload_n C dX6_copy_11 1 rfl rfl ?_
    refine x_iload C dX6_copy_12 4 rfl ?_
    refine x_iadd C dX6_copy_14 ?_
    refine x_aload_n C dX6_copy_15 2 rfl rfl ?_
    refine x_iload_n C dX6_copy_16 3 rfl rfl ?_
    refine x_iload C dX6_copy_17 4 rfl ?_
    refine x_iadd C dX6_copy_19 ?_
    obtain ⟨q_2, hM⟩ := gd hM
    refine x_iald C hk2 rfl q_2 rfl dX6_copy_20 ?_
    obtain ⟨q_3, hM⟩ := gd hM
    obtain ⟨w_4, e_5, hM⟩ := bd hM
    refine x_iast C hk0 rfl q_3 rfl dX6_copy_21 ?_
    refine x_w e_5 ?_
    obtain ⟨x4_6, e_7, hM⟩ := bd hM
    refine x_iinc (L' := [(4, .int x4_6), (0, .ref (ad g k0)), (1, .int x1), (2, .ref (ad g k2)), (3, .int x3)]) C dX6_copy_22 4 rfl (v := x4_6) (by rw [e_7]; first | rfl | decide) (by decide) rfl ?_
    refine x_goto (tgt := 3) C dX6_copy_25 (by decide) ?_
    refine x_sub (L' := [(0, .ref (ad g k0)), (1, .int x1), (2, .ref (ad g k2)), (3, .int x3), (4, .int x4_6)]) [1, 2, 3, 4, 0] rfl ?_
    exact Hh3 x1 x3 x4_6 w_4 hM
theorem o_X6_copy_l3 {E : Ex} {g : Gx} (C : Ctx E RX6 cX6_copy rm_X6_copy 5 g) {rr : Unit} {wr : Wd} (hR : Rets E g none none wr) {k0 : Nat} (hk0 : kindOf k0 = 7) {k2 : Nat} (hk2 : kindOf k2 = 7) : ∀ (n : Nat) (x1 : Int32) (x3 : Int32) (x4 : Int32) (w : Wd), f_X6_copy_l3 k0 k2 n x1 x3 x4 w = some (rr, wr) → Xx E 5 g 3 [(0, .ref (ad g k0)), (1, .int x1), (2, .ref (ad g k2)), (3, .int x3), (4, .int x4)] [] w := by
  intro n
  induction n with
  | zero =>
    intro x1 x3 x4 w hM
    rw [f_X6_copy_l3] at hM
    cases hM
  | succ n ih =>
    intro x1 x3 x4 w hM
    rw [f_X6_copy_l3] at hM
    exact o_X6_copy_h3 C hR hk0 hk2 ih x1 x3 x4 w hM
set_option maxHeartbeats 1000000 in
set_option maxRecDepth 20000 in
theorem o_X6_copy_b0 {E : Ex} {g : Gx} (C : Ctx E RX6 cX6_copy rm_X6_copy 5 g) {rr : Unit} {wr : Wd} (hR : Rets E g none none wr) {k0 : Nat} (hk0 : kindOf k0 = 7) {k2 : Nat} (hk2 : kindOf k2 = 7) (x1 : Int32) (x3 : Int32) (w : Wd) (hM : f_X6_copy_b0 k0 k2 x1 x3 w = some (rr, wr)) : Xx E 5 g 0 [(0, .ref (ad g k0)), (1, .int x1), (2, .ref (ad g k2)), (3, .int x3)] [] w := by
  unfold f_X6_copy_b0 at hM
  refine x_iconst (v := 0) C dX6_copy_0 (by decide) ?_
  obtain ⟨x4_1, e_2, hM⟩ := bd hM
  refine x_top e_2 ?_
  refine x_istore (L' := [(4, .int x4_1), (0, .ref (ad g k0)), (1, .int x1), (2, .ref (ad g k2)), (3, .int x3)]) C dX6_copy_1 (by decide) rfl ?_
  refine x_sub (L' := [(0, .ref (ad g k0)), (1, .int x1), (2, .ref (ad g k2)), (3, .int x3), (4, .int x4_1)]) [1, 2, 3, 4, 0] rfl ?_
  exact o_X6_copy_l3 C hR hk0 hk2 300 x1 x3 x4_1 w hM
theorem c_X6_copy (l : Launch) (g : Gx) (k0 : Nat) (k2 : Nat) (x1 : Int32) (x3 : Int32) (hk0 : kindOf k0 = 7) (hk2 : kindOf k2 = 7) (w : Wd) {rr : Unit} {wr : Wd} (hM : f_X6_copy k0 k2 x1 x3 w = some (rr, wr)) : MetM l yX6_copy cX6_copy 5 none rm_X6_copy g [.ref (ad g k0), .int x1, .ref (ad g k2), .int x3] w none wr := by
  refine met_of (by decide) (Nat.le_of_ble_eq_true rfl) (fun E hl C hR => ?_)
  refine x_sub (L' := [(0, .ref (ad g k0)), (1, .int x1), (2, .ref (ad g k2)), (3, .int x3)]) [0, 1, 2, 3] rfl ?_
  exact o_X6_copy_b0 C hR hk0 hk2 x1 x3 w hM
abbrev rm_X6_type : Room := { frames := 1, cells := 0, slots := 0, locals := 22 }
set_option maxHeartbeats 1000000 in
set_option maxRecDepth 20000 in
theorem o_X6_type_b0 {E : Ex} {g : Gx} (C : Ctx E RX6 cX6_type rm_X6_type 2 g) {rr : Int32} {wr : Wd} (hR : Rets E g (some .int) (some (.int rr)) wr) (x1 : Int32) (w : Wd) (hM : f_X6_type_b0 x1 w = some (rr, wr)) : Xx E 2 g 0 [(0, .ref (ad g 92)), (1, .int x1)] [] w := by
  unfold f_X6_type_b0 at hM
  refine x_iload_n C dX6_type_0 1 rfl rfl ?_
  refine x_iconst (v := 0) C dX6_type_1 (by decide) ?_
  refine x_sipush (v := 255) C dX6_type_2 (by decide) ?_
  obtain ⟨r_2, w_1, h_3, hM⟩ := cl hM
  refine x_callS (As := [.int x1, .int (0 : Int32), .int (255 : Int32)]) C (c_X6_in E.l g x1 (0 : Int32) (255 : Int32) w h_3) k_X6_in gw_813 rfl rfl ⟨Nat.le_of_ble_eq_true rfl, Nat.le_of_ble_eq_true rfl⟩ rfl rfl (Nat.le_of_ble_eq_true rfl) dX6_type_5 ?_
  refine x_if_ne (tgt := 13) C dX6_type_8 (by decide) (fun c_4 => ?_) (fun c_4 => ?_)
  · have hM := iq c_4 hM
    refine x_aload_n C dX6_type_13 0 rfl rfl ?_
    refine xg_6_16 C kd_92 gw_730 dX6_type_14 ?_
    refine x_bipush (v := 120) C dX6_type_17 (by decide) ?_
    refine x_icmp_ne (tgt := 25) C dX6_type_19 (by decide) (fun c_5 => ?_) (fun c_5 => ?_)
    · have hM := iq c_5 hM
      refine x_aload_n C dX6_type_25 0 rfl rfl ?_
      refine xg_6_15 C kd_92 gw_729 dX6_type_26 ?_
      refine x_aload_n C dX6_type_29 0 rfl rfl ?_
      refine xg_6_16 C kd_92 gw_730 dX6_type_30 ?_
      refine x_iload_n C dX6_type_33 1 rfl rfl ?_
      obtain ⟨q_6, hM⟩ := gd hM
      obtain ⟨w_7, e_8, hM⟩ := bd hM
      refine x_iast C kd_101 ln_101 q_6 rfl dX6_type_34 ?_
      refine x_w e_8 ?_
      refine x_aload_n C dX6_type_35 0 rfl rfl ?_
      refine x_dup C dX6_type_36 rfl ?_
      refine xg_6_16 C kd_92 gw_730 dX6_type_37 ?_
      refine x_iconst (v := 1) C dX6_type_40 (by decide) ?_
      refine x_iadd C dX6_type_41 ?_
      obtain ⟨w_9, e_10, hM⟩ := bd hM
      refine xp_6_16 C kd_92 gw_730 dX6_type_42 ?_
      refine x_w e_10 ?_
      refine x_aload_n C dX6_type_45 0 rfl rfl ?_
      refine xg_6_16 C kd_92 gw_730 dX6_type_46 ?_
      obtain ⟨rfl, rfl⟩ := rt hM
      exact x_iret C hR rfl dX6_type_49
    · have hM := ip c_5 hM
      refine x_bipush (v := -3) C dX6_type_22 (by decide) ?_
      obtain ⟨rfl, rfl⟩ := rt hM
      exact x_iret C hR rfl dX6_type_24
  · have hM := ip c_4 hM
    refine x_iconst (v := -1) C dX6_type_11 (by decide) ?_
    obtain ⟨rfl, rfl⟩ := rt hM
    exact x_iret C hR rfl dX6_type_12
theorem c_X6_type (l : Launch) (g : Gx) (x1 : Int32) (w : Wd) {rr : Int32} {wr : Wd} (hM : f_X6_type x1 w = some (rr, wr)) : MetM l yX6_type cX6_type 2 (some .int) rm_X6_type g [.ref (ad g 92), .int x1] w (some (.int rr)) wr := by
  refine met_of (by decide) (Nat.le_of_ble_eq_true rfl) (fun E hl C hR => ?_)
  refine x_sub (L' := [(0, .ref (ad g 92)), (1, .int x1)]) [0, 1] rfl ?_
  exact o_X6_type_b0 C hR x1 w hM
abbrev rm_X6_clear : Room := { frames := 0, cells := 0, slots := 0, locals := 0 }
set_option maxHeartbeats 1000000 in
set_option maxRecDepth 20000 in
theorem o_X6_clear_b0 {E : Ex} {g : Gx} (C : Ctx E RX6 cX6_clear rm_X6_clear 2 g) {rr : Int32} {wr : Wd} (hR : Rets E g (some .int) (some (.int rr)) wr) (w : Wd) (hM : f_X6_clear_b0 w = some (rr, wr)) : Xx E 2 g 0 [(0, .ref (ad g 92))] [] w := by
  unfold f_X6_clear_b0 at hM
  refine x_aload_n C dX6_clear_0 0 rfl rfl ?_
  refine xg_6_16 C kd_92 gw_730 dX6_clear_1 ?_
  obtain ⟨x1_1, e_2, hM⟩ := bd hM
  refine x_top e_2 ?_
  refine x_istore_n (L' := [(1, .int x1_1), (0, .ref (ad g 92))]) C dX6_clear_4 rfl (by decide) rfl ?_
  refine x_aload_n C dX6_clear_5 1 rfl rfl ?_
  refine x_iconst (v := 0) C dX6_clear_6 (by decide) ?_
  obtain ⟨w_3, e_4, hM⟩ := bd hM
  refine xp_6_16 C kd_92 gw_730 dX6_clear_7 ?_
  refine x_w e_4 ?_
  refine x_iload_n C dX6_clear_10 0 rfl rfl ?_
  obtain ⟨rfl, rfl⟩ := rt hM
  exact x_iret C hR rfl dX6_clear_11
theorem c_X6_clear (l : Launch) (g : Gx) (w : Wd) {rr : Int32} {wr : Wd} (hM : f_X6_clear w = some (rr, wr)) : MetM l yX6_clear cX6_clear 2 (some .int) rm_X6_clear g [.ref (ad g 92)] w (some (.int rr)) wr := by
  refine met_of (by decide) (Nat.le_of_ble_eq_true rfl) (fun E hl C hR => ?_)
  refine x_sub (L' := [(0, .ref (ad g 92))]) [0] rfl ?_
  exact o_X6_clear_b0 C hR w hM
abbrev rm_X6_letterAt : Room := { frames := 0, cells := 0, slots := 0, locals := 0 }
set_option maxHeartbeats 1000000 in
set_option maxRecDepth 20000 in
theorem o_X6_letterAt_b0 {E : Ex} {g : Gx} (C : Ctx E RX6 cX6_letterAt rm_X6_letterAt 2 g) {rr : Int32} {wr : Wd} (hR : Rets E g (some .int) (some (.int rr)) wr) (x1 : Int32) (w : Wd) (hM : f_X6_letterAt_b0 x1 w = some (rr, wr)) : Xx E 2 g 0 [(0, .ref (ad g 92)), (1, .int x1)] [] w := by
  unfold f_X6_letterAt_b0 at hM
  refine x_iload_n C dX6_letterAt_0 1 rfl rfl ?_
  refine x_aload_n C dX6_letterAt_1 0 rfl rfl ?_
  refine xg_6_16 C kd_92 gw_730 dX6_letterAt_2 ?_
  refine x_icmp_ge (tgt := 17) C dX6_letterAt_5 (by decide) (fun c_1 => ?_) (fun c_1 => ?_)
  · have hM := ip c_1 hM
    refine x_iconst (v := -1) C dX6_letterAt_17 (by decide) ?_
    obtain ⟨rfl, rfl⟩ := rt hM
    exact x_iret C hR rfl dX6_letterAt_18
  · have hM := iq c_1 hM
    refine x_aload_n C dX6_letterAt_8 0 rfl rfl ?_
    refine xg_6_15 C kd_92 gw_729 dX6_letterAt_9 ?_
    refine x_iload_n C dX6_letterAt_12 1 rfl rfl ?_
    obtain ⟨q_2, hM⟩ := gd hM
    refine x_iald C kd_101 ln_101 q_2 rfl dX6_letterAt_13 ?_
    refine x_goto (tgt := 18) C dX6_letterAt_14 (by decide) ?_
    obtain ⟨rfl, rfl⟩ := rt hM
    exact x_iret C hR rfl dX6_letterAt_18
theorem c_X6_letterAt (l : Launch) (g : Gx) (x1 : Int32) (w : Wd) {rr : Int32} {wr : Wd} (hM : f_X6_letterAt x1 w = some (rr, wr)) : MetM l yX6_letterAt cX6_letterAt 2 (some .int) rm_X6_letterAt g [.ref (ad g 92), .int x1] w (some (.int rr)) wr := by
  refine met_of (by decide) (Nat.le_of_ble_eq_true rfl) (fun E hl C hR => ?_)
  refine x_sub (L' := [(0, .ref (ad g 92)), (1, .int x1)]) [0, 1] rfl ?_
  exact o_X6_letterAt_b0 C hR x1 w hM
abbrev rm_X6_isFigure : Room := { frames := 1, cells := 0, slots := 0, locals := 22 }
set_option maxHeartbeats 1000000 in
set_option maxRecDepth 20000 in
theorem o_X6_isFigure_b0 {E : Ex} {g : Gx} (C : Ctx E RX6 cX6_isFigure rm_X6_isFigure 1 g) {rr : Int32} {wr : Wd} (hR : Rets E g (some .boolean) (some (.int rr)) wr) (x0 : Int32) (w : Wd) (hM : f_X6_isFigure_b0 x0 w = some (rr, wr)) : Xx E 1 g 0 [(0, .int x0)] [] w := by
  unfold f_X6_isFigure_b0 at hM
  refine x_iload_n C dX6_isFigure_0 0 rfl rfl ?_
  refine x_bipush (v := 48) C dX6_isFigure_1 (by decide) ?_
  refine x_bipush (v := 57) C dX6_isFigure_3 (by decide) ?_
  obtain ⟨r_2, w_1, h_3, hM⟩ := cl hM
  refine x_callS (As := [.int x0, .int (48 : Int32), .int (57 : Int32)]) C (c_X6_in E.l g x0 (48 : Int32) (57 : Int32) w h_3) k_X6_in gw_813 rfl rfl ⟨Nat.le_of_ble_eq_true rfl, Nat.le_of_ble_eq_true rfl⟩ rfl rfl (Nat.le_of_ble_eq_true rfl) dX6_isFigure_5 ?_
  obtain ⟨q_4, hM⟩ := gd hM
  obtain ⟨rfl, rfl⟩ := rt hM
  exact x_zret C hR (nb_n q_4) rfl dX6_isFigure_8
theorem c_X6_isFigure (l : Launch) (g : Gx) (x0 : Int32) (w : Wd) {rr : Int32} {wr : Wd} (hM : f_X6_isFigure x0 w = some (rr, wr)) : MetM l yX6_isFigure cX6_isFigure 1 (some .boolean) rm_X6_isFigure g [.int x0] w (some (.int rr)) wr := by
  refine met_of (by decide) (Nat.le_of_ble_eq_true rfl) (fun E hl C hR => ?_)
  refine x_sub (L' := [(0, .int x0)]) [0] rfl ?_
  exact o_X6_isFigure_b0 C hR x0 w hM
abbrev rm_X6_next : Room := { frames := 2, cells := 0, slots := 0, locals := 42 }
set_option maxHeartbeats 1000000 in
set_option maxRecDepth 20000 in
theorem o_X6_next_h67 {E : Ex} {g : Gx} (C : Ctx E RX6 cX6_next rm_X6_next 2 g) {rr : Unit} {wr : Wd} (hR : Rets E g none none wr) {kh67 : (Int32 → Wd → Option (Unit × Wd))} (Hh67 : ∀ (x1 : Int32) (w : Wd), kh67 x1 w = some (rr, wr) → Xx E 2 g 67 [(0, .ref (ad g 92)), (1, .int x1)] [] w) (x1 : Int32) (w : Wd) (hM : f_X6_next_h67 kh67 x1 w = some (rr, wr)) : Xx E 2 g 67 [(0, .ref (ad g 92)), (1, .int x1)] [] w := by
  unfold f_X6_next_h67 at hM
  refine x_aload_n C dX6_next_67 0 rfl rfl ?_
  refine x_aload_n C dX6_next_68 0 rfl rfl ?_
  refine xg_6_17 C kd_92 gw_731 dX6_next_69 ?_
  obtain ⟨r_2, w_1, h_3, hM⟩ := cl hM
  refine x_callV (As := [.int (wget w 92 17)]) C (c_X6_letterAt E.l g (wget w 92 17) w h_3) k_X6_letterAt kd_92 (by decide) rfl rfl gw_828 rfl rfl ⟨Nat.le_of_ble_eq_true rfl, Nat.le_of_ble_eq_true rfl⟩ rfl rfl (Nat.le_of_ble_eq_true rfl) dX6_next_72 ?_
  obtain ⟨r_5, w_4, h_6, hM⟩ := cl hM
  refine x_callS (As := [.int r_2]) C (c_X6_isFigure E.l g r_2 w_1 h_6) k_X6_isFigure gw_832 rfl rfl ⟨Nat.le_of_ble_eq_true rfl, Nat.le_of_ble_eq_true rfl⟩ rfl rfl (Nat.le_of_ble_eq_true rfl) dX6_next_75 ?_
  refine x_if_eq (tgt := 133) C dX6_next_78 (by decide) (fun c_7 => ?_) (fun c_7 => ?_)
  · have hM := ip c_7 hM
    refine x_aload_n C dX6_next_133 0 rfl rfl ?_
    refine x_aload_n C dX6_next_134 0 rfl rfl ?_
    refine xg_6_20 C kd_92 gw_734 dX6_next_135 ?_
    refine x_bipush (v := 99) C dX6_next_138 (by decide) ?_
    refine x_icmp_gt (tgt := 162) C dX6_next_140 (by decide) (fun c_8 => ?_) (fun c_8 => ?_)
    · have hM := ip c_8 hM
      refine x_iconst (v := 4) C dX6_next_162 (by decide) ?_
      refine x_goto (tgt := 167) C dX6_next_163 (by decide) ?_
      obtain ⟨w_9, e_10, hM⟩ := bd hM
      refine xp_6_19 C kd_92 gw_733 dX6_next_167 ?_
      refine x_w e_10 ?_
      refine x_goto (tgt := 231) C dX6_next_170 (by decide) ?_
      obtain ⟨rfl, rfl⟩ := rt hM
      exact x_vret C hR rfl dX6_next_231
    · have hM := iq c_8 hM
      refine x_iload_n C dX6_next_143 1 rfl rfl ?_
      refine x_bipush (v := 48) C dX6_next_144 (by decide) ?_
      refine x_icmp_ne (tgt := 166) C dX6_next_146 (by decide) (fun c_11 => ?_) (fun c_11 => ?_)
      · have hM := iq c_11 hM
        refine x_iconst (v := 2) C dX6_next_166 (by decide) ?_
        obtain ⟨w_12, e_13, hM⟩ := bd hM
        refine xp_6_19 C kd_92 gw_733 dX6_next_167 ?_
        refine x_w e_13 ?_
        refine x_goto (tgt := 231) C dX6_next_170 (by decide) ?_
        obtain ⟨rfl, rfl⟩ := rt hM
        exact x_vret C hR rfl dX6_next_231
      · have hM := ip c_11 hM
        refine x_aload_n C dX6_next_149 0 rfl rfl ?_
        refine xg_6_17 C kd_92 gw_731 dX6_next_150 ?_
        refine x_aload_n C dX6_next_153 0 rfl rfl ?_
        refine xg_6_18 C kd_92 gw_732 dX6_next_154 ?_
        refine x_isub C dX6_next_157 ?_
        refine x_iconst (v := 1) C dX6_next_158 (by decide) ?_
        refine x_icmp_le (tgt := 166) C dX6_next_159 (by decide) (fun c_14 => ?_) (fun c_14 => ?_)
        · have hM := ip c_14 hM
          refine x_iconst (v := 2) C dX6_next_166 (by decide) ?_
          obtain ⟨w_15, e_16, hM⟩ := bd hM
          refine xp_6_19 C kd_92 gw_733 dX6_next_167 ?_
          refine x_w e_16 ?_
          refine x_goto (tgt := 231) C dX6_next_170 (by decide) ?_
          obtain ⟨rfl, rfl⟩ := rt hM
          exact x_vret C hR rfl dX6_next_231
        · have hM := iq c_14 hM
          refine x_iconst (v := 4) C dX6_next_162 (by decide) ?_
          refine x_goto (tgt := 167) C dX6_next_163 (by decide) ?_
          obtain ⟨w_17, e_18, hM⟩ := bd hM
          refine xp_6_19 C kd_92 gw_733 dX6_next_167 ?_
          refine x_w e_18 ?_
          refine x_goto (tgt := 231) C dX6_next_170 (by decide) ?_
          obtain ⟨rfl, rfl⟩ := rt hM
          exact x_vret C hR rfl dX6_next_231
  · have hM := iq c_7 hM
    refine x_aload_n C dX6_next_81 0 rfl rfl ?_
    refine x_aload_n C dX6_next_82 0 rfl rfl ?_
    refine xg_6_20 C kd_92 gw_734 dX6_next_83 ?_
    refine x_bipush (v := 99) C dX6_next_86 (by decide) ?_
    refine x_icmp_le (tgt := 98) C dX6_next_88 (by decide) (fun c_19 => ?_) (fun c_19 => ?_)
    · have hM := ip c_19 hM
      refine x_bipush (v := 10) C dX6_next_98 (by decide) ?_
      refine x_aload_n C dX6_next_100 0 rfl rfl ?_
      refine xg_6_20 C kd_92 gw_734 dX6_next_101 ?_
      refine x_imul C dX6_next_104 ?_
      refine x_aload_n C dX6_next_105 0 rfl rfl ?_
      refine x_aload_n C dX6_next_106 0 rfl rfl ?_
      refine xg_6_17 C kd_92 gw_731 dX6_next_107 ?_
      obtain ⟨r_21, w_20, h_22, hM⟩ := cl hM
      refine x_callV (As := [.int (wget w_4 92 17)]) C (c_X6_letterAt E.l g (wget w_4 92 17) w_4 h_22) k_X6_letterAt kd_92 (by decide) rfl rfl gw_828 rfl rfl ⟨Nat.le_of_ble_eq_true rfl, Nat.le_of_ble_eq_true rfl⟩ rfl rfl (Nat.le_of_ble_eq_true rfl) dX6_next_110 ?_
      refine x_iadd C dX6_next_113 ?_
      refine x_bipush (v := 48) C dX6_next_114 (by decide) ?_
      refine x_isub C dX6_next_116 ?_
      obtain ⟨w_23, e_24, hM⟩ := bd hM
      refine xp_6_20 C kd_92 gw_734 dX6_next_117 ?_
      refine x_w e_24 ?_
      refine x_aload_n C dX6_next_120 0 rfl rfl ?_
      refine x_dup C dX6_next_121 rfl ?_
      refine xg_6_17 C kd_92 gw_731 dX6_next_122 ?_
      refine x_iconst (v := 1) C dX6_next_125 (by decide) ?_
      refine x_iadd C dX6_next_126 ?_
      obtain ⟨w_25, e_26, hM⟩ := bd hM
      refine xp_6_17 C kd_92 gw_731 dX6_next_127 ?_
      refine x_w e_26 ?_
      refine x_goto (tgt := 67) C dX6_next_130 (by decide) ?_
      refine x_sub (L' := [(0, .ref (ad g 92)), (1, .int x1)]) [0, 1] rfl ?_
      exact Hh67 x1 w_25 hM
    · have hM := iq c_19 hM
      refine x_aload_n C dX6_next_91 0 rfl rfl ?_
      refine xg_6_20 C kd_92 gw_734 dX6_next_92 ?_
      refine x_goto (tgt := 117) C dX6_next_95 (by decide) ?_
      obtain ⟨w_27, e_28, hM⟩ := bd hM
      refine xp_6_20 C kd_92 gw_734 dX6_next_117 ?_
      refine x_w e_28 ?_
      refine x_aload_n C dX6_next_120 0 rfl rfl ?_
      refine x_dup C dX6_next_121 rfl ?_
      refine xg_6_17 C kd_92 gw_731 dX6_next_122 ?_
      refine x_iconst (v := 1) C dX6_next_125 (by decide) ?_
      refine x_iadd C dX6_next_126 ?_
      obtain ⟨w_29, e_30, hM⟩ := bd hM
      refine xp_6_17 C kd_92 gw_731 dX6_next_127 ?_
      refine x_w e_30 ?_
      refine x_goto (tgt := 67) C dX6_next_130 (by decide) ?_
      refine x_sub (L' := [(0, .ref (ad g 92)), (1, .int x1)]) [0, 1] rfl ?_
      exact Hh67 x1 w_29 hM
theorem o_X6_next_l67 {E : Ex} {g : Gx} (C : Ctx E RX6 cX6_next rm_X6_next 2 g) {rr : Unit} {wr : Wd} (hR : Rets E g none none wr) : ∀ (n : Nat) (x1 : Int32) (w : Wd), f_X6_next_l67 n x1 w = some (rr, wr) → Xx E 2 g 67 [(0, .ref (ad g 92)), (1, .int x1)] [] w := by
  intro n
  induction n with
  | zero =>
    intro x1 w hM
    rw [f_X6_next_l67] at hM
    cases hM
  | succ n ih =>
    intro x1 w hM
    rw [f_X6_next_l67] at hM
    exact o_X6_next_h67 C hR ih x1 w hM
set_option maxHeartbeats 1000000 in
set_option maxRecDepth 20000 in
theorem o_X6_next_h0 {E : Ex} {g : Gx} (C : Ctx E RX6 cX6_next rm_X6_next 2 g) {rr : Unit} {wr : Wd} (hR : Rets E g none none wr) {kh0 : (Wd → Option (Unit × Wd))} (Hh0 : ∀ (w : Wd), kh0 w = some (rr, wr) → Xx E 2 g 0 [(0, .ref (ad g 92))] [] w) (w : Wd) (hM : f_X6_next_h0 kh0 w = some (rr, wr)) : Xx E 2 g 0 [(0, .ref (ad g 92))] [] w := by
  unfold f_X6_next_h0 at hM
  refine x_aload_n C dX6_next_0 0 rfl rfl ?_
  refine x_aload_n C dX6_next_1 0 rfl rfl ?_
  refine xg_6_17 C kd_92 gw_731 dX6_next_2 ?_
  obtain ⟨r_2, w_1, h_3, hM⟩ := cl hM
  refine x_callV (As := [.int (wget w 92 17)]) C (c_X6_letterAt E.l g (wget w 92 17) w h_3) k_X6_letterAt kd_92 (by decide) rfl rfl gw_828 rfl rfl ⟨Nat.le_of_ble_eq_true rfl, Nat.le_of_ble_eq_true rfl⟩ rfl rfl (Nat.le_of_ble_eq_true rfl) dX6_next_5 ?_
  refine x_bipush (v := 32) C dX6_next_8 (by decide) ?_
  refine x_icmp_ne (tgt := 26) C dX6_next_10 (by decide) (fun c_4 => ?_) (fun c_4 => ?_)
  · have hM := iq c_4 hM
    refine x_aload_n C dX6_next_26 0 rfl rfl ?_
    refine x_aload_n C dX6_next_27 0 rfl rfl ?_
    refine xg_6_17 C kd_92 gw_731 dX6_next_28 ?_
    obtain ⟨w_5, e_6, hM⟩ := bd hM
    refine xp_6_18 C kd_92 gw_732 dX6_next_31 ?_
    refine x_w e_6 ?_
    refine x_aload_n C dX6_next_34 0 rfl rfl ?_
    refine x_aload_n C dX6_next_35 0 rfl rfl ?_
    refine xg_6_17 C kd_92 gw_731 dX6_next_36 ?_
    obtain ⟨r_8, w_7, h_9, hM⟩ := cl hM
    refine x_callV (As := [.int (wget w_5 92 17)]) C (c_X6_letterAt E.l g (wget w_5 92 17) w_5 h_9) k_X6_letterAt kd_92 (by decide) rfl rfl gw_828 rfl rfl ⟨Nat.le_of_ble_eq_true rfl, Nat.le_of_ble_eq_true rfl⟩ rfl rfl (Nat.le_of_ble_eq_true rfl) dX6_next_39 ?_
    obtain ⟨x1_10, e_11, hM⟩ := bd hM
    refine x_top e_11 ?_
    refine x_istore_n (L' := [(1, .int x1_10), (0, .ref (ad g 92))]) C dX6_next_42 rfl (by decide) rfl ?_
    refine x_aload_n C dX6_next_43 1 rfl rfl ?_
    refine x_iconst (v := 0) C dX6_next_44 (by decide) ?_
    obtain ⟨w_12, e_13, hM⟩ := bd hM
    refine xp_6_20 C kd_92 gw_734 dX6_next_45 ?_
    refine x_w e_13 ?_
    refine x_iload_n C dX6_next_48 0 rfl rfl ?_
    refine x_if_ge (tgt := 60) C dX6_next_49 (by decide) (fun c_14 => ?_) (fun c_14 => ?_)
    · have hM := ip c_14 hM
      refine x_iload_n C dX6_next_60 0 rfl rfl ?_
      obtain ⟨r_16, w_15, h_17, hM⟩ := cl hM
      refine x_callS (As := [.int x1_10]) C (c_X6_isFigure E.l g x1_10 w_12 h_17) k_X6_isFigure gw_832 rfl rfl ⟨Nat.le_of_ble_eq_true rfl, Nat.le_of_ble_eq_true rfl⟩ rfl rfl (Nat.le_of_ble_eq_true rfl) dX6_next_61 ?_
      refine x_if_eq (tgt := 173) C dX6_next_64 (by decide) (fun c_18 => ?_) (fun c_18 => ?_)
      · have hM := ip c_18 hM
        refine x_aload_n C dX6_next_173 1 rfl rfl ?_
        refine x_iload_n C dX6_next_174 0 rfl rfl ?_
        refine x_bipush (v := 100) C dX6_next_175 (by decide) ?_
        refine x_icmp_eq (tgt := 198) C dX6_next_177 (by decide) (fun c_19 => ?_) (fun c_19 => ?_)
        · have hM := ip c_19 hM
          refine x_iconst (v := 1) C dX6_next_198 (by decide) ?_
          refine x_goto (tgt := 213) C dX6_next_199 (by decide) ?_
          obtain ⟨w_20, e_21, hM⟩ := bd hM
          refine xp_6_19 C kd_92 gw_733 dX6_next_213 ?_
          refine x_w e_21 ?_
          refine x_aload_n C dX6_next_216 1 rfl rfl ?_
          refine x_iload_n C dX6_next_217 0 rfl rfl ?_
          obtain ⟨w_22, e_23, hM⟩ := bd hM
          refine xp_6_20 C kd_92 gw_734 dX6_next_218 ?_
          refine x_w e_23 ?_
          refine x_aload_n C dX6_next_221 1 rfl rfl ?_
          refine x_dup C dX6_next_222 rfl ?_
          refine xg_6_17 C kd_92 gw_731 dX6_next_223 ?_
          refine x_iconst (v := 1) C dX6_next_226 (by decide) ?_
          refine x_iadd C dX6_next_227 ?_
          obtain ⟨w_24, e_25, hM⟩ := bd hM
          refine xp_6_17 C kd_92 gw_731 dX6_next_228 ?_
          refine x_w e_25 ?_
          obtain ⟨rfl, rfl⟩ := rt hM
          exact x_vret C hR rfl dX6_next_231
        · have hM := iq c_19 hM
          refine x_iload_n C dX6_next_180 0 rfl rfl ?_
          refine x_bipush (v := 104) C dX6_next_181 (by decide) ?_
          refine x_icmp_eq (tgt := 198) C dX6_next_183 (by decide) (fun c_26 => ?_) (fun c_26 => ?_)
          · have hM := ip c_26 hM
            refine x_iconst (v := 1) C dX6_next_198 (by decide) ?_
            refine x_goto (tgt := 213) C dX6_next_199 (by decide) ?_
            obtain ⟨w_27, e_28, hM⟩ := bd hM
            refine xp_6_19 C kd_92 gw_733 dX6_next_213 ?_
            refine x_w e_28 ?_
            refine x_aload_n C dX6_next_216 1 rfl rfl ?_
            refine x_iload_n C dX6_next_217 0 rfl rfl ?_
            obtain ⟨w_29, e_30, hM⟩ := bd hM
            refine xp_6_20 C kd_92 gw_734 dX6_next_218 ?_
            refine x_w e_30 ?_
            refine x_aload_n C dX6_next_221 1 rfl rfl ?_
            refine x_dup C dX6_next_222 rfl ?_
            refine xg_6_17 C kd_92 gw_731 dX6_next_223 ?_
            refine x_iconst (v := 1) C dX6_next_226 (by decide) ?_
            refine x_iadd C dX6_next_227 ?_
            obtain ⟨w_31, e_32, hM⟩ := bd hM
            refine xp_6_17 C kd_92 gw_731 dX6_next_228 ?_
            refine x_w e_32 ?_
            obtain ⟨rfl, rfl⟩ := rt hM
            exact x_vret C hR rfl dX6_next_231
          · have hM := iq c_26 hM
            refine x_iload_n C dX6_next_186 0 rfl rfl ?_
            refine x_bipush (v := 103) C dX6_next_187 (by decide) ?_
            refine x_icmp_eq (tgt := 198) C dX6_next_189 (by decide) (fun c_33 => ?_) (fun c_33 => ?_)
            · have hM := ip c_33 hM
              refine x_iconst (v := 1) C dX6_next_198 (by decide) ?_
              refine x_goto (tgt := 213) C dX6_next_199 (by decide) ?_
              obtain ⟨w_34, e_35, hM⟩ := bd hM
              refine xp_6_19 C kd_92 gw_733 dX6_next_213 ?_
              refine x_w e_35 ?_
              refine x_aload_n C dX6_next_216 1 rfl rfl ?_
              refine x_iload_n C dX6_next_217 0 rfl rfl ?_
              obtain ⟨w_36, e_37, hM⟩ := bd hM
              refine xp_6_20 C kd_92 gw_734 dX6_next_218 ?_
              refine x_w e_37 ?_
              refine x_aload_n C dX6_next_221 1 rfl rfl ?_
              refine x_dup C dX6_next_222 rfl ?_
              refine xg_6_17 C kd_92 gw_731 dX6_next_223 ?_
              refine x_iconst (v := 1) C dX6_next_226 (by decide) ?_
              refine x_iadd C dX6_next_227 ?_
              obtain ⟨w_38, e_39, hM⟩ := bd hM
              refine xp_6_17 C kd_92 gw_731 dX6_next_228 ?_
              refine x_w e_39 ?_
              obtain ⟨rfl, rfl⟩ := rt hM
              exact x_vret C hR rfl dX6_next_231
            · have hM := iq c_33 hM
              refine x_iload_n C dX6_next_192 0 rfl rfl ?_
              refine x_bipush (v := 114) C dX6_next_193 (by decide) ?_
              refine x_icmp_ne (tgt := 202) C dX6_next_195 (by decide) (fun c_40 => ?_) (fun c_40 => ?_)
              · have hM := iq c_40 hM
                refine x_iload_n C dX6_next_202 0 rfl rfl ?_
                refine x_bipush (v := 59) C dX6_next_203 (by decide) ?_
                refine x_icmp_ne (tgt := 212) C dX6_next_205 (by decide) (fun c_41 => ?_) (fun c_41 => ?_)
                · have hM := iq c_41 hM
                  refine x_iconst (v := 4) C dX6_next_212 (by decide) ?_
                  obtain ⟨w_42, e_43, hM⟩ := bd hM
                  refine xp_6_19 C kd_92 gw_733 dX6_next_213 ?_
                  refine x_w e_43 ?_
                  refine x_aload_n C dX6_next_216 1 rfl rfl ?_
                  refine x_iload_n C dX6_next_217 0 rfl rfl ?_
                  obtain ⟨w_44, e_45, hM⟩ := bd hM
                  refine xp_6_20 C kd_92 gw_734 dX6_next_218 ?_
                  refine x_w e_45 ?_
                  refine x_aload_n C dX6_next_221 1 rfl rfl ?_
                  refine x_dup C dX6_next_222 rfl ?_
                  refine xg_6_17 C kd_92 gw_731 dX6_next_223 ?_
                  refine x_iconst (v := 1) C dX6_next_226 (by decide) ?_
                  refine x_iadd C dX6_next_227 ?_
                  obtain ⟨w_46, e_47, hM⟩ := bd hM
                  refine xp_6_17 C kd_92 gw_731 dX6_next_228 ?_
                  refine x_w e_47 ?_
                  obtain ⟨rfl, rfl⟩ := rt hM
                  exact x_vret C hR rfl dX6_next_231
                · have hM := ip c_41 hM
                  refine x_iconst (v := 3) C dX6_next_208 (by decide) ?_
                  refine x_goto (tgt := 213) C dX6_next_209 (by decide) ?_
                  obtain ⟨w_48, e_49, hM⟩ := bd hM
                  refine xp_6_19 C kd_92 gw_733 dX6_next_213 ?_
                  refine x_w e_49 ?_
                  refine x_aload_n C dX6_next_216 1 rfl rfl ?_
                  refine x_iload_n C dX6_next_217 0 rfl rfl ?_
                  obtain ⟨w_50, e_51, hM⟩ := bd hM
                  refine xp_6_20 C kd_92 gw_734 dX6_next_218 ?_
                  refine x_w e_51 ?_
                  refine x_aload_n C dX6_next_221 1 rfl rfl ?_
                  refine x_dup C dX6_next_222 rfl ?_
                  refine xg_6_17 C kd_92 gw_731 dX6_next_223 ?_
                  refine x_iconst (v := 1) C dX6_next_226 (by decide) ?_
                  refine x_iadd C dX6_next_227 ?_
                  obtain ⟨w_52, e_53, hM⟩ := bd hM
                  refine xp_6_17 C kd_92 gw_731 dX6_next_228 ?_
                  refine x_w e_53 ?_
                  obtain ⟨rfl, rfl⟩ := rt hM
                  exact x_vret C hR rfl dX6_next_231
              · have hM := ip c_40 hM
                refine x_iconst (v := 1) C dX6_next_198 (by decide) ?_
                refine x_goto (tgt := 213) C dX6_next_199 (by decide) ?_
                obtain ⟨w_54, e_55, hM⟩ := bd hM
                refine xp_6_19 C kd_92 gw_733 dX6_next_213 ?_
                refine x_w e_55 ?_
                refine x_aload_n C dX6_next_216 1 rfl rfl ?_
                refine x_iload_n C dX6_next_217 0 rfl rfl ?_
                obtain ⟨w_56, e_57, hM⟩ := bd hM
                refine xp_6_20 C kd_92 gw_734 dX6_next_218 ?_
                refine x_w e_57 ?_
                refine x_aload_n C dX6_next_221 1 rfl rfl ?_
                refine x_dup C dX6_next_222 rfl ?_
                refine xg_6_17 C kd_92 gw_731 dX6_next_223 ?_
                refine x_iconst (v := 1) C dX6_next_226 (by decide) ?_
                refine x_iadd C dX6_next_227 ?_
                obtain ⟨w_58, e_59, hM⟩ := bd hM
                refine xp_6_17 C kd_92 gw_731 dX6_next_228 ?_
                refine x_w e_59 ?_
                obtain ⟨rfl, rfl⟩ := rt hM
                exact x_vret C hR rfl dX6_next_231
      · have hM := iq c_18 hM
        refine x_sub (L' := [(0, .ref (ad g 92)), (1, .int x1_10)]) [1, 0] rfl ?_
        exact o_X6_next_l67 C hR 300 x1_10 w_15 hM
    · have hM := iq c_14 hM
      refine x_aload_n C dX6_next_52 1 rfl rfl ?_
      refine x_iconst (v := 0) C dX6_next_53 (by decide) ?_
      obtain ⟨w_60, e_61, hM⟩ := bd hM
      refine xp_6_19 C kd_92 gw_733 dX6_next_54 ?_
      refine x_w e_61 ?_
      refine x_goto (tgt := 231) C dX6_next_57 (by decide) ?_
      obtain ⟨rfl, rfl⟩ := rt hM
      exact x_vret C hR rfl dX6_next_231
  · have hM := ip c_4 hM
    refine x_aload_n C dX6_next_13 0 rfl rfl ?_
    refine x_dup C dX6_next_14 rfl ?_
    refine xg_6_17 C kd_92 gw_731 dX6_next_15 ?_
    refine x_iconst (v := 1) C dX6_next_18 (by decide) ?_
    refine x_iadd C dX6_next_19 ?_
    obtain ⟨w_62, e_63, hM⟩ := bd hM
    refine xp_6_17 C kd_92 gw_731 dX6_next_20 ?_
    refine x_w e_63 ?_
    refine x_goto (tgt := 0) C dX6_next_23 (by decide) ?_
    refine x_sub (L' := [(0, .ref (ad g 92))]) [0] rfl ?_
    exact Hh0 w_62 hM
theorem o_X6_next_l0 {E : Ex} {g : Gx} (C : Ctx E RX6 cX6_next rm_X6_next 2 g) {rr : Unit} {wr : Wd} (hR : Rets E g none none wr) : ∀ (n : Nat) (w : Wd), f_X6_next_l0 n w = some (rr, wr) → Xx E 2 g 0 [(0, .ref (ad g 92))] [] w := by
  intro n
  induction n with
  | zero =>
    intro w hM
    rw [f_X6_next_l0] at hM
    cases hM
  | succ n ih =>
    intro w hM
    rw [f_X6_next_l0] at hM
    exact o_X6_next_h0 C hR ih w hM
theorem c_X6_next (l : Launch) (g : Gx) (w : Wd) {rr : Unit} {wr : Wd} (hM : f_X6_next w = some (rr, wr)) : MetM l yX6_next cX6_next 2 none rm_X6_next g [.ref (ad g 92)] w none wr := by
  refine met_of (by decide) (Nat.le_of_ble_eq_true rfl) (fun E hl C hR => ?_)
  refine x_sub (L' := [(0, .ref (ad g 92))]) [0] rfl ?_
  exact o_X6_next_l0 C hR 300 w hM
