abbrev rm_X6_takesNumber : Room := { frames := 3, cells := 0, slots := 0, locals := 63 }
set_option maxHeartbeats 1000000 in
set_option maxRecDepth 20000 in
theorem o_X6_takesNumber_b60 {E : Ex} {g : Gx} (C : Ctx E RX6 cX6_takesNumber rm_X6_takesNumber 5 g) {rr : Int32} {wr : Wd} (hR : Rets E g (some .int) (some (.int rr)) wr) (x3 : Int32) (x4 : Int32) (w : Wd) (hM : f_X6_takesNumber_b60 x3 x4 w = some (rr, wr)) : Xx E 5 g 60 [(3, .int x3), (4, .int x4)] [] w := by
  unfold f_X6_takesNumber_b60 at hM
  refine x_iload_n C dX6_takesNumber_60 0 rfl rfl ?_
  refine x_if_eq (tgt := 69) C dX6_takesNumber_61 (by decide) (fun c_1 => ?_) (fun c_1 => ?_)
  · have hM := ip c_1 hM
    refine x_iconst (v := 0) C dX6_takesNumber_69 (by decide) ?_
    obtain ⟨rfl, rfl⟩ := rt hM
    exact x_iret C hR rfl dX6_takesNumber_70
  · have hM := iq c_1 hM
    refine x_iload C dX6_takesNumber_64 1 rfl ?_
    refine x_goto (tgt := 70) C dX6_takesNumber_66 (by decide) ?_
    obtain ⟨rfl, rfl⟩ := rt hM
    exact x_iret C hR rfl dX6_takesNumber_70
set_option maxHeartbeats 1000000 in
set_option maxRecDepth 20000 in
theorem o_X6_takesNumber_b31 {E : Ex} {g : Gx} (C : Ctx E RX6 cX6_takesNumber rm_X6_takesNumber 5 g) {rr : Int32} {wr : Wd} (hR : Rets E g (some .int) (some (.int rr)) wr) (w : Wd) (hM : f_X6_takesNumber_b31 w = some (rr, wr)) : Xx E 5 g 31 [(0, .ref (ad g 92))] [] w := by
  unfold f_X6_takesNumber_b31 at hM
  refine x_iconst (v := 0) C dX6_takesNumber_31 (by decide) ?_
  obtain ⟨x3_1, e_2, hM⟩ := bd hM
  refine x_top e_2 ?_
  refine x_istore_n (L' := [(3, .int x3_1), (0, .ref (ad g 92))]) C dX6_takesNumber_32 rfl (by decide) rfl ?_
  refine x_aload_n C dX6_takesNumber_33 1 rfl rfl ?_
  refine x_iload_n C dX6_takesNumber_34 0 rfl rfl ?_
  refine x_if_ne (tgt := 42) C dX6_takesNumber_35 (by decide) (fun c_3 => ?_) (fun c_3 => ?_)
  · have hM := iq c_3 hM
    refine x_iconst (v := 0) C dX6_takesNumber_42 (by decide) ?_
    obtain ⟨w_4, e_5, hM⟩ := bd hM
    refine xp_6_21 C kd_92 (by decide) gw_735 dX6_takesNumber_43 ?_
    refine x_w e_5 ?_
    refine x_aload_n C dX6_takesNumber_46 1 rfl rfl ?_
    refine xg_6_20 C kd_92 gw_734 dX6_takesNumber_47 ?_
    obtain ⟨x4_6, e_7, hM⟩ := bd hM
    refine x_top e_7 ?_
    refine x_istore (L' := [(4, .int x4_6), (3, .int x3_1), (0, .ref (ad g 92))]) C dX6_takesNumber_50 (by decide) rfl ?_
    refine x_iload_n C dX6_takesNumber_52 1 rfl rfl ?_
    refine x_if_eq (tgt := 60) C dX6_takesNumber_53 (by decide) (fun c_8 => ?_) (fun c_8 => ?_)
    · have hM := ip c_8 hM
      refine x_sub (L' := [(3, .int x3_1), (4, .int x4_6)]) [1, 0] rfl ?_
      exact o_X6_takesNumber_b60 C hR x3_1 x4_6 w_4 hM
    · have hM := iq c_8 hM
      refine x_aload_n C dX6_takesNumber_56 2 rfl rfl ?_
      obtain ⟨r_10, w_9, h_11, hM⟩ := cl hM
      refine x_callVv (As := []) C (c_X6_next E.l g  w_4 h_11) k_X6_next kd_92 (by decide) rfl rfl gw_824 rfl rfl ⟨Nat.le_of_ble_eq_true rfl, Nat.le_of_ble_eq_true rfl⟩ rfl rfl (Nat.le_of_ble_eq_true rfl) dX6_takesNumber_57 ?_
      refine x_sub (L' := [(3, .int x3_1), (4, .int x4_6)]) [1, 0] rfl ?_
      exact o_X6_takesNumber_b60 C hR x3_1 x4_6 w_9 hM
  · have hM := ip c_3 hM
    refine x_iconst (v := 1) C dX6_takesNumber_38 (by decide) ?_
    refine x_goto (tgt := 43) C dX6_takesNumber_39 (by decide) ?_
    obtain ⟨w_12, e_13, hM⟩ := bd hM
    refine xp_6_21 C kd_92 (by decide) gw_735 dX6_takesNumber_43 ?_
    refine x_w e_13 ?_
    refine x_aload_n C dX6_takesNumber_46 1 rfl rfl ?_
    refine xg_6_20 C kd_92 gw_734 dX6_takesNumber_47 ?_
    obtain ⟨x4_14, e_15, hM⟩ := bd hM
    refine x_top e_15 ?_
    refine x_istore (L' := [(4, .int x4_14), (3, .int x3_1), (0, .ref (ad g 92))]) C dX6_takesNumber_50 (by decide) rfl ?_
    refine x_iload_n C dX6_takesNumber_52 1 rfl rfl ?_
    refine x_if_eq (tgt := 60) C dX6_takesNumber_53 (by decide) (fun c_16 => ?_) (fun c_16 => ?_)
    · have hM := ip c_16 hM
      refine x_sub (L' := [(3, .int x3_1), (4, .int x4_14)]) [1, 0] rfl ?_
      exact o_X6_takesNumber_b60 C hR x3_1 x4_14 w_12 hM
    · have hM := iq c_16 hM
      refine x_aload_n C dX6_takesNumber_56 2 rfl rfl ?_
      obtain ⟨r_18, w_17, h_19, hM⟩ := cl hM
      refine x_callVv (As := []) C (c_X6_next E.l g  w_12 h_19) k_X6_next kd_92 (by decide) rfl rfl gw_824 rfl rfl ⟨Nat.le_of_ble_eq_true rfl, Nat.le_of_ble_eq_true rfl⟩ rfl rfl (Nat.le_of_ble_eq_true rfl) dX6_takesNumber_57 ?_
      refine x_sub (L' := [(3, .int x3_1), (4, .int x4_14)]) [1, 0] rfl ?_
      exact o_X6_takesNumber_b60 C hR x3_1 x4_14 w_17 hM
set_option maxHeartbeats 1000000 in
set_option maxRecDepth 20000 in
theorem o_X6_takesNumber_b0 {E : Ex} {g : Gx} (C : Ctx E RX6 cX6_takesNumber rm_X6_takesNumber 5 g) {rr : Int32} {wr : Wd} (hR : Rets E g (some .int) (some (.int rr)) wr) (x1 : Int32) (x2 : Int32) (w : Wd) (hM : f_X6_takesNumber_b0 x1 x2 w = some (rr, wr)) : Xx E 5 g 0 [(0, .ref (ad g 92)), (1, .int x1), (2, .int x2)] [] w := by
  unfold f_X6_takesNumber_b0 at hM
  refine x_aload_n C dX6_takesNumber_0 0 rfl rfl ?_
  refine xg_6_21 C kd_92 gw_735 dX6_takesNumber_1 ?_
  refine x_if_ne (tgt := 31) C dX6_takesNumber_4 (by decide) (fun c_1 => ?_) (fun c_1 => ?_)
  · have hM := iq c_1 hM
    refine x_sub (L' := [(0, .ref (ad g 92))]) [0] rfl ?_
    exact o_X6_takesNumber_b31 C hR w hM
  · have hM := ip c_1 hM
    refine x_aload_n C dX6_takesNumber_7 0 rfl rfl ?_
    refine xg_6_19 C kd_92 gw_733 dX6_takesNumber_8 ?_
    refine x_iconst (v := 2) C dX6_takesNumber_11 (by decide) ?_
    refine x_icmp_ne (tgt := 31) C dX6_takesNumber_12 (by decide) (fun c_2 => ?_) (fun c_2 => ?_)
    · have hM := iq c_2 hM
      refine x_sub (L' := [(0, .ref (ad g 92))]) [0] rfl ?_
      exact o_X6_takesNumber_b31 C hR w hM
    · have hM := ip c_2 hM
      refine x_aload_n C dX6_takesNumber_15 0 rfl rfl ?_
      refine xg_6_20 C kd_92 gw_734 dX6_takesNumber_16 ?_
      refine x_iload_n C dX6_takesNumber_19 1 rfl rfl ?_
      refine x_iload_n C dX6_takesNumber_20 2 rfl rfl ?_
      obtain ⟨r_4, w_3, h_5, hM⟩ := cl hM
      refine x_callS (As := [.int (wget w 92 20), .int x1, .int x2]) C (c_X6_in E.l g (wget w 92 20) x1 x2 w h_5) k_X6_in gw_813 rfl rfl ⟨Nat.le_of_ble_eq_true rfl, Nat.le_of_ble_eq_true rfl⟩ rfl rfl (Nat.le_of_ble_eq_true rfl) dX6_takesNumber_21 ?_
      refine x_if_eq (tgt := 31) C dX6_takesNumber_24 (by decide) (fun c_6 => ?_) (fun c_6 => ?_)
      · have hM := ip c_6 hM
        refine x_sub (L' := [(0, .ref (ad g 92))]) [0] rfl ?_
        exact o_X6_takesNumber_b31 C hR w_3 hM
      · have hM := iq c_6 hM
        refine x_iconst (v := 1) C dX6_takesNumber_27 (by decide) ?_
        refine x_goto (tgt := 32) C dX6_takesNumber_28 (by decide) ?_
        obtain ⟨x3_7, e_8, hM⟩ := bd hM
        refine x_top e_8 ?_
        refine x_istore_n (L' := [(3, .int x3_7), (0, .ref (ad g 92)), (1, .int x1), (2, .int x2)]) C dX6_takesNumber_32 rfl (by decide) rfl ?_
        refine x_aload_n C dX6_takesNumber_33 1 rfl rfl ?_
        refine x_iload_n C dX6_takesNumber_34 0 rfl rfl ?_
        refine x_if_ne (tgt := 42) C dX6_takesNumber_35 (by decide) (fun c_9 => ?_) (fun c_9 => ?_)
        · have hM := iq c_9 hM
          refine x_iconst (v := 0) C dX6_takesNumber_42 (by decide) ?_
          obtain ⟨w_10, e_11, hM⟩ := bd hM
          refine xp_6_21 C kd_92 (by decide) gw_735 dX6_takesNumber_43 ?_
          refine x_w e_11 ?_
          refine x_aload_n C dX6_takesNumber_46 1 rfl rfl ?_
          refine xg_6_20 C kd_92 gw_734 dX6_takesNumber_47 ?_
          obtain ⟨x4_12, e_13, hM⟩ := bd hM
          refine x_top e_13 ?_
          refine x_istore (L' := [(4, .int x4_12), (3, .int x3_7), (0, .ref (ad g 92)), (1, .int x1), (2, .int x2)]) C dX6_takesNumber_50 (by decide) rfl ?_
          refine x_iload_n C dX6_takesNumber_52 1 rfl rfl ?_
          refine x_if_eq (tgt := 60) C dX6_takesNumber_53 (by decide) (fun c_14 => ?_) (fun c_14 => ?_)
          · have hM := ip c_14 hM
            refine x_sub (L' := [(3, .int x3_7), (4, .int x4_12)]) [1, 0] rfl ?_
            exact o_X6_takesNumber_b60 C hR x3_7 x4_12 w_10 hM
          · have hM := iq c_14 hM
            refine x_aload_n C dX6_takesNumber_56 2 rfl rfl ?_
            obtain ⟨r_16, w_15, h_17, hM⟩ := cl hM
            refine x_callVv (As := []) C (c_X6_next E.l g  w_10 h_17) k_X6_next kd_92 (by decide) rfl rfl gw_824 rfl rfl ⟨Nat.le_of_ble_eq_true rfl, Nat.le_of_ble_eq_true rfl⟩ rfl rfl (Nat.le_of_ble_eq_true rfl) dX6_takesNumber_57 ?_
            refine x_sub (L' := [(3, .int x3_7), (4, .int x4_12)]) [1, 0] rfl ?_
            exact o_X6_takesNumber_b60 C hR x3_7 x4_12 w_15 hM
        · have hM := ip c_9 hM
          refine x_iconst (v := 1) C dX6_takesNumber_38 (by decide) ?_
          refine x_goto (tgt := 43) C dX6_takesNumber_39 (by decide) ?_
          obtain ⟨w_18, e_19, hM⟩ := bd hM
          refine xp_6_21 C kd_92 (by decide) gw_735 dX6_takesNumber_43 ?_
          refine x_w e_19 ?_
          refine x_aload_n C dX6_takesNumber_46 1 rfl rfl ?_
          refine xg_6_20 C kd_92 gw_734 dX6_takesNumber_47 ?_
          obtain ⟨x4_20, e_21, hM⟩ := bd hM
          refine x_top e_21 ?_
          refine x_istore (L' := [(4, .int x4_20), (3, .int x3_7), (0, .ref (ad g 92)), (1, .int x1), (2, .int x2)]) C dX6_takesNumber_50 (by decide) rfl ?_
          refine x_iload_n C dX6_takesNumber_52 1 rfl rfl ?_
          refine x_if_eq (tgt := 60) C dX6_takesNumber_53 (by decide) (fun c_22 => ?_) (fun c_22 => ?_)
          · have hM := ip c_22 hM
            refine x_sub (L' := [(3, .int x3_7), (4, .int x4_20)]) [1, 0] rfl ?_
            exact o_X6_takesNumber_b60 C hR x3_7 x4_20 w_18 hM
          · have hM := iq c_22 hM
            refine x_aload_n C dX6_takesNumber_56 2 rfl rfl ?_
            obtain ⟨r_24, w_23, h_25, hM⟩ := cl hM
            refine x_callVv (As := []) C (c_X6_next E.l g  w_18 h_25) k_X6_next kd_92 (by decide) rfl rfl gw_824 rfl rfl ⟨Nat.le_of_ble_eq_true rfl, Nat.le_of_ble_eq_true rfl⟩ rfl rfl (Nat.le_of_ble_eq_true rfl) dX6_takesNumber_57 ?_
            refine x_sub (L' := [(3, .int x3_7), (4, .int x4_20)]) [1, 0] rfl ?_
            exact o_X6_takesNumber_b60 C hR x3_7 x4_20 w_23 hM
theorem c_X6_takesNumber (l : Launch) (g : Gx) (x1 : Int32) (x2 : Int32) (w : Wd) {rr : Int32} {wr : Wd} (hM : f_X6_takesNumber x1 x2 w = some (rr, wr)) : MetM l yX6_takesNumber cX6_takesNumber 5 (some .int) rm_X6_takesNumber g [.ref (ad g 92), .int x1, .int x2] w (some (.int rr)) wr := by
  refine met_of (by decide) (Nat.le_of_ble_eq_true rfl) (fun E hl C hR => ?_)
  refine x_sub (L' := [(0, .ref (ad g 92)), (1, .int x1), (2, .int x2)]) [0, 1, 2] rfl ?_
  exact o_X6_takesNumber_b0 C hR x1 x2 w hM
abbrev rm_X6_mayBegin : Room := { frames := 0, cells := 0, slots := 0, locals := 0 }
set_option maxHeartbeats 1000000 in
set_option maxRecDepth 20000 in
theorem o_X6_mayBegin_b0 {E : Ex} {g : Gx} (C : Ctx E RX6 cX6_mayBegin rm_X6_mayBegin 2 g) {rr : Int32} {wr : Wd} (hR : Rets E g (some .boolean) (some (.int rr)) wr) (x1 : Int32) (w : Wd) (hM : f_X6_mayBegin_b0 x1 w = some (rr, wr)) : Xx E 2 g 0 [(0, .ref (ad g 92)), (1, .int x1)] [] w := by
  unfold f_X6_mayBegin_b0 at hM
  refine x_iload_n C dX6_mayBegin_0 1 rfl rfl ?_
  by_cases c_2 : x1 = 100
  · have hM := ip c_2 hM
    refine x_tableIn (off := 35) (tgt := 36) C dX6_mayBegin_1 (by rw [c_2]; decide) (by rw [c_2]; decide) (by rw [c_2]; rfl) (by decide) ?_
    refine x_aload_n C dX6_mayBegin_36 0 rfl rfl ?_
    refine xg_6_23 C kd_92 gw_737 dX6_mayBegin_37 ?_
    refine x_bipush (v := 6) C dX6_mayBegin_40 (by decide) ?_
    refine x_icmp_ge (tgt := 49) C dX6_mayBegin_42 (by decide) (fun c_1 => ?_) (fun c_1 => ?_)
    · have hM := ip c_1 hM
      refine x_iconst (v := 0) C dX6_mayBegin_49 (by decide) ?_
      obtain ⟨rfl, rfl⟩ := rt hM
      exact x_zret C hR (by rfl) rfl dX6_mayBegin_50
    · have hM := iq c_1 hM
      refine x_iconst (v := 1) C dX6_mayBegin_45 (by decide) ?_
      refine x_goto (tgt := 50) C dX6_mayBegin_46 (by decide) ?_
      obtain ⟨rfl, rfl⟩ := rt hM
      exact x_zret C hR (by rfl) rfl dX6_mayBegin_50
  have hM := iq c_2 hM
  by_cases c_4 : x1 = 101
  · have hM := ip c_4 hM
    refine x_tableIn (off := 76) (tgt := 77) C dX6_mayBegin_1 (by rw [c_4]; decide) (by rw [c_4]; decide) (by rw [c_4]; rfl) (by decide) ?_
    refine x_aload_n C dX6_mayBegin_77 0 rfl rfl ?_
    refine xg_6_27 C kd_92 gw_741 dX6_mayBegin_78 ?_
    refine x_if_ge (tgt := 88) C dX6_mayBegin_81 (by decide) (fun c_3 => ?_) (fun c_3 => ?_)
    · have hM := ip c_3 hM
      refine x_iconst (v := 0) C dX6_mayBegin_88 (by decide) ?_
      obtain ⟨rfl, rfl⟩ := rt hM
      exact x_zret C hR (by rfl) rfl dX6_mayBegin_89
    · have hM := iq c_3 hM
      refine x_iconst (v := 1) C dX6_mayBegin_84 (by decide) ?_
      refine x_goto (tgt := 89) C dX6_mayBegin_85 (by decide) ?_
      obtain ⟨rfl, rfl⟩ := rt hM
      exact x_zret C hR (by rfl) rfl dX6_mayBegin_89
  have hM := iq c_4 hM
  by_cases c_6 : x1 = 102
  · have hM := ip c_6 hM
    refine x_tableIn (off := 76) (tgt := 77) C dX6_mayBegin_1 (by rw [c_6]; decide) (by rw [c_6]; decide) (by rw [c_6]; rfl) (by decide) ?_
    refine x_aload_n C dX6_mayBegin_77 0 rfl rfl ?_
    refine xg_6_27 C kd_92 gw_741 dX6_mayBegin_78 ?_
    refine x_if_ge (tgt := 88) C dX6_mayBegin_81 (by decide) (fun c_5 => ?_) (fun c_5 => ?_)
    · have hM := ip c_5 hM
      refine x_iconst (v := 0) C dX6_mayBegin_88 (by decide) ?_
      obtain ⟨rfl, rfl⟩ := rt hM
      exact x_zret C hR (by rfl) rfl dX6_mayBegin_89
    · have hM := iq c_5 hM
      refine x_iconst (v := 1) C dX6_mayBegin_84 (by decide) ?_
      refine x_goto (tgt := 89) C dX6_mayBegin_85 (by decide) ?_
      obtain ⟨rfl, rfl⟩ := rt hM
      exact x_zret C hR (by rfl) rfl dX6_mayBegin_89
  have hM := iq c_6 hM
  by_cases c_8 : x1 = 103
  · have hM := ip c_8 hM
    refine x_tableIn (off := 63) (tgt := 64) C dX6_mayBegin_1 (by rw [c_8]; decide) (by rw [c_8]; decide) (by rw [c_8]; rfl) (by decide) ?_
    refine x_aload_n C dX6_mayBegin_64 0 rfl rfl ?_
    refine xg_6_26 C kd_92 gw_740 dX6_mayBegin_65 ?_
    refine x_if_ge (tgt := 75) C dX6_mayBegin_68 (by decide) (fun c_7 => ?_) (fun c_7 => ?_)
    · have hM := ip c_7 hM
      refine x_iconst (v := 0) C dX6_mayBegin_75 (by decide) ?_
      obtain ⟨rfl, rfl⟩ := rt hM
      exact x_zret C hR (by rfl) rfl dX6_mayBegin_76
    · have hM := iq c_7 hM
      refine x_iconst (v := 1) C dX6_mayBegin_71 (by decide) ?_
      refine x_goto (tgt := 76) C dX6_mayBegin_72 (by decide) ?_
      obtain ⟨rfl, rfl⟩ := rt hM
      exact x_zret C hR (by rfl) rfl dX6_mayBegin_76
  have hM := iq c_8 hM
  by_cases c_10 : x1 = 104
  · have hM := ip c_10 hM
    refine x_tableIn (off := 50) (tgt := 51) C dX6_mayBegin_1 (by rw [c_10]; decide) (by rw [c_10]; decide) (by rw [c_10]; rfl) (by decide) ?_
    refine x_aload_n C dX6_mayBegin_51 0 rfl rfl ?_
    refine xg_6_25 C kd_92 gw_739 dX6_mayBegin_52 ?_
    refine x_if_ge (tgt := 62) C dX6_mayBegin_55 (by decide) (fun c_9 => ?_) (fun c_9 => ?_)
    · have hM := ip c_9 hM
      refine x_iconst (v := 0) C dX6_mayBegin_62 (by decide) ?_
      obtain ⟨rfl, rfl⟩ := rt hM
      exact x_zret C hR (by rfl) rfl dX6_mayBegin_63
    · have hM := iq c_9 hM
      refine x_iconst (v := 1) C dX6_mayBegin_58 (by decide) ?_
      refine x_goto (tgt := 63) C dX6_mayBegin_59 (by decide) ?_
      obtain ⟨rfl, rfl⟩ := rt hM
      exact x_zret C hR (by rfl) rfl dX6_mayBegin_63
  have hM := iq c_10 hM
  have tc_2 := lv_neT (a := 100) c_2 (by decide)
  have tc_4 := lv_neT (a := 101) c_4 (by decide)
  have tc_6 := lv_neT (a := 102) c_6 (by decide)
  have tc_8 := lv_neT (a := 103) c_8 (by decide)
  have tc_10 := lv_neT (a := 104) c_10 (by decide)
  refine x_tableOut (tgt := 77) C dX6_mayBegin_1 (by omega) (by decide) ?_
  refine x_aload_n C dX6_mayBegin_77 0 rfl rfl ?_
  refine xg_6_27 C kd_92 gw_741 dX6_mayBegin_78 ?_
  refine x_if_ge (tgt := 88) C dX6_mayBegin_81 (by decide) (fun c_11 => ?_) (fun c_11 => ?_)
  · have hM := ip c_11 hM
    refine x_iconst (v := 0) C dX6_mayBegin_88 (by decide) ?_
    obtain ⟨rfl, rfl⟩ := rt hM
    exact x_zret C hR (by rfl) rfl dX6_mayBegin_89
  · have hM := iq c_11 hM
    refine x_iconst (v := 1) C dX6_mayBegin_84 (by decide) ?_
    refine x_goto (tgt := 89) C dX6_mayBegin_85 (by decide) ?_
    obtain ⟨rfl, rfl⟩ := rt hM
    exact x_zret C hR (by rfl) rfl dX6_mayBegin_89
theorem c_X6_mayBegin (l : Launch) (g : Gx) (x1 : Int32) (w : Wd) {rr : Int32} {wr : Wd} (hM : f_X6_mayBegin x1 w = some (rr, wr)) : MetM l yX6_mayBegin cX6_mayBegin 2 (some .boolean) rm_X6_mayBegin g [.ref (ad g 92), .int x1] w (some (.int rr)) wr := by
  refine met_of (by decide) (Nat.le_of_ble_eq_true rfl) (fun E hl C hR => ?_)
  refine x_sub (L' := [(0, .ref (ad g 92)), (1, .int x1)]) [0, 1] rfl ?_
  exact o_X6_mayBegin_b0 C hR x1 w hM
abbrev rm_X6_readBody : Room := { frames := 4, cells := 0, slots := 0, locals := 87 }
set_option maxHeartbeats 1000000 in
set_option maxRecDepth 20000 in
theorem o_X6_readBody_b0 {E : Ex} {g : Gx} (C : Ctx E RX6 cX6_readBody rm_X6_readBody 2 g) {rr : Unit} {wr : Wd} (hR : Rets E g none none wr) (x1 : Int32) (w : Wd) (hM : f_X6_readBody_b0 x1 w = some (rr, wr)) : Xx E 2 g 0 [(0, .ref (ad g 92)), (1, .int x1)] [] w := by
  unfold f_X6_readBody_b0 at hM
  refine x_iload_n C dX6_readBody_0 1 rfl rfl ?_
  by_cases c_27 : x1 = 100
  · have hM := ip c_27 hM
    refine x_tableIn (off := 35) (tgt := 36) C dX6_readBody_1 (by rw [c_27]; decide) (by rw [c_27]; decide) (by rw [c_27]; rfl) (by decide) ?_
    refine x_aload_n C dX6_readBody_36 0 rfl rfl ?_
    refine xg_6_24 C kd_92 gw_738 dX6_readBody_37 ?_
    refine x_iconst (v := 4) C dX6_readBody_40 (by decide) ?_
    refine x_aload_n C dX6_readBody_41 0 rfl rfl ?_
    refine xg_6_23 C kd_92 gw_737 dX6_readBody_42 ?_
    refine x_imul C dX6_readBody_45 ?_
    refine x_aload_n C dX6_readBody_46 0 rfl rfl ?_
    refine x_iconst (v := 0) C dX6_readBody_47 (by decide) ?_
    refine x_bipush (v := 40) C dX6_readBody_48 (by decide) ?_
    obtain ⟨r_2, w_1, h_3, hM⟩ := cl hM
    refine x_callV (As := [.int (0 : Int32), .int (40 : Int32)]) C (c_X6_takesNumber E.l g (0 : Int32) (40 : Int32) w h_3) k_X6_takesNumber kd_92 (by decide) rfl rfl gw_847 rfl rfl ⟨Nat.le_of_ble_eq_true rfl, Nat.le_of_ble_eq_true rfl⟩ rfl rfl (Nat.le_of_ble_eq_true rfl) dX6_readBody_50 ?_
    obtain ⟨q_4, hM⟩ := gd hM
    obtain ⟨w_5, e_6, hM⟩ := bd hM
    refine x_iast C kd_102 ln_102 q_4 rfl dX6_readBody_53 ?_
    refine x_w e_6 ?_
    refine x_aload_n C dX6_readBody_54 0 rfl rfl ?_
    refine xg_6_24 C kd_92 gw_738 dX6_readBody_55 ?_
    refine x_iconst (v := 4) C dX6_readBody_58 (by decide) ?_
    refine x_aload_n C dX6_readBody_59 0 rfl rfl ?_
    refine xg_6_23 C kd_92 gw_737 dX6_readBody_60 ?_
    refine x_imul C dX6_readBody_63 ?_
    refine x_iconst (v := 1) C dX6_readBody_64 (by decide) ?_
    refine x_iadd C dX6_readBody_65 ?_
    refine x_aload_n C dX6_readBody_66 0 rfl rfl ?_
    refine x_iconst (v := 1) C dX6_readBody_67 (by decide) ?_
    refine x_bipush (v := 9) C dX6_readBody_68 (by decide) ?_
    obtain ⟨r_8, w_7, h_9, hM⟩ := cl hM
    refine x_callV (As := [.int (1 : Int32), .int (9 : Int32)]) C (c_X6_takesNumber E.l g (1 : Int32) (9 : Int32) w_5 h_9) k_X6_takesNumber kd_92 (by decide) rfl rfl gw_847 rfl rfl ⟨Nat.le_of_ble_eq_true rfl, Nat.le_of_ble_eq_true rfl⟩ rfl rfl (Nat.le_of_ble_eq_true rfl) dX6_readBody_70 ?_
    obtain ⟨q_10, hM⟩ := gd hM
    obtain ⟨w_11, e_12, hM⟩ := bd hM
    refine x_iast C kd_102 ln_102 q_10 rfl dX6_readBody_73 ?_
    refine x_w e_12 ?_
    refine x_aload_n C dX6_readBody_74 0 rfl rfl ?_
    refine xg_6_24 C kd_92 gw_738 dX6_readBody_75 ?_
    refine x_iconst (v := 4) C dX6_readBody_78 (by decide) ?_
    refine x_aload_n C dX6_readBody_79 0 rfl rfl ?_
    refine xg_6_23 C kd_92 gw_737 dX6_readBody_80 ?_
    refine x_imul C dX6_readBody_83 ?_
    refine x_iconst (v := 2) C dX6_readBody_84 (by decide) ?_
    refine x_iadd C dX6_readBody_85 ?_
    refine x_aload_n C dX6_readBody_86 0 rfl rfl ?_
    refine x_iconst (v := 0) C dX6_readBody_87 (by decide) ?_
    refine x_iconst (v := 3) C dX6_readBody_88 (by decide) ?_
    obtain ⟨r_14, w_13, h_15, hM⟩ := cl hM
    refine x_callV (As := [.int (0 : Int32), .int (3 : Int32)]) C (c_X6_takesNumber E.l g (0 : Int32) (3 : Int32) w_11 h_15) k_X6_takesNumber kd_92 (by decide) rfl rfl gw_847 rfl rfl ⟨Nat.le_of_ble_eq_true rfl, Nat.le_of_ble_eq_true rfl⟩ rfl rfl (Nat.le_of_ble_eq_true rfl) dX6_readBody_89 ?_
    obtain ⟨q_16, hM⟩ := gd hM
    obtain ⟨w_17, e_18, hM⟩ := bd hM
    refine x_iast C kd_102 ln_102 q_16 rfl dX6_readBody_92 ?_
    refine x_w e_18 ?_
    refine x_aload_n C dX6_readBody_93 0 rfl rfl ?_
    refine xg_6_24 C kd_92 gw_738 dX6_readBody_94 ?_
    refine x_iconst (v := 4) C dX6_readBody_97 (by decide) ?_
    refine x_aload_n C dX6_readBody_98 0 rfl rfl ?_
    refine xg_6_23 C kd_92 gw_737 dX6_readBody_99 ?_
    refine x_imul C dX6_readBody_102 ?_
    refine x_iconst (v := 3) C dX6_readBody_103 (by decide) ?_
    refine x_iadd C dX6_readBody_104 ?_
    refine x_aload_n C dX6_readBody_105 0 rfl rfl ?_
    refine x_iconst (v := 0) C dX6_readBody_106 (by decide) ?_
    refine x_bipush (v := 9) C dX6_readBody_107 (by decide) ?_
    obtain ⟨r_20, w_19, h_21, hM⟩ := cl hM
    refine x_callV (As := [.int (0 : Int32), .int (9 : Int32)]) C (c_X6_takesNumber E.l g (0 : Int32) (9 : Int32) w_17 h_21) k_X6_takesNumber kd_92 (by decide) rfl rfl gw_847 rfl rfl ⟨Nat.le_of_ble_eq_true rfl, Nat.le_of_ble_eq_true rfl⟩ rfl rfl (Nat.le_of_ble_eq_true rfl) dX6_readBody_109 ?_
    obtain ⟨q_22, hM⟩ := gd hM
    obtain ⟨w_23, e_24, hM⟩ := bd hM
    refine x_iast C kd_102 ln_102 q_22 rfl dX6_readBody_112 ?_
    refine x_w e_24 ?_
    refine x_aload_n C dX6_readBody_113 0 rfl rfl ?_
    refine x_dup C dX6_readBody_114 rfl ?_
    refine xg_6_23 C kd_92 gw_737 dX6_readBody_115 ?_
    refine x_iconst (v := 1) C dX6_readBody_118 (by decide) ?_
    refine x_iadd C dX6_readBody_119 ?_
    obtain ⟨w_25, e_26, hM⟩ := bd hM
    refine xp_6_23 C kd_92 gw_737 dX6_readBody_120 ?_
    refine x_w e_26 ?_
    refine x_goto (tgt := 166) C dX6_readBody_123 (by decide) ?_
    obtain ⟨rfl, rfl⟩ := rt hM
    exact x_vret C hR rfl dX6_readBody_166
  have hM := iq c_27 hM
  by_cases c_33 : x1 = 101
  · have hM := ip c_33 hM
    refine x_tableIn (off := 153) (tgt := 154) C dX6_readBody_1 (by rw [c_33]; decide) (by rw [c_33]; decide) (by rw [c_33]; rfl) (by decide) ?_
    refine x_aload_n C dX6_readBody_154 0 rfl rfl ?_
    refine x_aload_n C dX6_readBody_155 0 rfl rfl ?_
    refine x_bipush (v := 9) C dX6_readBody_156 (by decide) ?_
    refine x_bipush (v := 40) C dX6_readBody_158 (by decide) ?_
    obtain ⟨r_29, w_28, h_30, hM⟩ := cl hM
    refine x_callV (As := [.int (9 : Int32), .int (40 : Int32)]) C (c_X6_takesNumber E.l g (9 : Int32) (40 : Int32) w h_30) k_X6_takesNumber kd_92 (by decide) rfl rfl gw_847 rfl rfl ⟨Nat.le_of_ble_eq_true rfl, Nat.le_of_ble_eq_true rfl⟩ rfl rfl (Nat.le_of_ble_eq_true rfl) dX6_readBody_160 ?_
    obtain ⟨w_31, e_32, hM⟩ := bd hM
    refine xp_6_27 C kd_92 gw_741 dX6_readBody_163 ?_
    refine x_w e_32 ?_
    obtain ⟨rfl, rfl⟩ := rt hM
    exact x_vret C hR rfl dX6_readBody_166
  have hM := iq c_33 hM
  by_cases c_39 : x1 = 102
  · have hM := ip c_39 hM
    refine x_tableIn (off := 153) (tgt := 154) C dX6_readBody_1 (by rw [c_39]; decide) (by rw [c_39]; decide) (by rw [c_39]; rfl) (by decide) ?_
    refine x_aload_n C dX6_readBody_154 0 rfl rfl ?_
    refine x_aload_n C dX6_readBody_155 0 rfl rfl ?_
    refine x_bipush (v := 9) C dX6_readBody_156 (by decide) ?_
    refine x_bipush (v := 40) C dX6_readBody_158 (by decide) ?_
    obtain ⟨r_35, w_34, h_36, hM⟩ := cl hM
    refine x_callV (As := [.int (9 : Int32), .int (40 : Int32)]) C (c_X6_takesNumber E.l g (9 : Int32) (40 : Int32) w h_36) k_X6_takesNumber kd_92 (by decide) rfl rfl gw_847 rfl rfl ⟨Nat.le_of_ble_eq_true rfl, Nat.le_of_ble_eq_true rfl⟩ rfl rfl (Nat.le_of_ble_eq_true rfl) dX6_readBody_160 ?_
    obtain ⟨w_37, e_38, hM⟩ := bd hM
    refine xp_6_27 C kd_92 gw_741 dX6_readBody_163 ?_
    refine x_w e_38 ?_
    obtain ⟨rfl, rfl⟩ := rt hM
    exact x_vret C hR rfl dX6_readBody_166
  have hM := iq c_39 hM
  by_cases c_45 : x1 = 103
  · have hM := ip c_45 hM
    refine x_tableIn (off := 139) (tgt := 140) C dX6_readBody_1 (by rw [c_45]; decide) (by rw [c_45]; decide) (by rw [c_45]; rfl) (by decide) ?_
    refine x_aload_n C dX6_readBody_140 0 rfl rfl ?_
    refine x_aload_n C dX6_readBody_141 0 rfl rfl ?_
    refine x_iconst (v := 0) C dX6_readBody_142 (by decide) ?_
    refine x_bipush (v := 9) C dX6_readBody_143 (by decide) ?_
    obtain ⟨r_41, w_40, h_42, hM⟩ := cl hM
    refine x_callV (As := [.int (0 : Int32), .int (9 : Int32)]) C (c_X6_takesNumber E.l g (0 : Int32) (9 : Int32) w h_42) k_X6_takesNumber kd_92 (by decide) rfl rfl gw_847 rfl rfl ⟨Nat.le_of_ble_eq_true rfl, Nat.le_of_ble_eq_true rfl⟩ rfl rfl (Nat.le_of_ble_eq_true rfl) dX6_readBody_145 ?_
    obtain ⟨w_43, e_44, hM⟩ := bd hM
    refine xp_6_26 C kd_92 gw_740 dX6_readBody_148 ?_
    refine x_w e_44 ?_
    refine x_goto (tgt := 166) C dX6_readBody_151 (by decide) ?_
    obtain ⟨rfl, rfl⟩ := rt hM
    exact x_vret C hR rfl dX6_readBody_166
  have hM := iq c_45 hM
  by_cases c_51 : x1 = 104
  · have hM := ip c_51 hM
    refine x_tableIn (off := 125) (tgt := 126) C dX6_readBody_1 (by rw [c_51]; decide) (by rw [c_51]; decide) (by rw [c_51]; rfl) (by decide) ?_
    refine x_aload_n C dX6_readBody_126 0 rfl rfl ?_
    refine x_aload_n C dX6_readBody_127 0 rfl rfl ?_
    refine x_iconst (v := 0) C dX6_readBody_128 (by decide) ?_
    refine x_bipush (v := 9) C dX6_readBody_129 (by decide) ?_
    obtain ⟨r_47, w_46, h_48, hM⟩ := cl hM
    refine x_callV (As := [.int (0 : Int32), .int (9 : Int32)]) C (c_X6_takesNumber E.l g (0 : Int32) (9 : Int32) w h_48) k_X6_takesNumber kd_92 (by decide) rfl rfl gw_847 rfl rfl ⟨Nat.le_of_ble_eq_true rfl, Nat.le_of_ble_eq_true rfl⟩ rfl rfl (Nat.le_of_ble_eq_true rfl) dX6_readBody_131 ?_
    obtain ⟨w_49, e_50, hM⟩ := bd hM
    refine xp_6_25 C kd_92 gw_739 dX6_readBody_134 ?_
    refine x_w e_50 ?_
    refine x_goto (tgt := 166) C dX6_readBody_137 (by decide) ?_
    obtain ⟨rfl, rfl⟩ := rt hM
    exact x_vret C hR rfl dX6_readBody_166
  have hM := iq c_51 hM
  have tc_27 := lv_neT (a := 100) c_27 (by decide)
  have tc_33 := lv_neT (a := 101) c_33 (by decide)
  have tc_39 := lv_neT (a := 102) c_39 (by decide)
  have tc_45 := lv_neT (a := 103) c_45 (by decide)
  have tc_51 := lv_neT (a := 104) c_51 (by decide)
  refine x_tableOut (tgt := 154) C dX6_readBody_1 (by omega) (by decide) ?_
  refine x_aload_n C dX6_readBody_154 0 rfl rfl ?_
  refine x_aload_n C dX6_readBody_155 0 rfl rfl ?_
  refine x_bipush (v := 9) C dX6_readBody_156 (by decide) ?_
  refine x_bipush (v := 40) C dX6_readBody_158 (by decide) ?_
  obtain ⟨r_53, w_52, h_54, hM⟩ := cl hM
  refine x_callV (As := [.int (9 : Int32), .int (40 : Int32)]) C (c_X6_takesNumber E.l g (9 : Int32) (40 : Int32) w h_54) k_X6_takesNumber kd_92 (by decide) rfl rfl gw_847 rfl rfl ⟨Nat.le_of_ble_eq_true rfl, Nat.le_of_ble_eq_true rfl⟩ rfl rfl (Nat.le_of_ble_eq_true rfl) dX6_readBody_160 ?_
  obtain ⟨w_55, e_56, hM⟩ := bd hM
  refine xp_6_27 C kd_92 gw_741 dX6_readBody_163 ?_
  refine x_w e_56 ?_
  obtain ⟨rfl, rfl⟩ := rt hM
  exact x_vret C hR rfl dX6_readBody_166
theorem c_X6_readBody (l : Launch) (g : Gx) (x1 : Int32) (w : Wd) {rr : Unit} {wr : Wd} (hM : f_X6_readBody x1 w = some (rr, wr)) : MetM l yX6_readBody cX6_readBody 2 none rm_X6_readBody g [.ref (ad g 92), .int x1] w none wr := by
  refine met_of (by decide) (Nat.le_of_ble_eq_true rfl) (fun E hl C hR => ?_)
  refine x_sub (L' := [(0, .ref (ad g 92)), (1, .int x1)]) [0, 1] rfl ?_
  exact o_X6_readBody_b0 C hR x1 w hM
abbrev rm_X6_readItem : Room := { frames := 5, cells := 0, slots := 0, locals := 108 }
set_option maxHeartbeats 1000000 in
set_option maxRecDepth 20000 in
theorem o_X6_readItem_b21 {E : Ex} {g : Gx} (C : Ctx E RX6 cX6_readItem rm_X6_readItem 2 g) {rr : Unit} {wr : Wd} (hR : Rets E g none none wr) (w : Wd) (hM : f_X6_readItem_b21 w = some (rr, wr)) : Xx E 2 g 21 [(0, .ref (ad g 92))] [] w := by
  unfold f_X6_readItem_b21 at hM
  refine x_aload_n C dX6_readItem_21 0 rfl rfl ?_
  refine x_iconst (v := 1) C dX6_readItem_22 (by decide) ?_
  obtain ⟨w_1, e_2, hM⟩ := bd hM
  refine xp_6_21 C kd_92 (by decide) gw_735 dX6_readItem_23 ?_
  refine x_w e_2 ?_
  obtain ⟨rfl, rfl⟩ := rt hM
  exact x_vret C hR rfl dX6_readItem_26
set_option maxHeartbeats 1000000 in
set_option maxRecDepth 20000 in
theorem o_X6_readItem_b0 {E : Ex} {g : Gx} (C : Ctx E RX6 cX6_readItem rm_X6_readItem 2 g) {rr : Unit} {wr : Wd} (hR : Rets E g none none wr) (w : Wd) (hM : f_X6_readItem_b0 w = some (rr, wr)) : Xx E 2 g 0 [(0, .ref (ad g 92))] [] w := by
  unfold f_X6_readItem_b0 at hM
  refine x_aload_n C dX6_readItem_0 0 rfl rfl ?_
  refine xg_6_20 C kd_92 gw_734 dX6_readItem_1 ?_
  obtain ⟨x1_1, e_2, hM⟩ := bd hM
  refine x_top e_2 ?_
  refine x_istore_n (L' := [(1, .int x1_1), (0, .ref (ad g 92))]) C dX6_readItem_4 rfl (by decide) rfl ?_
  refine x_aload_n C dX6_readItem_5 1 rfl rfl ?_
  refine xg_6_19 C kd_92 gw_733 dX6_readItem_6 ?_
  refine x_iconst (v := 1) C dX6_readItem_9 (by decide) ?_
  refine x_icmp_ne (tgt := 21) C dX6_readItem_10 (by decide) (fun c_3 => ?_) (fun c_3 => ?_)
  · have hM := iq c_3 hM
    refine x_sub (L' := [(0, .ref (ad g 92))]) [1] rfl ?_
    exact o_X6_readItem_b21 C hR w hM
  · have hM := ip c_3 hM
    refine x_aload_n C dX6_readItem_13 1 rfl rfl ?_
    refine x_iload_n C dX6_readItem_14 0 rfl rfl ?_
    obtain ⟨r_5, w_4, h_6, hM⟩ := cl hM
    refine x_callV (As := [.int x1_1]) C (c_X6_mayBegin E.l g x1_1 w h_6) k_X6_mayBegin kd_92 (by decide) rfl rfl gw_839 rfl rfl ⟨Nat.le_of_ble_eq_true rfl, Nat.le_of_ble_eq_true rfl⟩ rfl rfl (Nat.le_of_ble_eq_true rfl) dX6_readItem_15 ?_
    refine x_if_ne (tgt := 27) C dX6_readItem_18 (by decide) (fun c_7 => ?_) (fun c_7 => ?_)
    · have hM := iq c_7 hM
      refine x_aload_n C dX6_readItem_27 1 rfl rfl ?_
      obtain ⟨r_9, w_8, h_10, hM⟩ := cl hM
      refine x_callVv (As := []) C (c_X6_next E.l g  w_4 h_10) k_X6_next kd_92 (by decide) rfl rfl gw_824 rfl rfl ⟨Nat.le_of_ble_eq_true rfl, Nat.le_of_ble_eq_true rfl⟩ rfl rfl (Nat.le_of_ble_eq_true rfl) dX6_readItem_28 ?_
      refine x_aload_n C dX6_readItem_31 1 rfl rfl ?_
      refine x_iload_n C dX6_readItem_32 0 rfl rfl ?_
      obtain ⟨r_12, w_11, h_13, hM⟩ := cl hM
      refine x_callVv (As := [.int x1_1]) C (c_X6_readBody E.l g x1_1 w_8 h_13) k_X6_readBody kd_92 (by decide) rfl rfl gw_843 rfl rfl ⟨Nat.le_of_ble_eq_true rfl, Nat.le_of_ble_eq_true rfl⟩ rfl rfl (Nat.le_of_ble_eq_true rfl) dX6_readItem_33 ?_
      refine x_aload_n C dX6_readItem_36 1 rfl rfl ?_
      refine x_aload_n C dX6_readItem_37 1 rfl rfl ?_
      refine xg_6_21 C kd_92 gw_735 dX6_readItem_38 ?_
      refine x_if_ne (tgt := 52) C dX6_readItem_41 (by decide) (fun c_14 => ?_) (fun c_14 => ?_)
      · have hM := iq c_14 hM
        refine x_iconst (v := 1) C dX6_readItem_52 (by decide) ?_
        refine x_goto (tgt := 57) C dX6_readItem_53 (by decide) ?_
        obtain ⟨w_15, e_16, hM⟩ := bd hM
        refine xp_6_21 C kd_92 (by decide) gw_735 dX6_readItem_57 ?_
        refine x_w e_16 ?_
        refine x_aload_n C dX6_readItem_60 1 rfl rfl ?_
        refine xg_6_21 C kd_92 gw_735 dX6_readItem_61 ?_
        refine x_if_ne (tgt := 71) C dX6_readItem_64 (by decide) (fun c_17 => ?_) (fun c_17 => ?_)
        · have hM := iq c_17 hM
          obtain ⟨rfl, rfl⟩ := rt hM
          exact x_vret C hR rfl dX6_readItem_71
        · have hM := ip c_17 hM
          refine x_aload_n C dX6_readItem_67 1 rfl rfl ?_
          obtain ⟨r_19, w_18, h_20, hM⟩ := cl hM
          refine x_callVv (As := []) C (c_X6_next E.l g  w_15 h_20) k_X6_next kd_92 (by decide) rfl rfl gw_824 rfl rfl ⟨Nat.le_of_ble_eq_true rfl, Nat.le_of_ble_eq_true rfl⟩ rfl rfl (Nat.le_of_ble_eq_true rfl) dX6_readItem_68 ?_
          obtain ⟨rfl, rfl⟩ := rt hM
          exact x_vret C hR rfl dX6_readItem_71
      · have hM := ip c_14 hM
        refine x_aload_n C dX6_readItem_44 1 rfl rfl ?_
        refine xg_6_19 C kd_92 gw_733 dX6_readItem_45 ?_
        refine x_iconst (v := 3) C dX6_readItem_48 (by decide) ?_
        refine x_icmp_eq (tgt := 56) C dX6_readItem_49 (by decide) (fun c_21 => ?_) (fun c_21 => ?_)
        · have hM := ip c_21 hM
          refine x_iconst (v := 0) C dX6_readItem_56 (by decide) ?_
          obtain ⟨w_22, e_23, hM⟩ := bd hM
          refine xp_6_21 C kd_92 (by decide) gw_735 dX6_readItem_57 ?_
          refine x_w e_23 ?_
          refine x_aload_n C dX6_readItem_60 1 rfl rfl ?_
          refine xg_6_21 C kd_92 gw_735 dX6_readItem_61 ?_
          refine x_if_ne (tgt := 71) C dX6_readItem_64 (by decide) (fun c_24 => ?_) (fun c_24 => ?_)
          · have hM := iq c_24 hM
            obtain ⟨rfl, rfl⟩ := rt hM
            exact x_vret C hR rfl dX6_readItem_71
          · have hM := ip c_24 hM
            refine x_aload_n C dX6_readItem_67 1 rfl rfl ?_
            obtain ⟨r_26, w_25, h_27, hM⟩ := cl hM
            refine x_callVv (As := []) C (c_X6_next E.l g  w_22 h_27) k_X6_next kd_92 (by decide) rfl rfl gw_824 rfl rfl ⟨Nat.le_of_ble_eq_true rfl, Nat.le_of_ble_eq_true rfl⟩ rfl rfl (Nat.le_of_ble_eq_true rfl) dX6_readItem_68 ?_
            obtain ⟨rfl, rfl⟩ := rt hM
            exact x_vret C hR rfl dX6_readItem_71
        · have hM := iq c_21 hM
          refine x_iconst (v := 1) C dX6_readItem_52 (by decide) ?_
          refine x_goto (tgt := 57) C dX6_readItem_53 (by decide) ?_
          obtain ⟨w_28, e_29, hM⟩ := bd hM
          refine xp_6_21 C kd_92 (by decide) gw_735 dX6_readItem_57 ?_
          refine x_w e_29 ?_
          refine x_aload_n C dX6_readItem_60 1 rfl rfl ?_
          refine xg_6_21 C kd_92 gw_735 dX6_readItem_61 ?_
          refine x_if_ne (tgt := 71) C dX6_readItem_64 (by decide) (fun c_30 => ?_) (fun c_30 => ?_)
          · have hM := iq c_30 hM
            obtain ⟨rfl, rfl⟩ := rt hM
            exact x_vret C hR rfl dX6_readItem_71
          · have hM := ip c_30 hM
            refine x_aload_n C dX6_readItem_67 1 rfl rfl ?_
            obtain ⟨r_32, w_31, h_33, hM⟩ := cl hM
            refine x_callVv (As := []) C (c_X6_next E.l g  w_28 h_33) k_X6_next kd_92 (by decide) rfl rfl gw_824 rfl rfl ⟨Nat.le_of_ble_eq_true rfl, Nat.le_of_ble_eq_true rfl⟩ rfl rfl (Nat.le_of_ble_eq_true rfl) dX6_readItem_68 ?_
            obtain ⟨rfl, rfl⟩ := rt hM
            exact x_vret C hR rfl dX6_readItem_71
    · have hM := ip c_7 hM
      refine x_sub (L' := [(0, .ref (ad g 92))]) [1] rfl ?_
      exact o_X6_readItem_b21 C hR w_4 hM
theorem c_X6_readItem (l : Launch) (g : Gx) (w : Wd) {rr : Unit} {wr : Wd} (hM : f_X6_readItem w = some (rr, wr)) : MetM l yX6_readItem cX6_readItem 2 none rm_X6_readItem g [.ref (ad g 92)] w none wr := by
  refine met_of (by decide) (Nat.le_of_ble_eq_true rfl) (fun E hl C hR => ?_)
  refine x_sub (L' := [(0, .ref (ad g 92))]) [0] rfl ?_
  exact o_X6_readItem_b0 C hR w hM
abbrev rm_X6_settles : Room := { frames := 0, cells := 0, slots := 0, locals := 0 }
set_option maxHeartbeats 1000000 in
set_option maxRecDepth 20000 in
theorem o_X6_settles_h85 {E : Ex} {g : Gx} (C : Ctx E RX6 cX6_settles rm_X6_settles 2 g) {rr : Unit} {wr : Wd} (hR : Rets E g none none wr) {kh85 : (Int32 → Wd → Option (Unit × Wd))} (Hh85 : ∀ (x1 : Int32) (w : Wd), kh85 x1 w = some (rr, wr) → Xx E 2 g 85 [(0, .ref (ad g 92)), (1, .int x1)] [] w) (x1 : Int32) (w : Wd) (hM : f_X6_settles_h85 kh85 x1 w = some (rr, wr)) : Xx E 2 g 85 [(0, .ref (ad g 92)), (1, .int x1)] [] w := by
  unfold f_X6_settles_h85 at hM
  refine x_iload_n C dX6_settles_85 1 rfl rfl ?_
  refine x_bipush (v := 6) C dX6_settles_86 (by decide) ?_
  refine x_icmp_ge (tgt := 195) C dX6_settles_88 (by decide) (fun c_1 => ?_) (fun c_1 => ?_)
  · have hM := ip c_1 hM
    refine x_aload_n C dX6_settles_195 0 rfl rfl ?_
    refine x_iconst (v := 0) C dX6_settles_196 (by decide) ?_
    obtain ⟨w_2, e_3, hM⟩ := bd hM
    refine xp_6_9 C kd_92 gw_723 dX6_settles_197 ?_
    refine x_w e_3 ?_
    refine x_aload_n C dX6_settles_200 0 rfl rfl ?_
    refine x_iconst (v := 0) C dX6_settles_201 (by decide) ?_
    obtain ⟨w_4, e_5, hM⟩ := bd hM
    refine xp_6_12 C kd_92 gw_726 dX6_settles_202 ?_
    refine x_w e_5 ?_
    refine x_aload_n C dX6_settles_205 0 rfl rfl ?_
    refine xg_6_11 C kd_92 gw_725 dX6_settles_206 ?_
    refine x_iconst (v := 0) C dX6_settles_209 (by decide) ?_
    refine x_iconst (v := 0) C dX6_settles_210 (by decide) ?_
    obtain ⟨w_6, e_7, hM⟩ := bd hM
    refine x_zast C kd_99 ln_99 (by decide) (j := 0) (by decide) (by decide) dX6_settles_211 ?_
    refine x_w e_7 ?_
    refine x_aload_n C dX6_settles_212 0 rfl rfl ?_
    refine xg_6_11 C kd_92 gw_725 dX6_settles_213 ?_
    refine x_iconst (v := 1) C dX6_settles_216 (by decide) ?_
    refine x_iconst (v := 0) C dX6_settles_217 (by decide) ?_
    obtain ⟨w_8, e_9, hM⟩ := bd hM
    refine x_zast C kd_99 ln_99 (by decide) (j := 1) (by decide) (by decide) dX6_settles_218 ?_
    refine x_w e_9 ?_
    refine x_aload_n C dX6_settles_219 0 rfl rfl ?_
    refine x_iconst (v := 0) C dX6_settles_220 (by decide) ?_
    obtain ⟨w_10, e_11, hM⟩ := bd hM
    refine xp_6_16 C kd_92 gw_730 dX6_settles_221 ?_
    refine x_w e_11 ?_
    obtain ⟨rfl, rfl⟩ := rt hM
    exact x_vret C hR rfl dX6_settles_224
  · have hM := iq c_1 hM
    refine x_aload_n C dX6_settles_91 0 rfl rfl ?_
    refine xg_6_1 C kd_92 gw_715 dX6_settles_92 ?_
    refine x_iload_n C dX6_settles_95 1 rfl rfl ?_
    refine x_aload_n C dX6_settles_96 0 rfl rfl ?_
    refine xg_6_24 C kd_92 gw_738 dX6_settles_97 ?_
    refine x_iconst (v := 4) C dX6_settles_100 (by decide) ?_
    refine x_iload_n C dX6_settles_101 1 rfl rfl ?_
    refine x_imul C dX6_settles_102 ?_
    obtain ⟨q_12, hM⟩ := gd hM
    refine x_iald C kd_102 ln_102 q_12 rfl dX6_settles_103 ?_
    obtain ⟨q_13, hM⟩ := gd hM
    obtain ⟨w_14, e_15, hM⟩ := bd hM
    refine x_iast C kd_93 ln_93 q_13 rfl dX6_settles_104 ?_
    refine x_w e_15 ?_
    refine x_aload_n C dX6_settles_105 0 rfl rfl ?_
    refine xg_6_2 C kd_92 gw_716 dX6_settles_106 ?_
    refine x_iload_n C dX6_settles_109 1 rfl rfl ?_
    refine x_aload_n C dX6_settles_110 0 rfl rfl ?_
    refine xg_6_24 C kd_92 gw_738 dX6_settles_111 ?_
    refine x_iconst (v := 4) C dX6_settles_114 (by decide) ?_
    refine x_iload_n C dX6_settles_115 1 rfl rfl ?_
    refine x_imul C dX6_settles_116 ?_
    refine x_iconst (v := 2) C dX6_settles_117 (by decide) ?_
    refine x_iadd C dX6_settles_118 ?_
    obtain ⟨q_16, hM⟩ := gd hM
    refine x_iald C kd_102 ln_102 q_16 rfl dX6_settles_119 ?_
    obtain ⟨q_17, hM⟩ := gd hM
    obtain ⟨w_18, e_19, hM⟩ := bd hM
    refine x_iast C kd_94 ln_94 q_17 rfl dX6_settles_120 ?_
    refine x_w e_19 ?_
    refine x_aload_n C dX6_settles_121 0 rfl rfl ?_
    refine xg_6_3 C kd_92 gw_717 dX6_settles_122 ?_
    refine x_iload_n C dX6_settles_125 1 rfl rfl ?_
    refine x_aload_n C dX6_settles_126 0 rfl rfl ?_
    refine xg_6_24 C kd_92 gw_738 dX6_settles_127 ?_
    refine x_iconst (v := 4) C dX6_settles_130 (by decide) ?_
    refine x_iload_n C dX6_settles_131 1 rfl rfl ?_
    refine x_imul C dX6_settles_132 ?_
    refine x_iconst (v := 3) C dX6_settles_133 (by decide) ?_
    refine x_iadd C dX6_settles_134 ?_
    obtain ⟨q_20, hM⟩ := gd hM
    refine x_iald C kd_102 ln_102 q_20 rfl dX6_settles_135 ?_
    obtain ⟨q_21, hM⟩ := gd hM
    obtain ⟨w_22, e_23, hM⟩ := bd hM
    refine x_iast C kd_95 ln_95 q_21 rfl dX6_settles_136 ?_
    refine x_w e_23 ?_
    refine x_aload_n C dX6_settles_137 0 rfl rfl ?_
    refine xg_6_7 C kd_92 gw_721 dX6_settles_138 ?_
    refine x_iconst (v := 2) C dX6_settles_141 (by decide) ?_
    refine x_iload_n C dX6_settles_142 1 rfl rfl ?_
    refine x_iadd C dX6_settles_143 ?_
    refine x_bipush (v := -9) C dX6_settles_144 (by decide) ?_
    obtain ⟨q_24, hM⟩ := gd hM
    obtain ⟨w_25, e_26, hM⟩ := bd hM
    refine x_iast C kd_96 ln_96 q_24 rfl dX6_settles_146 ?_
    refine x_w e_26 ?_
    refine x_aload_n C dX6_settles_147 0 rfl rfl ?_
    refine xg_6_7 C kd_92 gw_721 dX6_settles_148 ?_
    refine x_bipush (v := 8) C dX6_settles_151 (by decide) ?_
    refine x_iload_n C dX6_settles_153 1 rfl rfl ?_
    refine x_iadd C dX6_settles_154 ?_
    refine x_aload_n C dX6_settles_155 0 rfl rfl ?_
    refine xg_6_24 C kd_92 gw_738 dX6_settles_156 ?_
    refine x_iconst (v := 4) C dX6_settles_159 (by decide) ?_
    refine x_iload_n C dX6_settles_160 1 rfl rfl ?_
    refine x_imul C dX6_settles_161 ?_
    refine x_iconst (v := 1) C dX6_settles_162 (by decide) ?_
    refine x_iadd C dX6_settles_163 ?_
    obtain ⟨q_27, hM⟩ := gd hM
    refine x_iald C kd_102 ln_102 q_27 rfl dX6_settles_164 ?_
    obtain ⟨q_28, hM⟩ := gd hM
    obtain ⟨w_29, e_30, hM⟩ := bd hM
    refine x_iast C kd_96 ln_96 q_28 rfl dX6_settles_165 ?_
    refine x_w e_30 ?_
    refine x_aload_n C dX6_settles_166 0 rfl rfl ?_
    refine xg_6_7 C kd_92 gw_721 dX6_settles_167 ?_
    refine x_bipush (v := 14) C dX6_settles_170 (by decide) ?_
    refine x_iload_n C dX6_settles_172 1 rfl rfl ?_
    refine x_iadd C dX6_settles_173 ?_
    refine x_iconst (v := 1) C dX6_settles_174 (by decide) ?_
    refine x_iload_n C dX6_settles_175 1 rfl rfl ?_
    refine x_ishl C dX6_settles_176 ?_
    obtain ⟨q_31, hM⟩ := gd hM
    obtain ⟨w_32, e_33, hM⟩ := bd hM
    refine x_iast C kd_96 ln_96 q_31 rfl dX6_settles_177 ?_
    refine x_w e_33 ?_
    refine x_aload_n C dX6_settles_178 0 rfl rfl ?_
    refine xg_6_7 C kd_92 gw_721 dX6_settles_179 ?_
    refine x_bipush (v := 20) C dX6_settles_182 (by decide) ?_
    refine x_iload_n C dX6_settles_184 1 rfl rfl ?_
    refine x_iadd C dX6_settles_185 ?_
    refine x_bipush (v := -9) C dX6_settles_186 (by decide) ?_
    obtain ⟨q_34, hM⟩ := gd hM
    obtain ⟨w_35, e_36, hM⟩ := bd hM
    refine x_iast C kd_96 ln_96 q_34 rfl dX6_settles_188 ?_
    refine x_w e_36 ?_
    obtain ⟨x1_37, e_38, hM⟩ := bd hM
    refine x_iinc (L' := [(1, .int x1_37), (0, .ref (ad g 92))]) C dX6_settles_189 1 rfl (v := x1_37) (by rw [e_38]; first | rfl | decide) (by decide) rfl ?_
    refine x_goto (tgt := 85) C dX6_settles_192 (by decide) ?_
    refine x_sub (L' := [(0, .ref (ad g 92)), (1, .int x1_37)]) [1, 0] rfl ?_
    exact Hh85 x1_37 w_35 hM
theorem o_X6_settles_l85 {E : Ex} {g : Gx} (C : Ctx E RX6 cX6_settles rm_X6_settles 2 g) {rr : Unit} {wr : Wd} (hR : Rets E g none none wr) : ∀ (n : Nat) (x1 : Int32) (w : Wd), f_X6_settles_l85 n x1 w = some (rr, wr) → Xx E 2 g 85 [(0, .ref (ad g 92)), (1, .int x1)] [] w := by
  intro n
  induction n with
  | zero =>
    intro x1 w hM
    rw [f_X6_settles_l85] at hM
    cases hM
  | succ n ih =>
    intro x1 w hM
    rw [f_X6_settles_l85] at hM
    exact o_X6_settles_h85 C hR ih x1 w hM
set_option maxHeartbeats 1000000 in
set_option maxRecDepth 20000 in
theorem o_X6_settles_b0 {E : Ex} {g : Gx} (C : Ctx E RX6 cX6_settles rm_X6_settles 2 g) {rr : Unit} {wr : Wd} (hR : Rets E g none none wr) (w : Wd) (hM : f_X6_settles_b0 w = some (rr, wr)) : Xx E 2 g 0 [(0, .ref (ad g 92))] [] w := by
  unfold f_X6_settles_b0 at hM
  refine x_aload_n C dX6_settles_0 0 rfl rfl ?_
  refine x_aload_n C dX6_settles_1 0 rfl rfl ?_
  refine xg_6_23 C kd_92 gw_737 dX6_settles_2 ?_
  obtain ⟨w_1, e_2, hM⟩ := bd hM
  refine xp_6_0 C kd_92 gw_714 dX6_settles_5 ?_
  refine x_w e_2 ?_
  refine x_aload_n C dX6_settles_8 0 rfl rfl ?_
  refine x_aload_n C dX6_settles_9 0 rfl rfl ?_
  refine xg_6_25 C kd_92 gw_739 dX6_settles_10 ?_
  refine x_if_ge (tgt := 20) C dX6_settles_13 (by decide) (fun c_3 => ?_) (fun c_3 => ?_)
  · have hM := ip c_3 hM
    refine x_aload_n C dX6_settles_20 0 rfl rfl ?_
    refine xg_6_25 C kd_92 gw_739 dX6_settles_21 ?_
    obtain ⟨w_4, e_5, hM⟩ := bd hM
    refine xp_6_4 C kd_92 gw_718 dX6_settles_24 ?_
    refine x_w e_5 ?_
    refine x_aload_n C dX6_settles_27 0 rfl rfl ?_
    refine x_aload_n C dX6_settles_28 0 rfl rfl ?_
    refine xg_6_26 C kd_92 gw_740 dX6_settles_29 ?_
    refine x_if_ge (tgt := 39) C dX6_settles_32 (by decide) (fun c_6 => ?_) (fun c_6 => ?_)
    · have hM := ip c_6 hM
      refine x_aload_n C dX6_settles_39 0 rfl rfl ?_
      refine xg_6_26 C kd_92 gw_740 dX6_settles_40 ?_
      obtain ⟨w_7, e_8, hM⟩ := bd hM
      refine xp_6_5 C kd_92 gw_719 dX6_settles_43 ?_
      refine x_w e_8 ?_
      refine x_aload_n C dX6_settles_46 0 rfl rfl ?_
      refine x_aload_n C dX6_settles_47 0 rfl rfl ?_
      refine xg_6_27 C kd_92 gw_741 dX6_settles_48 ?_
      refine x_if_ge (tgt := 59) C dX6_settles_51 (by decide) (fun c_9 => ?_) (fun c_9 => ?_)
      · have hM := ip c_9 hM
        refine x_aload_n C dX6_settles_59 0 rfl rfl ?_
        refine xg_6_27 C kd_92 gw_741 dX6_settles_60 ?_
        obtain ⟨w_10, e_11, hM⟩ := bd hM
        refine xp_6_6 C kd_92 gw_720 dX6_settles_63 ?_
        refine x_w e_11 ?_
        refine x_aload_n C dX6_settles_66 0 rfl rfl ?_
        refine xg_6_7 C kd_92 gw_721 dX6_settles_67 ?_
        refine x_iconst (v := 0) C dX6_settles_70 (by decide) ?_
        refine x_iconst (v := 0) C dX6_settles_71 (by decide) ?_
        obtain ⟨w_12, e_13, hM⟩ := bd hM
        refine x_iast C kd_96 ln_96 (by decide) (j := 0) (by decide) dX6_settles_72 ?_
        refine x_w e_13 ?_
        refine x_aload_n C dX6_settles_73 0 rfl rfl ?_
        refine xg_6_7 C kd_92 gw_721 dX6_settles_74 ?_
        refine x_iconst (v := 1) C dX6_settles_77 (by decide) ?_
        refine x_aload_n C dX6_settles_78 0 rfl rfl ?_
        refine xg_6_4 C kd_92 gw_718 dX6_settles_79 ?_
        obtain ⟨w_14, e_15, hM⟩ := bd hM
        refine x_iast C kd_96 ln_96 (by decide) (j := 1) (by decide) dX6_settles_82 ?_
        refine x_w e_15 ?_
        refine x_iconst (v := 0) C dX6_settles_83 (by decide) ?_
        obtain ⟨x1_16, e_17, hM⟩ := bd hM
        refine x_top e_17 ?_
        refine x_istore_n (L' := [(1, .int x1_16), (0, .ref (ad g 92))]) C dX6_settles_84 rfl (by decide) rfl ?_
        refine x_sub (L' := [(0, .ref (ad g 92)), (1, .int x1_16)]) [1, 0] rfl ?_
        exact o_X6_settles_l85 C hR 300 x1_16 w_14 hM
      · have hM := iq c_9 hM
        refine x_bipush (v := 20) C dX6_settles_54 (by decide) ?_
        refine x_goto (tgt := 63) C dX6_settles_56 (by decide) ?_
        obtain ⟨w_18, e_19, hM⟩ := bd hM
        refine xp_6_6 C kd_92 gw_720 dX6_settles_63 ?_
        refine x_w e_19 ?_
        refine x_aload_n C dX6_settles_66 0 rfl rfl ?_
        refine xg_6_7 C kd_92 gw_721 dX6_settles_67 ?_
        refine x_iconst (v := 0) C dX6_settles_70 (by decide) ?_
        refine x_iconst (v := 0) C dX6_settles_71 (by decide) ?_
        obtain ⟨w_20, e_21, hM⟩ := bd hM
        refine x_iast C kd_96 ln_96 (by decide) (j := 0) (by decide) dX6_settles_72 ?_
        refine x_w e_21 ?_
        refine x_aload_n C dX6_settles_73 0 rfl rfl ?_
        refine xg_6_7 C kd_92 gw_721 dX6_settles_74 ?_
        refine x_iconst (v := 1) C dX6_settles_77 (by decide) ?_
        refine x_aload_n C dX6_settles_78 0 rfl rfl ?_
        refine xg_6_4 C kd_92 gw_718 dX6_settles_79 ?_
        obtain ⟨w_22, e_23, hM⟩ := bd hM
        refine x_iast C kd_96 ln_96 (by decide) (j := 1) (by decide) dX6_settles_82 ?_
        refine x_w e_23 ?_
        refine x_iconst (v := 0) C dX6_settles_83 (by decide) ?_
        obtain ⟨x1_24, e_25, hM⟩ := bd hM
        refine x_top e_25 ?_
        refine x_istore_n (L' := [(1, .int x1_24), (0, .ref (ad g 92))]) C dX6_settles_84 rfl (by decide) rfl ?_
        refine x_sub (L' := [(0, .ref (ad g 92)), (1, .int x1_24)]) [1, 0] rfl ?_
        exact o_X6_settles_l85 C hR 300 x1_24 w_22 hM
    · have hM := iq c_6 hM
      refine x_iconst (v := 1) C dX6_settles_35 (by decide) ?_
      refine x_goto (tgt := 43) C dX6_settles_36 (by decide) ?_
      obtain ⟨w_26, e_27, hM⟩ := bd hM
      refine xp_6_5 C kd_92 gw_719 dX6_settles_43 ?_
      refine x_w e_27 ?_
      refine x_aload_n C dX6_settles_46 0 rfl rfl ?_
      refine x_aload_n C dX6_settles_47 0 rfl rfl ?_
      refine xg_6_27 C kd_92 gw_741 dX6_settles_48 ?_
      refine x_if_ge (tgt := 59) C dX6_settles_51 (by decide) (fun c_28 => ?_) (fun c_28 => ?_)
      · have hM := ip c_28 hM
        refine x_aload_n C dX6_settles_59 0 rfl rfl ?_
        refine xg_6_27 C kd_92 gw_741 dX6_settles_60 ?_
        obtain ⟨w_29, e_30, hM⟩ := bd hM
        refine xp_6_6 C kd_92 gw_720 dX6_settles_63 ?_
        refine x_w e_30 ?_
        refine x_aload_n C dX6_settles_66 0 rfl rfl ?_
        refine xg_6_7 C kd_92 gw_721 dX6_settles_67 ?_
        refine x_iconst (v := 0) C dX6_settles_70 (by decide) ?_
        refine x_iconst (v := 0) C dX6_settles_71 (by decide) ?_
        obtain ⟨w_31, e_32, hM⟩ := bd hM
        refine x_iast C kd_96 ln_96 (by decide) (j := 0) (by decide) dX6_settles_72 ?_
        refine x_w e_32 ?_
        refine x_aload_n C dX6_settles_73 0 rfl rfl ?_
        refine xg_6_7 C kd_92 gw_721 dX6_settles_74 ?_
        refine x_iconst (v := 1) C dX6_settles_77 (by decide) ?_
        refine x_aload_n C dX6_settles_78 0 rfl rfl ?_
        refine xg_6_4 C kd_92 gw_718 dX6_settles_79 ?_
        obtain ⟨w_33, e_34, hM⟩ := bd hM
        refine x_iast C kd_96 ln_96 (by decide) (j := 1) (by decide) dX6_settles_82 ?_
        refine x_w e_34 ?_
        refine x_iconst (v := 0) C dX6_settles_83 (by decide) ?_
        obtain ⟨x1_35, e_36, hM⟩ := bd hM
        refine x_top e_36 ?_
        refine x_istore_n (L' := [(1, .int x1_35), (0, .ref (ad g 92))]) C dX6_settles_84 rfl (by decide) rfl ?_
        refine x_sub (L' := [(0, .ref (ad g 92)), (1, .int x1_35)]) [1, 0] rfl ?_
        exact o_X6_settles_l85 C hR 300 x1_35 w_33 hM
      · have hM := iq c_28 hM
        refine x_bipush (v := 20) C dX6_settles_54 (by decide) ?_
        refine x_goto (tgt := 63) C dX6_settles_56 (by decide) ?_
        obtain ⟨w_37, e_38, hM⟩ := bd hM
        refine xp_6_6 C kd_92 gw_720 dX6_settles_63 ?_
        refine x_w e_38 ?_
        refine x_aload_n C dX6_settles_66 0 rfl rfl ?_
        refine xg_6_7 C kd_92 gw_721 dX6_settles_67 ?_
        refine x_iconst (v := 0) C dX6_settles_70 (by decide) ?_
        refine x_iconst (v := 0) C dX6_settles_71 (by decide) ?_
        obtain ⟨w_39, e_40, hM⟩ := bd hM
        refine x_iast C kd_96 ln_96 (by decide) (j := 0) (by decide) dX6_settles_72 ?_
        refine x_w e_40 ?_
        refine x_aload_n C dX6_settles_73 0 rfl rfl ?_
        refine xg_6_7 C kd_92 gw_721 dX6_settles_74 ?_
        refine x_iconst (v := 1) C dX6_settles_77 (by decide) ?_
        refine x_aload_n C dX6_settles_78 0 rfl rfl ?_
        refine xg_6_4 C kd_92 gw_718 dX6_settles_79 ?_
        obtain ⟨w_41, e_42, hM⟩ := bd hM
        refine x_iast C kd_96 ln_96 (by decide) (j := 1) (by decide) dX6_settles_82 ?_
        refine x_w e_42 ?_
        refine x_iconst (v := 0) C dX6_settles_83 (by decide) ?_
        obtain ⟨x1_43, e_44, hM⟩ := bd hM
        refine x_top e_44 ?_
        refine x_istore_n (L' := [(1, .int x1_43), (0, .ref (ad g 92))]) C dX6_settles_84 rfl (by decide) rfl ?_
        refine x_sub (L' := [(0, .ref (ad g 92)), (1, .int x1_43)]) [1, 0] rfl ?_
        exact o_X6_settles_l85 C hR 300 x1_43 w_41 hM
  · have hM := iq c_3 hM
    refine x_iconst (v := 3) C dX6_settles_16 (by decide) ?_
    refine x_goto (tgt := 24) C dX6_settles_17 (by decide) ?_
    obtain ⟨w_45, e_46, hM⟩ := bd hM
    refine xp_6_4 C kd_92 gw_718 dX6_settles_24 ?_
    refine x_w e_46 ?_
    refine x_aload_n C dX6_settles_27 0 rfl rfl ?_
    refine x_aload_n C dX6_settles_28 0 rfl rfl ?_
    refine xg_6_26 C kd_92 gw_740 dX6_settles_29 ?_
    refine x_if_ge (tgt := 39) C dX6_settles_32 (by decide) (fun c_47 => ?_) (fun c_47 => ?_)
    · have hM := ip c_47 hM
      refine x_aload_n C dX6_settles_39 0 rfl rfl ?_
      refine xg_6_26 C kd_92 gw_740 dX6_settles_40 ?_
      obtain ⟨w_48, e_49, hM⟩ := bd hM
      refine xp_6_5 C kd_92 gw_719 dX6_settles_43 ?_
      refine x_w e_49 ?_
      refine x_aload_n C dX6_settles_46 0 rfl rfl ?_
      refine x_aload_n C dX6_settles_47 0 rfl rfl ?_
      refine xg_6_27 C kd_92 gw_741 dX6_settles_48 ?_
      refine x_if_ge (tgt := 59) C dX6_settles_51 (by decide) (fun c_50 => ?_) (fun c_50 => ?_)
      · have hM := ip c_50 hM
        refine x_aload_n C dX6_settles_59 0 rfl rfl ?_
        refine xg_6_27 C kd_92 gw_741 dX6_settles_60 ?_
        obtain ⟨w_51, e_52, hM⟩ := bd hM
        refine xp_6_6 C kd_92 gw_720 dX6_settles_63 ?_
        refine x_w e_52 ?_
        refine x_aload_n C dX6_settles_66 0 rfl rfl ?_
        refine xg_6_7 C kd_92 gw_721 dX6_settles_67 ?_
        refine x_iconst (v := 0) C dX6_settles_70 (by decide) ?_
        refine x_iconst (v := 0) C dX6_settles_71 (by decide) ?_
        obtain ⟨w_53, e_54, hM⟩ := bd hM
        refine x_iast C kd_96 ln_96 (by decide) (j := 0) (by decide) dX6_settles_72 ?_
        refine x_w e_54 ?_
        refine x_aload_n C dX6_settles_73 0 rfl rfl ?_
        refine xg_6_7 C kd_92 gw_721 dX6_settles_74 ?_
        refine x_iconst (v := 1) C dX6_settles_77 (by decide) ?_
        refine x_aload_n C dX6_settles_78 0 rfl rfl ?_
        refine xg_6_4 C kd_92 gw_718 dX6_settles_79 ?_
        obtain ⟨w_55, e_56, hM⟩ := bd hM
        refine x_iast C kd_96 ln_96 (by decide) (j := 1) (by decide) dX6_settles_82 ?_
        refine x_w e_56 ?_
        refine x_iconst (v := 0) C dX6_settles_83 (by decide) ?_
        obtain ⟨x1_57, e_58, hM⟩ := bd hM
        refine x_top e_58 ?_
        refine x_istore_n (L' := [(1, .int x1_57), (0, .ref (ad g 92))]) C dX6_settles_84 rfl (by decide) rfl ?_
        refine x_sub (L' := [(0, .ref (ad g 92)), (1, .int x1_57)]) [1, 0] rfl ?_
        exact o_X6_settles_l85 C hR 300 x1_57 w_55 hM
      · have hM := iq c_50 hM
        refine x_bipush (v := 20) C dX6_settles_54 (by decide) ?_
        refine x_goto (tgt := 63) C dX6_settles_56 (by decide) ?_
        obtain ⟨w_59, e_60, hM⟩ := bd hM
        refine xp_6_6 C kd_92 gw_720 dX6_settles_63 ?_
        refine x_w e_60 ?_
        refine x_aload_n C dX6_settles_66 0 rfl rfl ?_
        refine xg_6_7 C kd_92 gw_721 dX6_settles_67 ?_
        refine x_iconst (v := 0) C dX6_settles_70 (by decide) ?_
        refine x_iconst (v := 0) C dX6_settles_71 (by decide) ?_
        obtain ⟨w_61, e_62, hM⟩ := bd hM
        refine x_iast C kd_96 ln_96 (by decide) (j := 0) (by decide) dX6_settles_72 ?_
        refine x_w e_62 ?_
        refine x_aload_n C dX6_settles_73 0 rfl rfl ?_
        refine xg_6_7 C kd_92 gw_721 dX6_settles_74 ?_
        refine x_iconst (v := 1) C dX6_settles_77 (by decide) ?_
        refine x_aload_n C dX6_settles_78 0 rfl rfl ?_
        refine xg_6_4 C kd_92 gw_718 dX6_settles_79 ?_
        obtain ⟨w_63, e_64, hM⟩ := bd hM
        refine x_iast C kd_96 ln_96 (by decide) (j := 1) (by decide) dX6_settles_82 ?_
        refine x_w e_64 ?_
        refine x_iconst (v := 0) C dX6_settles_83 (by decide) ?_
        obtain ⟨x1_65, e_66, hM⟩ := bd hM
        refine x_top e_66 ?_
        refine x_istore_n (L' := [(1, .int x1_65), (0, .ref (ad g 92))]) C dX6_settles_84 rfl (by decide) rfl ?_
        refine x_sub (L' := [(0, .ref (ad g 92)), (1, .int x1_65)]) [1, 0] rfl ?_
        exact o_X6_settles_l85 C hR 300 x1_65 w_63 hM
    · have hM := iq c_47 hM
      refine x_iconst (v := 1) C dX6_settles_35 (by decide) ?_
      refine x_goto (tgt := 43) C dX6_settles_36 (by decide) ?_
      obtain ⟨w_67, e_68, hM⟩ := bd hM
      refine xp_6_5 C kd_92 gw_719 dX6_settles_43 ?_
      refine x_w e_68 ?_
      refine x_aload_n C dX6_settles_46 0 rfl rfl ?_
      refine x_aload_n C dX6_settles_47 0 rfl rfl ?_
      refine xg_6_27 C kd_92 gw_741 dX6_settles_48 ?_
      refine x_if_ge (tgt := 59) C dX6_settles_51 (by decide) (fun c_69 => ?_) (fun c_69 => ?_)
      · have hM := ip c_69 hM
        refine x_aload_n C dX6_settles_59 0 rfl rfl ?_
        refine xg_6_27 C kd_92 gw_741 dX6_settles_60 ?_
        obtain ⟨w_70, e_71, hM⟩ := bd hM
        refine xp_6_6 C kd_92 gw_720 dX6_settles_63 ?_
        refine x_w e_71 ?_
        refine x_aload_n C dX6_settles_66 0 rfl rfl ?_
        refine xg_6_7 C kd_92 gw_721 dX6_settles_67 ?_
        refine x_iconst (v := 0) C dX6_settles_70 (by decide) ?_
        refine x_iconst (v := 0) C dX6_settles_71 (by decide) ?_
        obtain ⟨w_72, e_73, hM⟩ := bd hM
        refine x_iast C kd_96 ln_96 (by decide) (j := 0) (by decide) dX6_settles_72 ?_
        refine x_w e_73 ?_
        refine x_aload_n C dX6_settles_73 0 rfl rfl ?_
        refine xg_6_7 C kd_92 gw_721 dX6_settles_74 ?_
        refine x_iconst (v := 1) C dX6_settles_77 (by decide) ?_
        refine x_aload_n C dX6_settles_78 0 rfl rfl ?_
        refine xg_6_4 C kd_92 gw_718 dX6_settles_79 ?_
        obtain ⟨w_74, e_75, hM⟩ := bd hM
        refine x_iast C kd_96 ln_96 (by decide) (j := 1) (by decide) dX6_settles_82 ?_
        refine x_w e_75 ?_
        refine x_iconst (v := 0) C dX6_settles_83 (by decide) ?_
        obtain ⟨x1_76, e_77, hM⟩ := bd hM
        refine x_top e_77 ?_
        refine x_istore_n (L' := [(1, .int x1_76), (0, .ref (ad g 92))]) C dX6_settles_84 rfl (by decide) rfl ?_
        refine x_sub (L' := [(0, .ref (ad g 92)), (1, .int x1_76)]) [1, 0] rfl ?_
        exact o_X6_settles_l85 C hR 300 x1_76 w_74 hM
      · have hM := iq c_69 hM
        refine x_bipush (v := 20) C dX6_settles_54 (by decide) ?_
        refine x_goto (tgt := 63) C dX6_settles_56 (by decide) ?_
        obtain ⟨w_78, e_79, hM⟩ := bd hM
        refine xp_6_6 C kd_92 gw_720 dX6_settles_63 ?_
        refine x_w e_79 ?_
        refine x_aload_n C dX6_settles_66 0 rfl rfl ?_
        refine xg_6_7 C kd_92 gw_721 dX6_settles_67 ?_
        refine x_iconst (v := 0) C dX6_settles_70 (by decide) ?_
        refine x_iconst (v := 0) C dX6_settles_71 (by decide) ?_
        obtain ⟨w_80, e_81, hM⟩ := bd hM
        refine x_iast C kd_96 ln_96 (by decide) (j := 0) (by decide) dX6_settles_72 ?_
        refine x_w e_81 ?_
        refine x_aload_n C dX6_settles_73 0 rfl rfl ?_
        refine xg_6_7 C kd_92 gw_721 dX6_settles_74 ?_
        refine x_iconst (v := 1) C dX6_settles_77 (by decide) ?_
        refine x_aload_n C dX6_settles_78 0 rfl rfl ?_
        refine xg_6_4 C kd_92 gw_718 dX6_settles_79 ?_
        obtain ⟨w_82, e_83, hM⟩ := bd hM
        refine x_iast C kd_96 ln_96 (by decide) (j := 1) (by decide) dX6_settles_82 ?_
        refine x_w e_83 ?_
        refine x_iconst (v := 0) C dX6_settles_83 (by decide) ?_
        obtain ⟨x1_84, e_85, hM⟩ := bd hM
        refine x_top e_85 ?_
        refine x_istore_n (L' := [(1, .int x1_84), (0, .ref (ad g 92))]) C dX6_settles_84 rfl (by decide) rfl ?_
        refine x_sub (L' := [(0, .ref (ad g 92)), (1, .int x1_84)]) [1, 0] rfl ?_
        exact o_X6_settles_l85 C hR 300 x1_84 w_82 hM
theorem c_X6_settles (l : Launch) (g : Gx) (w : Wd) {rr : Unit} {wr : Wd} (hM : f_X6_settles w = some (rr, wr)) : MetM l yX6_settles cX6_settles 2 none rm_X6_settles g [.ref (ad g 92)] w none wr := by
  refine met_of (by decide) (Nat.le_of_ble_eq_true rfl) (fun E hl C hR => ?_)
  refine x_sub (L' := [(0, .ref (ad g 92))]) [0] rfl ?_
  exact o_X6_settles_b0 C hR w hM
abbrev rm_X6_pot : Room := { frames := 6, cells := 0, slots := 0, locals := 129 }
set_option maxHeartbeats 1000000 in
set_option maxRecDepth 20000 in
theorem o_X6_pot_b70 {E : Ex} {g : Gx} (C : Ctx E RX6 cX6_pot rm_X6_pot 1 g) {rr : Int32} {wr : Wd} (hR : Rets E g (some .int) (some (.int rr)) wr) (w : Wd) (hM : f_X6_pot_b70 w = some (rr, wr)) : Xx E 1 g 70 [(0, .ref (ad g 92))] [] w := by
  unfold f_X6_pot_b70 at hM
  refine x_aload_n C dX6_pot_70 0 rfl rfl ?_
  refine xg_6_21 C kd_92 gw_735 dX6_pot_71 ?_
  refine x_if_eq (tgt := 85) C dX6_pot_74 (by decide) (fun c_1 => ?_) (fun c_1 => ?_)
  · have hM := ip c_1 hM
    refine x_aload_n C dX6_pot_85 0 rfl rfl ?_
    obtain ⟨r_3, w_2, h_4, hM⟩ := cl hM
    refine x_callVv (As := []) C (c_X6_settles E.l g  w h_4) k_X6_settles kd_92 (by decide) rfl rfl gw_851 rfl rfl ⟨Nat.le_of_ble_eq_true rfl, Nat.le_of_ble_eq_true rfl⟩ rfl rfl (Nat.le_of_ble_eq_true rfl) dX6_pot_86 ?_
    refine x_aload_n C dX6_pot_89 0 rfl rfl ?_
    refine xg_6_22 C kd_92 gw_736 dX6_pot_90 ?_
    obtain ⟨rfl, rfl⟩ := rt hM
    exact x_iret C hR rfl dX6_pot_93
  · have hM := iq c_1 hM
    refine x_bipush (v := -10) C dX6_pot_77 (by decide) ?_
    refine x_aload_n C dX6_pot_79 0 rfl rfl ?_
    refine xg_6_18 C kd_92 gw_732 dX6_pot_80 ?_
    refine x_isub C dX6_pot_83 ?_
    obtain ⟨rfl, rfl⟩ := rt hM
    exact x_iret C hR rfl dX6_pot_84
set_option maxHeartbeats 1000000 in
set_option maxRecDepth 20000 in
theorem o_X6_pot_h39 {E : Ex} {g : Gx} (C : Ctx E RX6 cX6_pot rm_X6_pot 1 g) {rr : Int32} {wr : Wd} (hR : Rets E g (some .int) (some (.int rr)) wr) {kh39 : (Wd → Option (Int32 × Wd))} (Hh39 : ∀ (w : Wd), kh39 w = some (rr, wr) → Xx E 1 g 39 [(0, .ref (ad g 92))] [] w) (w : Wd) (hM : f_X6_pot_h39 kh39 w = some (rr, wr)) : Xx E 1 g 39 [(0, .ref (ad g 92))] [] w := by
  unfold f_X6_pot_h39 at hM
  refine x_aload_n C dX6_pot_39 0 rfl rfl ?_
  refine xg_6_19 C kd_92 gw_733 dX6_pot_40 ?_
  refine x_if_eq (tgt := 70) C dX6_pot_43 (by decide) (fun c_1 => ?_) (fun c_1 => ?_)
  · have hM := ip c_1 hM
    refine x_sub (L' := [(0, .ref (ad g 92))]) [0] rfl ?_
    exact o_X6_pot_b70 C hR w hM
  · have hM := iq c_1 hM
    refine x_aload_n C dX6_pot_46 0 rfl rfl ?_
    refine xg_6_21 C kd_92 gw_735 dX6_pot_47 ?_
    refine x_if_ne (tgt := 70) C dX6_pot_50 (by decide) (fun c_2 => ?_) (fun c_2 => ?_)
    · have hM := iq c_2 hM
      refine x_sub (L' := [(0, .ref (ad g 92))]) [0] rfl ?_
      exact o_X6_pot_b70 C hR w hM
    · have hM := ip c_2 hM
      refine x_aload_n C dX6_pot_53 0 rfl rfl ?_
      obtain ⟨r_4, w_3, h_5, hM⟩ := cl hM
      refine x_callVv (As := []) C (c_X6_readItem E.l g  w h_5) k_X6_readItem kd_92 (by decide) rfl rfl gw_835 rfl rfl ⟨Nat.le_of_ble_eq_true rfl, Nat.le_of_ble_eq_true rfl⟩ rfl rfl (Nat.le_of_ble_eq_true rfl) dX6_pot_54 ?_
      refine x_aload_n C dX6_pot_57 0 rfl rfl ?_
      refine x_dup C dX6_pot_58 rfl ?_
      refine xg_6_22 C kd_92 gw_736 dX6_pot_59 ?_
      refine x_iconst (v := 1) C dX6_pot_62 (by decide) ?_
      refine x_iadd C dX6_pot_63 ?_
      obtain ⟨w_6, e_7, hM⟩ := bd hM
      refine xp_6_22 C kd_92 gw_736 dX6_pot_64 ?_
      refine x_w e_7 ?_
      refine x_goto (tgt := 39) C dX6_pot_67 (by decide) ?_
      refine x_sub (L' := [(0, .ref (ad g 92))]) [0] rfl ?_
      exact Hh39 w_6 hM
theorem o_X6_pot_l39 {E : Ex} {g : Gx} (C : Ctx E RX6 cX6_pot rm_X6_pot 1 g) {rr : Int32} {wr : Wd} (hR : Rets E g (some .int) (some (.int rr)) wr) : ∀ (n : Nat) (w : Wd), f_X6_pot_l39 n w = some (rr, wr) → Xx E 1 g 39 [(0, .ref (ad g 92))] [] w := by
  intro n
  induction n with
  | zero =>
    intro w hM
    rw [f_X6_pot_l39] at hM
    cases hM
  | succ n ih =>
    intro w hM
    rw [f_X6_pot_l39] at hM
    exact o_X6_pot_h39 C hR ih w hM
set_option maxHeartbeats 1000000 in
set_option maxRecDepth 20000 in
theorem o_X6_pot_b0 {E : Ex} {g : Gx} (C : Ctx E RX6 cX6_pot rm_X6_pot 1 g) {rr : Int32} {wr : Wd} (hR : Rets E g (some .int) (some (.int rr)) wr) (w : Wd) (hM : f_X6_pot_b0 w = some (rr, wr)) : Xx E 1 g 0 [(0, .ref (ad g 92))] [] w := by
  unfold f_X6_pot_b0 at hM
  refine x_aload_n C dX6_pot_0 0 rfl rfl ?_
  refine x_iconst (v := 0) C dX6_pot_1 (by decide) ?_
  obtain ⟨w_1, e_2, hM⟩ := bd hM
  refine xp_6_17 C kd_92 gw_731 dX6_pot_2 ?_
  refine x_w e_2 ?_
  refine x_aload_n C dX6_pot_5 0 rfl rfl ?_
  refine x_iconst (v := 0) C dX6_pot_6 (by decide) ?_
  obtain ⟨w_3, e_4, hM⟩ := bd hM
  refine xp_6_21 C kd_92 (by decide) gw_735 dX6_pot_7 ?_
  refine x_w e_4 ?_
  refine x_aload_n C dX6_pot_10 0 rfl rfl ?_
  refine x_iconst (v := 0) C dX6_pot_11 (by decide) ?_
  obtain ⟨w_5, e_6, hM⟩ := bd hM
  refine xp_6_22 C kd_92 gw_736 dX6_pot_12 ?_
  refine x_w e_6 ?_
  refine x_aload_n C dX6_pot_15 0 rfl rfl ?_
  refine x_iconst (v := 0) C dX6_pot_16 (by decide) ?_
  obtain ⟨w_7, e_8, hM⟩ := bd hM
  refine xp_6_23 C kd_92 gw_737 dX6_pot_17 ?_
  refine x_w e_8 ?_
  refine x_aload_n C dX6_pot_20 0 rfl rfl ?_
  refine x_iconst (v := -1) C dX6_pot_21 (by decide) ?_
  obtain ⟨w_9, e_10, hM⟩ := bd hM
  refine xp_6_25 C kd_92 gw_739 dX6_pot_22 ?_
  refine x_w e_10 ?_
  refine x_aload_n C dX6_pot_25 0 rfl rfl ?_
  refine x_iconst (v := -1) C dX6_pot_26 (by decide) ?_
  obtain ⟨w_11, e_12, hM⟩ := bd hM
  refine xp_6_26 C kd_92 gw_740 dX6_pot_27 ?_
  refine x_w e_12 ?_
  refine x_aload_n C dX6_pot_30 0 rfl rfl ?_
  refine x_iconst (v := -1) C dX6_pot_31 (by decide) ?_
  obtain ⟨w_13, e_14, hM⟩ := bd hM
  refine xp_6_27 C kd_92 gw_741 dX6_pot_32 ?_
  refine x_w e_14 ?_
  refine x_aload_n C dX6_pot_35 0 rfl rfl ?_
  obtain ⟨r_16, w_15, h_17, hM⟩ := cl hM
  refine x_callVv (As := []) C (c_X6_next E.l g  w_13 h_17) k_X6_next kd_92 (by decide) rfl rfl gw_824 rfl rfl ⟨Nat.le_of_ble_eq_true rfl, Nat.le_of_ble_eq_true rfl⟩ rfl rfl (Nat.le_of_ble_eq_true rfl) dX6_pot_36 ?_
  refine x_sub (L' := [(0, .ref (ad g 92))]) [0] rfl ?_
  exact o_X6_pot_l39 C hR 300 w_15 hM
theorem c_X6_pot (l : Launch) (g : Gx) (w : Wd) {rr : Int32} {wr : Wd} (hM : f_X6_pot w = some (rr, wr)) : MetM l yX6_pot cX6_pot 1 (some .int) rm_X6_pot g [.ref (ad g 92)] w (some (.int rr)) wr := by
  refine met_of (by decide) (Nat.le_of_ble_eq_true rfl) (fun E hl C hR => ?_)
  refine x_sub (L' := [(0, .ref (ad g 92))]) [0] rfl ?_
  exact o_X6_pot_b0 C hR w hM
abbrev rm_X6_asItIs : Room := { frames := 1, cells := 0, slots := 0, locals := 24 }
set_option maxHeartbeats 1000000 in
set_option maxRecDepth 20000 in
theorem o_X6_asItIs_b0 {E : Ex} {g : Gx} (C : Ctx E RX6 cX6_asItIs rm_X6_asItIs 1 g) {rr : Unit} {wr : Wd} (hR : Rets E g none none wr) (w : Wd) (hM : f_X6_asItIs_b0 w = some (rr, wr)) : Xx E 1 g 0 [(0, .ref (ad g 92))] [] w := by
  unfold f_X6_asItIs_b0 at hM
  refine x_aload_n C dX6_asItIs_0 0 rfl rfl ?_
  refine xg_6_28 C kd_92 gw_742 dX6_asItIs_1 ?_
  refine x_iconst (v := 0) C dX6_asItIs_4 (by decide) ?_
  refine x_aload_n C dX6_asItIs_5 0 rfl rfl ?_
  refine xg_6_7 C kd_92 gw_721 dX6_asItIs_6 ?_
  refine x_iconst (v := 0) C dX6_asItIs_9 (by decide) ?_
  obtain ⟨r_2, w_1, h_3, hM⟩ := cl hM
  refine x_callSv (As := [.ref (ad g 103), .int (0 : Int32), .ref (ad g 96), .int (0 : Int32)]) C (c_X6_copy E.l g 103 96 (0 : Int32) (0 : Int32) kd_103 kd_96 w h_3) k_X6_copy gw_871 rfl rfl ⟨Nat.le_of_ble_eq_true rfl, Nat.le_of_ble_eq_true rfl⟩ rfl rfl (Nat.le_of_ble_eq_true rfl) dX6_asItIs_10 ?_
  obtain ⟨rfl, rfl⟩ := rt hM
  exact x_vret C hR rfl dX6_asItIs_13
theorem c_X6_asItIs (l : Launch) (g : Gx) (w : Wd) {rr : Unit} {wr : Wd} (hM : f_X6_asItIs w = some (rr, wr)) : MetM l yX6_asItIs cX6_asItIs 1 none rm_X6_asItIs g [.ref (ad g 92)] w none wr := by
  refine met_of (by decide) (Nat.le_of_ble_eq_true rfl) (fun E hl C hR => ?_)
  refine x_sub (L' := [(0, .ref (ad g 92))]) [0] rfl ?_
  exact o_X6_asItIs_b0 C hR w hM
abbrev rm_X6_swell : Room := { frames := 0, cells := 0, slots := 0, locals := 0 }
set_option maxHeartbeats 1000000 in
set_option maxRecDepth 20000 in
theorem o_X6_swell_h2 {E : Ex} {g : Gx} (C : Ctx E RX6 cX6_swell rm_X6_swell 3 g) {rr : Unit} {wr : Wd} (hR : Rets E g none none wr) {kh2 : (Int32 → Wd → Option (Unit × Wd))} (Hh2 : ∀ (x1 : Int32) (w : Wd), kh2 x1 w = some (rr, wr) → Xx E 3 g 2 [(0, .ref (ad g 92)), (1, .int x1)] [] w) (x1 : Int32) (w : Wd) (hM : f_X6_swell_h2 kh2 x1 w = some (rr, wr)) : Xx E 3 g 2 [(0, .ref (ad g 92)), (1, .int x1)] [] w := by
  unfold f_X6_swell_h2 at hM
  refine x_iload_n C dX6_swell_2 1 rfl rfl ?_
  refine x_aload_n C dX6_swell_3 0 rfl rfl ?_
  refine xg_6_0 C kd_92 gw_714 dX6_swell_4 ?_
  refine x_icmp_ge (tgt := 79) C dX6_swell_7 (by decide) (fun c_1 => ?_) (fun c_1 => ?_)
  · have hM := ip c_1 hM
    obtain ⟨rfl, rfl⟩ := rt hM
    exact x_vret C hR rfl dX6_swell_79
  · have hM := iq c_1 hM
    refine x_aload_n C dX6_swell_10 0 rfl rfl ?_
    refine xg_6_28 C kd_92 gw_742 dX6_swell_11 ?_
    refine x_bipush (v := 8) C dX6_swell_14 (by decide) ?_
    refine x_iload_n C dX6_swell_16 1 rfl rfl ?_
    refine x_iadd C dX6_swell_17 ?_
    obtain ⟨q_2, hM⟩ := gd hM
    refine x_iald C kd_103 ln_103 q_2 rfl dX6_swell_18 ?_
    refine x_aload_n C dX6_swell_19 0 rfl rfl ?_
    refine xg_6_2 C kd_92 gw_716 dX6_swell_20 ?_
    refine x_iload_n C dX6_swell_23 1 rfl rfl ?_
    obtain ⟨q_3, hM⟩ := gd hM
    refine x_iald C kd_94 ln_94 q_3 rfl dX6_swell_24 ?_
    refine x_iadd C dX6_swell_25 ?_
    obtain ⟨x2_4, e_5, hM⟩ := bd hM
    refine x_top e_5 ?_
    refine x_istore_n (L' := [(2, .int x2_4), (0, .ref (ad g 92)), (1, .int x1)]) C dX6_swell_26 rfl (by decide) rfl ?_
    refine x_aload_n C dX6_swell_27 1 rfl rfl ?_
    refine xg_6_28 C kd_92 gw_742 dX6_swell_28 ?_
    refine x_bipush (v := 8) C dX6_swell_31 (by decide) ?_
    refine x_iload_n C dX6_swell_33 2 rfl rfl ?_
    refine x_iadd C dX6_swell_34 ?_
    refine x_aload_n C dX6_swell_35 1 rfl rfl ?_
    refine xg_6_28 C kd_92 gw_742 dX6_swell_36 ?_
    refine x_iconst (v := 2) C dX6_swell_39 (by decide) ?_
    refine x_iload_n C dX6_swell_40 2 rfl rfl ?_
    refine x_iadd C dX6_swell_41 ?_
    obtain ⟨q_6, hM⟩ := gd hM
    refine x_iald C kd_103 ln_103 q_6 rfl dX6_swell_42 ?_
    refine x_bipush (v := -9) C dX6_swell_43 (by decide) ?_
    refine x_icmp_ne (tgt := 60) C dX6_swell_45 (by decide) (fun c_7 => ?_) (fun c_7 => ?_)
    · have hM := iq c_7 hM
      refine x_iload_n C dX6_swell_60 0 rfl rfl ?_
      refine x_bipush (v := 30) C dX6_swell_61 (by decide) ?_
      refine x_icmp_le (tgt := 71) C dX6_swell_63 (by decide) (fun c_8 => ?_) (fun c_8 => ?_)
      · have hM := ip c_8 hM
        refine x_iload_n C dX6_swell_71 0 rfl rfl ?_
        obtain ⟨q_9, hM⟩ := gd hM
        obtain ⟨w_10, e_11, hM⟩ := bd hM
        refine x_iast C kd_103 ln_103 q_9 rfl dX6_swell_72 ?_
        refine x_w e_11 ?_
        obtain ⟨x1_12, e_13, hM⟩ := bd hM
        refine x_iinc (L' := [(1, .int x1_12), (2, .int x2_4), (0, .ref (ad g 92))]) C dX6_swell_73 2 rfl (v := x1_12) (by rw [e_13]; first | rfl | decide) (by decide) rfl ?_
        refine x_goto (tgt := 2) C dX6_swell_76 (by decide) ?_
        refine x_sub (L' := [(0, .ref (ad g 92)), (1, .int x1_12)]) [2, 0] rfl ?_
        exact Hh2 x1_12 w_10 hM
      · have hM := iq c_8 hM
        refine x_bipush (v := 30) C dX6_swell_66 (by decide) ?_
        refine x_goto (tgt := 72) C dX6_swell_68 (by decide) ?_
        obtain ⟨q_14, hM⟩ := gd hM
        obtain ⟨w_15, e_16, hM⟩ := bd hM
        refine x_iast C kd_103 ln_103 q_14 rfl dX6_swell_72 ?_
        refine x_w e_16 ?_
        obtain ⟨x1_17, e_18, hM⟩ := bd hM
        refine x_iinc (L' := [(1, .int x1_17), (2, .int x2_4), (0, .ref (ad g 92))]) C dX6_swell_73 2 rfl (v := x1_17) (by rw [e_18]; first | rfl | decide) (by decide) rfl ?_
        refine x_goto (tgt := 2) C dX6_swell_76 (by decide) ?_
        refine x_sub (L' := [(0, .ref (ad g 92)), (1, .int x1_17)]) [2, 0] rfl ?_
        exact Hh2 x1_17 w_15 hM
    · have hM := ip c_7 hM
      refine x_aload_n C dX6_swell_48 1 rfl rfl ?_
      refine xg_6_28 C kd_92 gw_742 dX6_swell_49 ?_
      refine x_bipush (v := 8) C dX6_swell_52 (by decide) ?_
      refine x_iload_n C dX6_swell_54 2 rfl rfl ?_
      refine x_iadd C dX6_swell_55 ?_
      obtain ⟨q_19, hM⟩ := gd hM
      refine x_iald C kd_103 ln_103 q_19 rfl dX6_swell_56 ?_
      refine x_goto (tgt := 72) C dX6_swell_57 (by decide) ?_
      obtain ⟨q_20, hM⟩ := gd hM
      obtain ⟨w_21, e_22, hM⟩ := bd hM
      refine x_iast C kd_103 ln_103 q_20 rfl dX6_swell_72 ?_
      refine x_w e_22 ?_
      obtain ⟨x1_23, e_24, hM⟩ := bd hM
      refine x_iinc (L' := [(1, .int x1_23), (2, .int x2_4), (0, .ref (ad g 92))]) C dX6_swell_73 2 rfl (v := x1_23) (by rw [e_24]; first | rfl | decide) (by decide) rfl ?_
      refine x_goto (tgt := 2) C dX6_swell_76 (by decide) ?_
      refine x_sub (L' := [(0, .ref (ad g 92)), (1, .int x1_23)]) [2, 0] rfl ?_
      exact Hh2 x1_23 w_21 hM
theorem o_X6_swell_l2 {E : Ex} {g : Gx} (C : Ctx E RX6 cX6_swell rm_X6_swell 3 g) {rr : Unit} {wr : Wd} (hR : Rets E g none none wr) : ∀ (n : Nat) (x1 : Int32) (w : Wd), f_X6_swell_l2 n x1 w = some (rr, wr) → Xx E 3 g 2 [(0, .ref (ad g 92)), (1, .int x1)] [] w := by
  intro n
  induction n with
  | zero =>
    intro x1 w hM
    rw [f_X6_swell_l2] at hM
    cases hM
  | succ n ih =>
    intro x1 w hM
    rw [f_X6_swell_l2] at hM
    exact o_X6_swell_h2 C hR ih x1 w hM
set_option maxHeartbeats 1000000 in
set_option maxRecDepth 20000 in
theorem o_X6_swell_b0 {E : Ex} {g : Gx} (C : Ctx E RX6 cX6_swell rm_X6_swell 3 g) {rr : Unit} {wr : Wd} (hR : Rets E g none none wr) (w : Wd) (hM : f_X6_swell_b0 w = some (rr, wr)) : Xx E 3 g 0 [(0, .ref (ad g 92))] [] w := by
  unfold f_X6_swell_b0 at hM
  refine x_iconst (v := 0) C dX6_swell_0 (by decide) ?_
  obtain ⟨x1_1, e_2, hM⟩ := bd hM
  refine x_top e_2 ?_
  refine x_istore_n (L' := [(1, .int x1_1), (0, .ref (ad g 92))]) C dX6_swell_1 rfl (by decide) rfl ?_
  refine x_sub (L' := [(0, .ref (ad g 92)), (1, .int x1_1)]) [1, 0] rfl ?_
  exact o_X6_swell_l2 C hR 300 x1_1 w hM
theorem c_X6_swell (l : Launch) (g : Gx) (w : Wd) {rr : Unit} {wr : Wd} (hM : f_X6_swell w = some (rr, wr)) : MetM l yX6_swell cX6_swell 3 none rm_X6_swell g [.ref (ad g 92)] w none wr := by
  refine met_of (by decide) (Nat.le_of_ble_eq_true rfl) (fun E hl C hR => ?_)
  refine x_sub (L' := [(0, .ref (ad g 92))]) [0] rfl ?_
  exact o_X6_swell_b0 C hR w hM
abbrev rm_X6_lift : Room := { frames := 1, cells := 0, slots := 0, locals := 21 }
set_option maxHeartbeats 1000000 in
set_option maxRecDepth 20000 in
theorem o_X6_lift_h4 {E : Ex} {g : Gx} (C : Ctx E RX6 cX6_lift rm_X6_lift 4 g) {rr : Int32} {wr : Wd} (hR : Rets E g (some .int) (some (.int rr)) wr) {kh4 : (Int32 → Int32 → Int32 → Wd → Option (Int32 × Wd))} (Hh4 : ∀ (x1 : Int32) (x2 : Int32) (x3 : Int32) (w : Wd), kh4 x1 x2 x3 w = some (rr, wr) → Xx E 4 g 4 [(0, .ref (ad g 92)), (1, .int x1), (2, .int x2), (3, .int x3)] [] w) (x1 : Int32) (x2 : Int32) (x3 : Int32) (w : Wd) (hM : f_X6_lift_h4 kh4 x1 x2 x3 w = some (rr, wr)) : Xx E 4 g 4 [(0, .ref (ad g 92)), (1, .int x1), (2, .int x2), (3, .int x3)] [] w := by
  unfold f_X6_lift_h4 at hM
  refine x_iload_n C dX6_lift_4 3 rfl rfl ?_
  refine x_aload_n C dX6_lift_5 0 rfl rfl ?_
  refine xg_6_0 C kd_92 gw_714 dX6_lift_6 ?_
  refine x_icmp_ge (tgt := 56) C dX6_lift_9 (by decide) (fun c_1 => ?_) (fun c_1 => ?_)
  · have hM := ip c_1 hM
    refine x_iload_n C dX6_lift_56 2 rfl rfl ?_
    obtain ⟨rfl, rfl⟩ := rt hM
    exact x_iret C hR rfl dX6_lift_57
  · have hM := iq c_1 hM
    refine x_iload_n C dX6_lift_12 2 rfl rfl ?_
    refine x_iload_n C dX6_lift_13 1 rfl rfl ?_
    refine x_iload_n C dX6_lift_14 3 rfl rfl ?_
    obtain ⟨r_3, w_2, h_4, hM⟩ := cl hM
    refine x_callS (As := [.int x1, .int x3]) C (c_X6_has E.l g x1 x3 w h_4) k_X6_has gw_890 rfl rfl ⟨Nat.le_of_ble_eq_true rfl, Nat.le_of_ble_eq_true rfl⟩ rfl rfl (Nat.le_of_ble_eq_true rfl) dX6_lift_15 ?_
    refine x_if_eq (tgt := 47) C dX6_lift_18 (by decide) (fun c_5 => ?_) (fun c_5 => ?_)
    · have hM := ip c_5 hM
      refine x_iconst (v := 0) C dX6_lift_47 (by decide) ?_
      refine x_iadd C dX6_lift_48 ?_
      obtain ⟨x2_6, e_7, hM⟩ := bd hM
      refine x_top e_7 ?_
      refine x_istore_n (L' := [(2, .int x2_6), (0, .ref (ad g 92)), (1, .int x1), (3, .int x3)]) C dX6_lift_49 rfl (by decide) rfl ?_
      obtain ⟨x3_8, e_9, hM⟩ := bd hM
      refine x_iinc (L' := [(3, .int x3_8), (2, .int x2_6), (0, .ref (ad g 92)), (1, .int x1)]) C dX6_lift_50 3 rfl (v := x3_8) (by rw [e_9]; first | rfl | decide) (by decide) rfl ?_
      refine x_goto (tgt := 4) C dX6_lift_53 (by decide) ?_
      refine x_sub (L' := [(0, .ref (ad g 92)), (1, .int x1), (2, .int x2_6), (3, .int x3_8)]) [2, 3, 1, 0] rfl ?_
      exact Hh4 x1 x2_6 x3_8 w_2 hM
    · have hM := iq c_5 hM
      refine x_aload_n C dX6_lift_21 0 rfl rfl ?_
      refine xg_6_28 C kd_92 gw_742 dX6_lift_22 ?_
      refine x_bipush (v := 8) C dX6_lift_25 (by decide) ?_
      refine x_iload_n C dX6_lift_27 3 rfl rfl ?_
      refine x_iadd C dX6_lift_28 ?_
      obtain ⟨q_10, hM⟩ := gd hM
      refine x_iald C kd_103 ln_103 q_10 rfl dX6_lift_29 ?_
      refine x_aload_n C dX6_lift_30 0 rfl rfl ?_
      refine xg_6_28 C kd_92 gw_742 dX6_lift_31 ?_
      refine x_iconst (v := 1) C dX6_lift_34 (by decide) ?_
      refine x_iald C kd_103 ln_103 (by decide) (j := 1) (by decide) dX6_lift_35 ?_
      refine x_iadd C dX6_lift_36 ?_
      refine x_aload_n C dX6_lift_37 0 rfl rfl ?_
      refine xg_6_1 C kd_92 gw_715 dX6_lift_38 ?_
      refine x_iload_n C dX6_lift_41 3 rfl rfl ?_
      obtain ⟨q_11, hM⟩ := gd hM
      refine x_iald C kd_93 ln_93 q_11 rfl dX6_lift_42 ?_
      refine x_isub C dX6_lift_43 ?_
      refine x_goto (tgt := 48) C dX6_lift_44 (by decide) ?_
      refine x_iadd C dX6_lift_48 ?_
      obtain ⟨x2_12, e_13, hM⟩ := bd hM
      refine x_top e_13 ?_
      refine x_istore_n (L' := [(2, .int x2_12), (0, .ref (ad g 92)), (1, .int x1), (3, .int x3)]) C dX6_lift_49 rfl (by decide) rfl ?_
      obtain ⟨x3_14, e_15, hM⟩ := bd hM
      refine x_iinc (L' := [(3, .int x3_14), (2, .int x2_12), (0, .ref (ad g 92)), (1, .int x1)]) C dX6_lift_50 3 rfl (v := x3_14) (by rw [e_15]; first | rfl | decide) (by decide) rfl ?_
      refine x_goto (tgt := 4) C dX6_lift_53 (by decide) ?_
      refine x_sub (L' := [(0, .ref (ad g 92)), (1, .int x1), (2, .int x2_12), (3, .int x3_14)]) [2, 3, 1, 0] rfl ?_
      exact Hh4 x1 x2_12 x3_14 w_2 hM
theorem o_X6_lift_l4 {E : Ex} {g : Gx} (C : Ctx E RX6 cX6_lift rm_X6_lift 4 g) {rr : Int32} {wr : Wd} (hR : Rets E g (some .int) (some (.int rr)) wr) : ∀ (n : Nat) (x1 : Int32) (x2 : Int32) (x3 : Int32) (w : Wd), f_X6_lift_l4 n x1 x2 x3 w = some (rr, wr) → Xx E 4 g 4 [(0, .ref (ad g 92)), (1, .int x1), (2, .int x2), (3, .int x3)] [] w := by
  intro n
  induction n with
  | zero =>
    intro x1 x2 x3 w hM
    rw [f_X6_lift_l4] at hM
    cases hM
  | succ n ih =>
    intro x1 x2 x3 w hM
    rw [f_X6_lift_l4] at hM
    exact o_X6_lift_h4 C hR ih x1 x2 x3 w hM
set_option maxHeartbeats 1000000 in
set_option maxRecDepth 20000 in
theorem o_X6_lift_b0 {E : Ex} {g : Gx} (C : Ctx E RX6 cX6_lift rm_X6_lift 4 g) {rr : Int32} {wr : Wd} (hR : Rets E g (some .int) (some (.int rr)) wr) (x1 : Int32) (w : Wd) (hM : f_X6_lift_b0 x1 w = some (rr, wr)) : Xx E 4 g 0 [(0, .ref (ad g 92)), (1, .int x1)] [] w := by
  unfold f_X6_lift_b0 at hM
  refine x_iconst (v := 0) C dX6_lift_0 (by decide) ?_
  obtain ⟨x2_1, e_2, hM⟩ := bd hM
  refine x_top e_2 ?_
  refine x_istore_n (L' := [(2, .int x2_1), (0, .ref (ad g 92)), (1, .int x1)]) C dX6_lift_1 rfl (by decide) rfl ?_
  refine x_iconst (v := 0) C dX6_lift_2 (by decide) ?_
  obtain ⟨x3_3, e_4, hM⟩ := bd hM
  refine x_top e_4 ?_
  refine x_istore_n (L' := [(3, .int x3_3), (2, .int x2_1), (0, .ref (ad g 92)), (1, .int x1)]) C dX6_lift_3 rfl (by decide) rfl ?_
  refine x_sub (L' := [(0, .ref (ad g 92)), (1, .int x1), (2, .int x2_1), (3, .int x3_3)]) [2, 3, 1, 0] rfl ?_
  exact o_X6_lift_l4 C hR 300 x1 x2_1 x3_3 w hM
theorem c_X6_lift (l : Launch) (g : Gx) (x1 : Int32) (w : Wd) {rr : Int32} {wr : Wd} (hM : f_X6_lift x1 w = some (rr, wr)) : MetM l yX6_lift cX6_lift 4 (some .int) rm_X6_lift g [.ref (ad g 92), .int x1] w (some (.int rr)) wr := by
  refine met_of (by decide) (Nat.le_of_ble_eq_true rfl) (fun E hl C hR => ?_)
  refine x_sub (L' := [(0, .ref (ad g 92)), (1, .int x1)]) [0, 1] rfl ?_
  exact o_X6_lift_b0 C hR x1 w hM
abbrev rm_X6_floats : Room := { frames := 2, cells := 0, slots := 0, locals := 44 }
set_option maxHeartbeats 1000000 in
set_option maxRecDepth 20000 in
theorem o_X6_floats_b92 {E : Ex} {g : Gx} (C : Ctx E RX6 cX6_floats rm_X6_floats 4 g) {rr : Unit} {wr : Wd} (hR : Rets E g none none wr) {kh2 : (Int32 → Wd → Option (Unit × Wd))} (Hh2 : ∀ (x1 : Int32) (w : Wd), kh2 x1 w = some (rr, wr) → Xx E 4 g 2 [(0, .ref (ad g 92)), (1, .int x1)] [] w) (x1 : Int32) (w : Wd) (hM : f_X6_floats_b92 kh2 x1 w = some (rr, wr)) : Xx E 4 g 92 [(0, .ref (ad g 92)), (1, .int x1)] [] w := by
  unfold f_X6_floats_b92 at hM
  obtain ⟨x1_1, e_2, hM⟩ := bd hM
  refine x_iinc (L' := [(1, .int x1_1), (0, .ref (ad g 92))]) C dX6_floats_92 1 rfl (v := x1_1) (by rw [e_2]; first | rfl | decide) (by decide) rfl ?_
  refine x_goto (tgt := 2) C dX6_floats_95 (by decide) ?_
  refine x_sub (L' := [(0, .ref (ad g 92)), (1, .int x1_1)]) [1, 0] rfl ?_
  exact Hh2 x1_1 w hM
set_option maxHeartbeats 1000000 in
set_option maxRecDepth 20000 in
theorem o_X6_floats_h2 {E : Ex} {g : Gx} (C : Ctx E RX6 cX6_floats rm_X6_floats 4 g) {rr : Unit} {wr : Wd} (hR : Rets E g none none wr) {kh2 : (Int32 → Wd → Option (Unit × Wd))} (Hh2 : ∀ (x1 : Int32) (w : Wd), kh2 x1 w = some (rr, wr) → Xx E 4 g 2 [(0, .ref (ad g 92)), (1, .int x1)] [] w) (x1 : Int32) (w : Wd) (hM : f_X6_floats_h2 kh2 x1 w = some (rr, wr)) : Xx E 4 g 2 [(0, .ref (ad g 92)), (1, .int x1)] [] w := by
  unfold f_X6_floats_h2 at hM
  refine x_iload_n C dX6_floats_2 1 rfl rfl ?_
  refine x_aload_n C dX6_floats_3 0 rfl rfl ?_
  refine xg_6_0 C kd_92 gw_714 dX6_floats_4 ?_
  refine x_icmp_ge (tgt := 98) C dX6_floats_7 (by decide) (fun c_1 => ?_) (fun c_1 => ?_)
  · have hM := ip c_1 hM
    obtain ⟨rfl, rfl⟩ := rt hM
    exact x_vret C hR rfl dX6_floats_98
  · have hM := iq c_1 hM
    refine x_aload_n C dX6_floats_10 0 rfl rfl ?_
    refine x_aload_n C dX6_floats_11 0 rfl rfl ?_
    refine xg_6_28 C kd_92 gw_742 dX6_floats_12 ?_
    refine x_bipush (v := 14) C dX6_floats_15 (by decide) ?_
    refine x_iload_n C dX6_floats_17 1 rfl rfl ?_
    refine x_iadd C dX6_floats_18 ?_
    obtain ⟨q_2, hM⟩ := gd hM
    refine x_iald C kd_103 ln_103 q_2 rfl dX6_floats_19 ?_
    obtain ⟨r_4, w_3, h_5, hM⟩ := cl hM
    refine x_callV (As := [.int (wget w 103 (((14 : Int32) + x1).toNatClampNeg))]) C (c_X6_lift E.l g (wget w 103 (((14 : Int32) + x1).toNatClampNeg)) w h_5) k_X6_lift kd_92 (by decide) rfl rfl gw_928 rfl rfl ⟨Nat.le_of_ble_eq_true rfl, Nat.le_of_ble_eq_true rfl⟩ rfl rfl (Nat.le_of_ble_eq_true rfl) dX6_floats_20 ?_
    obtain ⟨x2_6, e_7, hM⟩ := bd hM
    refine x_top e_7 ?_
    refine x_istore_n (L' := [(2, .int x2_6), (0, .ref (ad g 92)), (1, .int x1)]) C dX6_floats_23 rfl (by decide) rfl ?_
    refine x_aload_n C dX6_floats_24 1 rfl rfl ?_
    refine xg_6_28 C kd_92 gw_742 dX6_floats_25 ?_
    refine x_iconst (v := 2) C dX6_floats_28 (by decide) ?_
    refine x_iload_n C dX6_floats_29 2 rfl rfl ?_
    refine x_iadd C dX6_floats_30 ?_
    obtain ⟨q_8, hM⟩ := gd hM
    refine x_iald C kd_103 ln_103 q_8 rfl dX6_floats_31 ?_
    refine x_bipush (v := -9) C dX6_floats_32 (by decide) ?_
    refine x_icmp_eq (tgt := 92) C dX6_floats_34 (by decide) (fun c_9 => ?_) (fun c_9 => ?_)
    · have hM := ip c_9 hM
      refine x_sub (L' := [(0, .ref (ad g 92)), (1, .int x1)]) [1, 2] rfl ?_
      exact o_X6_floats_b92 C hR Hh2 x1 w_3 hM
    · have hM := iq c_9 hM
      refine x_aload_n C dX6_floats_37 1 rfl rfl ?_
      refine xg_6_28 C kd_92 gw_742 dX6_floats_38 ?_
      refine x_iconst (v := 2) C dX6_floats_41 (by decide) ?_
      refine x_iload_n C dX6_floats_42 2 rfl rfl ?_
      refine x_iadd C dX6_floats_43 ?_
      obtain ⟨q_10, hM⟩ := gd hM
      refine x_iald C kd_103 ln_103 q_10 rfl dX6_floats_44 ?_
      refine x_iload_n C dX6_floats_45 0 rfl rfl ?_
      refine x_if_le (tgt := 53) C dX6_floats_46 (by decide) (fun c_11 => ?_) (fun c_11 => ?_)
      · have hM := ip c_11 hM
        refine x_iload_n C dX6_floats_53 0 rfl rfl ?_
        refine x_if_ge (tgt := 61) C dX6_floats_54 (by decide) (fun c_12 => ?_) (fun c_12 => ?_)
        · have hM := ip c_12 hM
          refine x_iconst (v := 0) C dX6_floats_61 (by decide) ?_
          refine x_isub C dX6_floats_62 ?_
          obtain ⟨x3_13, e_14, hM⟩ := bd hM
          refine x_top e_14 ?_
          refine x_istore_n (L' := [(3, .int x3_13), (2, .int x2_6), (0, .ref (ad g 92)), (1, .int x1)]) C dX6_floats_63 rfl (by decide) rfl ?_
          refine x_aload_n C dX6_floats_64 2 rfl rfl ?_
          refine xg_6_28 C kd_92 gw_742 dX6_floats_65 ?_
          refine x_iconst (v := 2) C dX6_floats_68 (by decide) ?_
          refine x_iload_n C dX6_floats_69 3 rfl rfl ?_
          refine x_iadd C dX6_floats_70 ?_
          refine x_iload_n C dX6_floats_71 0 rfl rfl ?_
          refine x_if_ge (tgt := 79) C dX6_floats_72 (by decide) (fun c_15 => ?_) (fun c_15 => ?_)
          · have hM := ip c_15 hM
            refine x_iload_n C dX6_floats_79 0 rfl rfl ?_
            refine x_bipush (v := 10) C dX6_floats_80 (by decide) ?_
            refine x_icmp_le (tgt := 90) C dX6_floats_82 (by decide) (fun c_16 => ?_) (fun c_16 => ?_)
            · have hM := ip c_16 hM
              refine x_iload_n C dX6_floats_90 0 rfl rfl ?_
              obtain ⟨q_17, hM⟩ := gd hM
              obtain ⟨w_18, e_19, hM⟩ := bd hM
              refine x_iast C kd_103 ln_103 q_17 rfl dX6_floats_91 ?_
              refine x_w e_19 ?_
              refine x_sub (L' := [(0, .ref (ad g 92)), (1, .int x1)]) [2, 3] rfl ?_
              exact o_X6_floats_b92 C hR Hh2 x1 w_18 hM
            · have hM := iq c_16 hM
              refine x_bipush (v := 10) C dX6_floats_85 (by decide) ?_
              refine x_goto (tgt := 91) C dX6_floats_87 (by decide) ?_
              obtain ⟨q_20, hM⟩ := gd hM
              obtain ⟨w_21, e_22, hM⟩ := bd hM
              refine x_iast C kd_103 ln_103 q_20 rfl dX6_floats_91 ?_
              refine x_w e_22 ?_
              refine x_sub (L' := [(0, .ref (ad g 92)), (1, .int x1)]) [2, 3] rfl ?_
              exact o_X6_floats_b92 C hR Hh2 x1 w_21 hM
          · have hM := iq c_15 hM
            refine x_iconst (v := 0) C dX6_floats_75 (by decide) ?_
            refine x_goto (tgt := 91) C dX6_floats_76 (by decide) ?_
            obtain ⟨q_23, hM⟩ := gd hM
            obtain ⟨w_24, e_25, hM⟩ := bd hM
            refine x_iast C kd_103 ln_103 q_23 rfl dX6_floats_91 ?_
            refine x_w e_25 ?_
            refine x_sub (L' := [(0, .ref (ad g 92)), (1, .int x1)]) [2, 3] rfl ?_
            exact o_X6_floats_b92 C hR Hh2 x1 w_24 hM
        · have hM := iq c_12 hM
          refine x_iconst (v := -1) C dX6_floats_57 (by decide) ?_
          refine x_goto (tgt := 62) C dX6_floats_58 (by decide) ?_
          refine x_isub C dX6_floats_62 ?_
          obtain ⟨x3_26, e_27, hM⟩ := bd hM
          refine x_top e_27 ?_
          refine x_istore_n (L' := [(3, .int x3_26), (2, .int x2_6), (0, .ref (ad g 92)), (1, .int x1)]) C dX6_floats_63 rfl (by decide) rfl ?_
          refine x_aload_n C dX6_floats_64 2 rfl rfl ?_
          refine xg_6_28 C kd_92 gw_742 dX6_floats_65 ?_
          refine x_iconst (v := 2) C dX6_floats_68 (by decide) ?_
          refine x_iload_n C dX6_floats_69 3 rfl rfl ?_
          refine x_iadd C dX6_floats_70 ?_
          refine x_iload_n C dX6_floats_71 0 rfl rfl ?_
          refine x_if_ge (tgt := 79) C dX6_floats_72 (by decide) (fun c_28 => ?_) (fun c_28 => ?_)
          · have hM := ip c_28 hM
            refine x_iload_n C dX6_floats_79 0 rfl rfl ?_
            refine x_bipush (v := 10) C dX6_floats_80 (by decide) ?_
            refine x_icmp_le (tgt := 90) C dX6_floats_82 (by decide) (fun c_29 => ?_) (fun c_29 => ?_)
            · have hM := ip c_29 hM
              refine x_iload_n C dX6_floats_90 0 rfl rfl ?_
              obtain ⟨q_30, hM⟩ := gd hM
              obtain ⟨w_31, e_32, hM⟩ := bd hM
              refine x_iast C kd_103 ln_103 q_30 rfl dX6_floats_91 ?_
              refine x_w e_32 ?_
              refine x_sub (L' := [(0, .ref (ad g 92)), (1, .int x1)]) [2, 3] rfl ?_
              exact o_X6_floats_b92 C hR Hh2 x1 w_31 hM
            · have hM := iq c_29 hM
              refine x_bipush (v := 10) C dX6_floats_85 (by decide) ?_
              refine x_goto (tgt := 91) C dX6_floats_87 (by decide) ?_
              obtain ⟨q_33, hM⟩ := gd hM
              obtain ⟨w_34, e_35, hM⟩ := bd hM
              refine x_iast C kd_103 ln_103 q_33 rfl dX6_floats_91 ?_
              refine x_w e_35 ?_
              refine x_sub (L' := [(0, .ref (ad g 92)), (1, .int x1)]) [2, 3] rfl ?_
              exact o_X6_floats_b92 C hR Hh2 x1 w_34 hM
          · have hM := iq c_28 hM
            refine x_iconst (v := 0) C dX6_floats_75 (by decide) ?_
            refine x_goto (tgt := 91) C dX6_floats_76 (by decide) ?_
            obtain ⟨q_36, hM⟩ := gd hM
            obtain ⟨w_37, e_38, hM⟩ := bd hM
            refine x_iast C kd_103 ln_103 q_36 rfl dX6_floats_91 ?_
            refine x_w e_38 ?_
            refine x_sub (L' := [(0, .ref (ad g 92)), (1, .int x1)]) [2, 3] rfl ?_
            exact o_X6_floats_b92 C hR Hh2 x1 w_37 hM
      · have hM := iq c_11 hM
        refine x_iconst (v := 1) C dX6_floats_49 (by decide) ?_
        refine x_goto (tgt := 62) C dX6_floats_50 (by decide) ?_
        refine x_isub C dX6_floats_62 ?_
        obtain ⟨x3_39, e_40, hM⟩ := bd hM
        refine x_top e_40 ?_
        refine x_istore_n (L' := [(3, .int x3_39), (2, .int x2_6), (0, .ref (ad g 92)), (1, .int x1)]) C dX6_floats_63 rfl (by decide) rfl ?_
        refine x_aload_n C dX6_floats_64 2 rfl rfl ?_
        refine xg_6_28 C kd_92 gw_742 dX6_floats_65 ?_
        refine x_iconst (v := 2) C dX6_floats_68 (by decide) ?_
        refine x_iload_n C dX6_floats_69 3 rfl rfl ?_
        refine x_iadd C dX6_floats_70 ?_
        refine x_iload_n C dX6_floats_71 0 rfl rfl ?_
        refine x_if_ge (tgt := 79) C dX6_floats_72 (by decide) (fun c_41 => ?_) (fun c_41 => ?_)
        · have hM := ip c_41 hM
          refine x_iload_n C dX6_floats_79 0 rfl rfl ?_
          refine x_bipush (v := 10) C dX6_floats_80 (by decide) ?_
          refine x_icmp_le (tgt := 90) C dX6_floats_82 (by decide) (fun c_42 => ?_) (fun c_42 => ?_)
          · have hM := ip c_42 hM
            refine x_iload_n C dX6_floats_90 0 rfl rfl ?_
            obtain ⟨q_43, hM⟩ := gd hM
            obtain ⟨w_44, e_45, hM⟩ := bd hM
            refine x_iast C kd_103 ln_103 q_43 rfl dX6_floats_91 ?_
            refine x_w e_45 ?_
            refine x_sub (L' := [(0, .ref (ad g 92)), (1, .int x1)]) [2, 3] rfl ?_
            exact o_X6_floats_b92 C hR Hh2 x1 w_44 hM
          · have hM := iq c_42 hM
            refine x_bipush (v := 10) C dX6_floats_85 (by decide) ?_
            refine x_goto (tgt := 91) C dX6_floats_87 (by decide) ?_
            obtain ⟨q_46, hM⟩ := gd hM
            obtain ⟨w_47, e_48, hM⟩ := bd hM
            refine x_iast C kd_103 ln_103 q_46 rfl dX6_floats_91 ?_
            refine x_w e_48 ?_
            refine x_sub (L' := [(0, .ref (ad g 92)), (1, .int x1)]) [2, 3] rfl ?_
            exact o_X6_floats_b92 C hR Hh2 x1 w_47 hM
        · have hM := iq c_41 hM
          refine x_iconst (v := 0) C dX6_floats_75 (by decide) ?_
          refine x_goto (tgt := 91) C dX6_floats_76 (by decide) ?_
          obtain ⟨q_49, hM⟩ := gd hM
          obtain ⟨w_50, e_51, hM⟩ := bd hM
          refine x_iast C kd_103 ln_103 q_49 rfl dX6_floats_91 ?_
          refine x_w e_51 ?_
          refine x_sub (L' := [(0, .ref (ad g 92)), (1, .int x1)]) [2, 3] rfl ?_
          exact o_X6_floats_b92 C hR Hh2 x1 w_50 hM
theorem o_X6_floats_l2 {E : Ex} {g : Gx} (C : Ctx E RX6 cX6_floats rm_X6_floats 4 g) {rr : Unit} {wr : Wd} (hR : Rets E g none none wr) : ∀ (n : Nat) (x1 : Int32) (w : Wd), f_X6_floats_l2 n x1 w = some (rr, wr) → Xx E 4 g 2 [(0, .ref (ad g 92)), (1, .int x1)] [] w := by
  intro n
  induction n with
  | zero =>
    intro x1 w hM
    rw [f_X6_floats_l2] at hM
    cases hM
  | succ n ih =>
    intro x1 w hM
    rw [f_X6_floats_l2] at hM
    exact o_X6_floats_h2 C hR ih x1 w hM
set_option maxHeartbeats 1000000 in
set_option maxRecDepth 20000 in
theorem o_X6_floats_b0 {E : Ex} {g : Gx} (C : Ctx E RX6 cX6_floats rm_X6_floats 4 g) {rr : Unit} {wr : Wd} (hR : Rets E g none none wr) (w : Wd) (hM : f_X6_floats_b0 w = some (rr, wr)) : Xx E 4 g 0 [(0, .ref (ad g 92))] [] w := by
  unfold f_X6_floats_b0 at hM
  refine x_iconst (v := 0) C dX6_floats_0 (by decide) ?_
  obtain ⟨x1_1, e_2, hM⟩ := bd hM
  refine x_top e_2 ?_
  refine x_istore_n (L' := [(1, .int x1_1), (0, .ref (ad g 92))]) C dX6_floats_1 rfl (by decide) rfl ?_
  refine x_sub (L' := [(0, .ref (ad g 92)), (1, .int x1_1)]) [1, 0] rfl ?_
  exact o_X6_floats_l2 C hR 300 x1_1 w hM
theorem c_X6_floats (l : Launch) (g : Gx) (w : Wd) {rr : Unit} {wr : Wd} (hM : f_X6_floats w = some (rr, wr)) : MetM l yX6_floats cX6_floats 4 none rm_X6_floats g [.ref (ad g 92)] w none wr := by
  refine met_of (by decide) (Nat.le_of_ble_eq_true rfl) (fun E hl C hR => ?_)
  refine x_sub (L' := [(0, .ref (ad g 92))]) [0] rfl ?_
  exact o_X6_floats_b0 C hR w hM
abbrev rm_X6_lays : Room := { frames := 1, cells := 0, slots := 0, locals := 21 }
set_option maxHeartbeats 1000000 in
set_option maxRecDepth 20000 in
theorem o_X6_lays_h2 {E : Ex} {g : Gx} (C : Ctx E RX6 cX6_lays rm_X6_lays 3 g) {rr : Unit} {wr : Wd} (hR : Rets E g none none wr) {kh2 : (Int32 → Int32 → Wd → Option (Unit × Wd))} (Hh2 : ∀ (x1 : Int32) (x2 : Int32) (w : Wd), kh2 x1 x2 w = some (rr, wr) → Xx E 3 g 2 [(0, .ref (ad g 92)), (1, .int x1), (2, .int x2)] [] w) (x1 : Int32) (x2 : Int32) (w : Wd) (hM : f_X6_lays_h2 kh2 x1 x2 w = some (rr, wr)) : Xx E 3 g 2 [(0, .ref (ad g 92)), (1, .int x1), (2, .int x2)] [] w := by
  unfold f_X6_lays_h2 at hM
  refine x_iload_n C dX6_lays_2 2 rfl rfl ?_
  refine x_aload_n C dX6_lays_3 0 rfl rfl ?_
  refine xg_6_0 C kd_92 gw_714 dX6_lays_4 ?_
  refine x_icmp_ge (tgt := 46) C dX6_lays_7 (by decide) (fun c_1 => ?_) (fun c_1 => ?_)
  · have hM := ip c_1 hM
    obtain ⟨rfl, rfl⟩ := rt hM
    exact x_vret C hR rfl dX6_lays_46
  · have hM := iq c_1 hM
    refine x_aload_n C dX6_lays_10 0 rfl rfl ?_
    refine xg_6_28 C kd_92 gw_742 dX6_lays_11 ?_
    refine x_bipush (v := 14) C dX6_lays_14 (by decide) ?_
    refine x_iload_n C dX6_lays_16 2 rfl rfl ?_
    refine x_iadd C dX6_lays_17 ?_
    refine x_iload_n C dX6_lays_18 1 rfl rfl ?_
    refine x_iload_n C dX6_lays_19 2 rfl rfl ?_
    obtain ⟨r_3, w_2, h_4, hM⟩ := cl hM
    refine x_callS (As := [.int x1, .int x2]) C (c_X6_has E.l g x1 x2 w h_4) k_X6_has gw_890 rfl rfl ⟨Nat.le_of_ble_eq_true rfl, Nat.le_of_ble_eq_true rfl⟩ rfl rfl (Nat.le_of_ble_eq_true rfl) dX6_lays_20 ?_
    refine x_if_eq (tgt := 30) C dX6_lays_23 (by decide) (fun c_5 => ?_) (fun c_5 => ?_)
    · have hM := ip c_5 hM
      refine x_aload_n C dX6_lays_30 0 rfl rfl ?_
      refine xg_6_28 C kd_92 gw_742 dX6_lays_31 ?_
      refine x_bipush (v := 14) C dX6_lays_34 (by decide) ?_
      refine x_iload_n C dX6_lays_36 2 rfl rfl ?_
      refine x_iadd C dX6_lays_37 ?_
      obtain ⟨q_6, hM⟩ := gd hM
      refine x_iald C kd_103 ln_103 q_6 rfl dX6_lays_38 ?_
      obtain ⟨q_7, hM⟩ := gd hM
      obtain ⟨w_8, e_9, hM⟩ := bd hM
      refine x_iast C kd_103 ln_103 q_7 rfl dX6_lays_39 ?_
      refine x_w e_9 ?_
      obtain ⟨x2_10, e_11, hM⟩ := bd hM
      refine x_iinc (L' := [(2, .int x2_10), (0, .ref (ad g 92)), (1, .int x1)]) C dX6_lays_40 2 rfl (v := x2_10) (by rw [e_11]; first | rfl | decide) (by decide) rfl ?_
      refine x_goto (tgt := 2) C dX6_lays_43 (by decide) ?_
      refine x_sub (L' := [(0, .ref (ad g 92)), (1, .int x1), (2, .int x2_10)]) [1, 2, 0] rfl ?_
      exact Hh2 x1 x2_10 w_8 hM
    · have hM := iq c_5 hM
      refine x_iload_n C dX6_lays_26 1 rfl rfl ?_
      refine x_goto (tgt := 39) C dX6_lays_27 (by decide) ?_
      obtain ⟨q_12, hM⟩ := gd hM
      obtain ⟨w_13, e_14, hM⟩ := bd hM
      refine x_iast C kd_103 ln_103 q_12 rfl dX6_lays_39 ?_
      refine x_w e_14 ?_
      obtain ⟨x2_15, e_16, hM⟩ := bd hM
      refine x_iinc (L' := [(2, .int x2_15), (0, .ref (ad g 92)), (1, .int x1)]) C dX6_lays_40 2 rfl (v := x2_15) (by rw [e_16]; first | rfl | decide) (by decide) rfl ?_
      refine x_goto (tgt := 2) C dX6_lays_43 (by decide) ?_
      refine x_sub (L' := [(0, .ref (ad g 92)), (1, .int x1), (2, .int x2_15)]) [1, 2, 0] rfl ?_
      exact Hh2 x1 x2_15 w_13 hM
theorem o_X6_lays_l2 {E : Ex} {g : Gx} (C : Ctx E RX6 cX6_lays rm_X6_lays 3 g) {rr : Unit} {wr : Wd} (hR : Rets E g none none wr) : ∀ (n : Nat) (x1 : Int32) (x2 : Int32) (w : Wd), f_X6_lays_l2 n x1 x2 w = some (rr, wr) → Xx E 3 g 2 [(0, .ref (ad g 92)), (1, .int x1), (2, .int x2)] [] w := by
  intro n
  induction n with
  | zero =>
    intro x1 x2 w hM
    rw [f_X6_lays_l2] at hM
    cases hM
  | succ n ih =>
    intro x1 x2 w hM
    rw [f_X6_lays_l2] at hM
    exact o_X6_lays_h2 C hR ih x1 x2 w hM
set_option maxHeartbeats 1000000 in
set_option maxRecDepth 20000 in
theorem o_X6_lays_b0 {E : Ex} {g : Gx} (C : Ctx E RX6 cX6_lays rm_X6_lays 3 g) {rr : Unit} {wr : Wd} (hR : Rets E g none none wr) (x1 : Int32) (w : Wd) (hM : f_X6_lays_b0 x1 w = some (rr, wr)) : Xx E 3 g 0 [(0, .ref (ad g 92)), (1, .int x1)] [] w := by
  unfold f_X6_lays_b0 at hM
  refine x_iconst (v := 0) C dX6_lays_0 (by decide) ?_
  obtain ⟨x2_1, e_2, hM⟩ := bd hM
  refine x_top e_2 ?_
  refine x_istore_n (L' := [(2, .int x2_1), (0, .ref (ad g 92)), (1, .int x1)]) C dX6_lays_1 rfl (by decide) rfl ?_
  refine x_sub (L' := [(0, .ref (ad g 92)), (1, .int x1), (2, .int x2_1)]) [1, 2, 0] rfl ?_
  exact o_X6_lays_l2 C hR 300 x1 x2_1 w hM
theorem c_X6_lays (l : Launch) (g : Gx) (x1 : Int32) (w : Wd) {rr : Unit} {wr : Wd} (hM : f_X6_lays x1 w = some (rr, wr)) : MetM l yX6_lays cX6_lays 3 none rm_X6_lays g [.ref (ad g 92), .int x1] w none wr := by
  refine met_of (by decide) (Nat.le_of_ble_eq_true rfl) (fun E hl C hR => ?_)
  refine x_sub (L' := [(0, .ref (ad g 92)), (1, .int x1)]) [0, 1] rfl ?_
  exact o_X6_lays_b0 C hR x1 w hM
abbrev rm_X6_stick : Room := { frames := 2, cells := 0, slots := 0, locals := 43 }
set_option maxHeartbeats 1000000 in
set_option maxRecDepth 20000 in
theorem o_X6_stick_b145 {E : Ex} {g : Gx} (C : Ctx E RX6 cX6_stick rm_X6_stick 5 g) {rr : Unit} {wr : Wd} (hR : Rets E g none none wr) {kh2 : (Int32 → Wd → Option (Unit × Wd))} (Hh2 : ∀ (x1 : Int32) (w : Wd), kh2 x1 w = some (rr, wr) → Xx E 5 g 2 [(0, .ref (ad g 92)), (1, .int x1)] [] w) {kh14 : (Int32 → Int32 → Wd → Option (Unit × Wd))} (Hh14 : ∀ (x1 : Int32) (x2 : Int32) (w : Wd), kh14 x1 x2 w = some (rr, wr) → Xx E 5 g 14 [(0, .ref (ad g 92)), (1, .int x1), (2, .int x2)] [] w) (x1 : Int32) (x2 : Int32) (w : Wd) (hM : f_X6_stick_b145 kh2 kh14 x1 x2 w = some (rr, wr)) : Xx E 5 g 145 [(0, .ref (ad g 92)), (1, .int x1), (2, .int x2)] [] w := by
  unfold f_X6_stick_b145 at hM
  obtain ⟨x2_1, e_2, hM⟩ := bd hM
  refine x_iinc (L' := [(2, .int x2_1), (0, .ref (ad g 92)), (1, .int x1)]) C dX6_stick_145 2 rfl (v := x2_1) (by rw [e_2]; first | rfl | decide) (by decide) rfl ?_
  refine x_goto (tgt := 14) C dX6_stick_148 (by decide) ?_
  refine x_sub (L' := [(0, .ref (ad g 92)), (1, .int x1), (2, .int x2_1)]) [1, 2, 0] rfl ?_
  exact Hh14 x1 x2_1 w hM
set_option maxHeartbeats 1000000 in
set_option maxRecDepth 20000 in
theorem o_X6_stick_b114 {E : Ex} {g : Gx} (C : Ctx E RX6 cX6_stick rm_X6_stick 5 g) {rr : Unit} {wr : Wd} (hR : Rets E g none none wr) {kh2 : (Int32 → Wd → Option (Unit × Wd))} (Hh2 : ∀ (x1 : Int32) (w : Wd), kh2 x1 w = some (rr, wr) → Xx E 5 g 2 [(0, .ref (ad g 92)), (1, .int x1)] [] w) {kh14 : (Int32 → Int32 → Wd → Option (Unit × Wd))} (Hh14 : ∀ (x1 : Int32) (x2 : Int32) (w : Wd), kh14 x1 x2 w = some (rr, wr) → Xx E 5 g 14 [(0, .ref (ad g 92)), (1, .int x1), (2, .int x2)] [] w) (x1 : Int32) (x2 : Int32) (w : Wd) (hM : f_X6_stick_b114 kh2 kh14 x1 x2 w = some (rr, wr)) : Xx E 5 g 114 [(0, .ref (ad g 92)), (1, .int x1), (2, .int x2)] [] w := by
  unfold f_X6_stick_b114 at hM
  refine x_iconst (v := 0) C dX6_stick_114 (by decide) ?_
  obtain ⟨x4_1, e_2, hM⟩ := bd hM
  refine x_top e_2 ?_
  refine x_istore (L' := [(4, .int x4_1), (0, .ref (ad g 92)), (1, .int x1), (2, .int x2)]) C dX6_stick_115 (by decide) rfl ?_
  refine x_iload C dX6_stick_117 0 rfl ?_
  refine x_if_eq (tgt := 145) C dX6_stick_119 (by decide) (fun c_3 => ?_) (fun c_3 => ?_)
  · have hM := ip c_3 hM
    refine x_sub (L' := [(0, .ref (ad g 92)), (1, .int x1), (2, .int x2)]) [1, 2, 3] rfl ?_
    exact o_X6_stick_b145 C hR Hh2 Hh14 x1 x2 w hM
  · have hM := iq c_3 hM
    refine x_aload_n C dX6_stick_122 1 rfl rfl ?_
    refine x_aload_n C dX6_stick_123 1 rfl rfl ?_
    refine xg_6_28 C kd_92 gw_742 dX6_stick_124 ?_
    refine x_bipush (v := 14) C dX6_stick_127 (by decide) ?_
    refine x_iload_n C dX6_stick_129 2 rfl rfl ?_
    refine x_iadd C dX6_stick_130 ?_
    obtain ⟨q_4, hM⟩ := gd hM
    refine x_iald C kd_103 ln_103 q_4 rfl dX6_stick_131 ?_
    refine x_aload_n C dX6_stick_132 1 rfl rfl ?_
    refine xg_6_28 C kd_92 gw_742 dX6_stick_133 ?_
    refine x_bipush (v := 14) C dX6_stick_136 (by decide) ?_
    refine x_iload_n C dX6_stick_138 3 rfl rfl ?_
    refine x_iadd C dX6_stick_139 ?_
    obtain ⟨q_5, hM⟩ := gd hM
    refine x_iald C kd_103 ln_103 q_5 rfl dX6_stick_140 ?_
    refine x_ior C dX6_stick_141 ?_
    obtain ⟨r_7, w_6, h_8, hM⟩ := cl hM
    refine x_callVv (As := [.int ((wget w 103 (((14 : Int32) + x1).toNatClampNeg)) ||| (wget w 103 (((14 : Int32) + x2).toNatClampNeg)))]) C (c_X6_lays E.l g ((wget w 103 (((14 : Int32) + x1).toNatClampNeg)) ||| (wget w 103 (((14 : Int32) + x2).toNatClampNeg))) w h_8) k_X6_lays kd_92 (by decide) rfl rfl gw_936 rfl rfl ⟨Nat.le_of_ble_eq_true rfl, Nat.le_of_ble_eq_true rfl⟩ rfl rfl (Nat.le_of_ble_eq_true rfl) dX6_stick_142 ?_
    refine x_sub (L' := [(0, .ref (ad g 92)), (1, .int x1), (2, .int x2)]) [1, 2, 3] rfl ?_
    exact o_X6_stick_b145 C hR Hh2 Hh14 x1 x2 w_6 hM
set_option maxHeartbeats 1000000 in
set_option maxRecDepth 20000 in
theorem o_X6_stick_h14 {E : Ex} {g : Gx} (C : Ctx E RX6 cX6_stick rm_X6_stick 5 g) {rr : Unit} {wr : Wd} (hR : Rets E g none none wr) {kh2 : (Int32 → Wd → Option (Unit × Wd))} (Hh2 : ∀ (x1 : Int32) (w : Wd), kh2 x1 w = some (rr, wr) → Xx E 5 g 2 [(0, .ref (ad g 92)), (1, .int x1)] [] w) {kh14 : (Int32 → Int32 → Wd → Option (Unit × Wd))} (Hh14 : ∀ (x1 : Int32) (x2 : Int32) (w : Wd), kh14 x1 x2 w = some (rr, wr) → Xx E 5 g 14 [(0, .ref (ad g 92)), (1, .int x1), (2, .int x2)] [] w) (x1 : Int32) (x2 : Int32) (w : Wd) (hM : f_X6_stick_h14 kh2 kh14 x1 x2 w = some (rr, wr)) : Xx E 5 g 14 [(0, .ref (ad g 92)), (1, .int x1), (2, .int x2)] [] w := by
  unfold f_X6_stick_h14 at hM
  refine x_iload_n C dX6_stick_14 2 rfl rfl ?_
  refine x_aload_n C dX6_stick_15 0 rfl rfl ?_
  refine xg_6_0 C kd_92 gw_714 dX6_stick_16 ?_
  refine x_icmp_ge (tgt := 151) C dX6_stick_19 (by decide) (fun c_1 => ?_) (fun c_1 => ?_)
  · have hM := ip c_1 hM
    obtain ⟨x1_2, e_3, hM⟩ := bd hM
    refine x_iinc (L' := [(1, .int x1_2), (0, .ref (ad g 92)), (2, .int x2)]) C dX6_stick_151 1 rfl (v := x1_2) (by rw [e_3]; first | rfl | decide) (by decide) rfl ?_
    refine x_goto (tgt := 2) C dX6_stick_154 (by decide) ?_
    refine x_sub (L' := [(0, .ref (ad g 92)), (1, .int x1_2)]) [1, 0] rfl ?_
    exact Hh2 x1_2 w hM
  · have hM := iq c_1 hM
    refine x_aload_n C dX6_stick_22 0 rfl rfl ?_
    refine xg_6_28 C kd_92 gw_742 dX6_stick_23 ?_
    refine x_bipush (v := 8) C dX6_stick_26 (by decide) ?_
    refine x_iload_n C dX6_stick_28 1 rfl rfl ?_
    refine x_iadd C dX6_stick_29 ?_
    obtain ⟨q_4, hM⟩ := gd hM
    refine x_iald C kd_103 ln_103 q_4 rfl dX6_stick_30 ?_
    refine x_aload_n C dX6_stick_31 0 rfl rfl ?_
    refine xg_6_28 C kd_92 gw_742 dX6_stick_32 ?_
    refine x_bipush (v := 8) C dX6_stick_35 (by decide) ?_
    refine x_iload_n C dX6_stick_37 2 rfl rfl ?_
    refine x_iadd C dX6_stick_38 ?_
    obtain ⟨q_5, hM⟩ := gd hM
    refine x_iald C kd_103 ln_103 q_5 rfl dX6_stick_39 ?_
    refine x_isub C dX6_stick_40 ?_
    obtain ⟨x3_6, e_7, hM⟩ := bd hM
    refine x_top e_7 ?_
    refine x_istore_n (L' := [(3, .int x3_6), (0, .ref (ad g 92)), (1, .int x1), (2, .int x2)]) C dX6_stick_41 rfl (by decide) rfl ?_
    refine x_aload_n C dX6_stick_42 1 rfl rfl ?_
    refine xg_6_28 C kd_92 gw_742 dX6_stick_43 ?_
    refine x_iconst (v := 2) C dX6_stick_46 (by decide) ?_
    refine x_iload_n C dX6_stick_47 2 rfl rfl ?_
    refine x_iadd C dX6_stick_48 ?_
    obtain ⟨q_8, hM⟩ := gd hM
    refine x_iald C kd_103 ln_103 q_8 rfl dX6_stick_49 ?_
    refine x_aload_n C dX6_stick_50 1 rfl rfl ?_
    refine xg_6_28 C kd_92 gw_742 dX6_stick_51 ?_
    refine x_iconst (v := 2) C dX6_stick_54 (by decide) ?_
    refine x_iload_n C dX6_stick_55 3 rfl rfl ?_
    refine x_iadd C dX6_stick_56 ?_
    obtain ⟨q_9, hM⟩ := gd hM
    refine x_iald C kd_103 ln_103 q_9 rfl dX6_stick_57 ?_
    refine x_icmp_ne (tgt := 114) C dX6_stick_58 (by decide) (fun c_10 => ?_) (fun c_10 => ?_)
    · have hM := iq c_10 hM
      refine x_sub (L' := [(0, .ref (ad g 92)), (1, .int x1), (2, .int x2)]) [1, 2, 3] rfl ?_
      exact o_X6_stick_b114 C hR Hh2 Hh14 x1 x2 w hM
    · have hM := ip c_10 hM
      refine x_aload_n C dX6_stick_61 1 rfl rfl ?_
      refine xg_6_28 C kd_92 gw_742 dX6_stick_62 ?_
      refine x_iconst (v := 2) C dX6_stick_65 (by decide) ?_
      refine x_iload_n C dX6_stick_66 2 rfl rfl ?_
      refine x_iadd C dX6_stick_67 ?_
      obtain ⟨q_11, hM⟩ := gd hM
      refine x_iald C kd_103 ln_103 q_11 rfl dX6_stick_68 ?_
      refine x_iconst (v := 1) C dX6_stick_69 (by decide) ?_
      refine x_bipush (v := 9) C dX6_stick_70 (by decide) ?_
      obtain ⟨r_13, w_12, h_14, hM⟩ := cl hM
      refine x_callS (As := [.int (wget w 103 (((2 : Int32) + x1).toNatClampNeg)), .int (1 : Int32), .int (9 : Int32)]) C (c_X6_in E.l g (wget w 103 (((2 : Int32) + x1).toNatClampNeg)) (1 : Int32) (9 : Int32) w h_14) k_X6_in gw_813 rfl rfl ⟨Nat.le_of_ble_eq_true rfl, Nat.le_of_ble_eq_true rfl⟩ rfl rfl (Nat.le_of_ble_eq_true rfl) dX6_stick_72 ?_
      refine x_if_eq (tgt := 114) C dX6_stick_75 (by decide) (fun c_15 => ?_) (fun c_15 => ?_)
      · have hM := ip c_15 hM
        refine x_sub (L' := [(0, .ref (ad g 92)), (1, .int x1), (2, .int x2)]) [1, 2, 3] rfl ?_
        exact o_X6_stick_b114 C hR Hh2 Hh14 x1 x2 w_12 hM
      · have hM := iq c_15 hM
        refine x_iload_n C dX6_stick_78 0 rfl rfl ?_
        refine x_aload_n C dX6_stick_79 1 rfl rfl ?_
        refine xg_6_5 C kd_92 gw_719 dX6_stick_80 ?_
        refine x_ineg C dX6_stick_83 ?_
        refine x_aload_n C dX6_stick_84 1 rfl rfl ?_
        refine xg_6_5 C kd_92 gw_719 dX6_stick_85 ?_
        obtain ⟨r_17, w_16, h_18, hM⟩ := cl hM
        refine x_callS (As := [.int x3_6, .int (-(wget w_12 92 5)), .int (wget w_12 92 5)]) C (c_X6_in E.l g x3_6 (-(wget w_12 92 5)) (wget w_12 92 5) w_12 h_18) k_X6_in gw_813 rfl rfl ⟨Nat.le_of_ble_eq_true rfl, Nat.le_of_ble_eq_true rfl⟩ rfl rfl (Nat.le_of_ble_eq_true rfl) dX6_stick_88 ?_
        refine x_if_eq (tgt := 114) C dX6_stick_91 (by decide) (fun c_19 => ?_) (fun c_19 => ?_)
        · have hM := ip c_19 hM
          refine x_sub (L' := [(0, .ref (ad g 92)), (1, .int x1), (2, .int x2)]) [1, 2, 3] rfl ?_
          exact o_X6_stick_b114 C hR Hh2 Hh14 x1 x2 w_16 hM
        · have hM := iq c_19 hM
          refine x_aload_n C dX6_stick_94 1 rfl rfl ?_
          refine xg_6_28 C kd_92 gw_742 dX6_stick_95 ?_
          refine x_bipush (v := 14) C dX6_stick_98 (by decide) ?_
          refine x_iload_n C dX6_stick_100 2 rfl rfl ?_
          refine x_iadd C dX6_stick_101 ?_
          obtain ⟨q_20, hM⟩ := gd hM
          refine x_iald C kd_103 ln_103 q_20 rfl dX6_stick_102 ?_
          refine x_iload_n C dX6_stick_103 3 rfl rfl ?_
          obtain ⟨r_22, w_21, h_23, hM⟩ := cl hM
          refine x_callS (As := [.int (wget w_16 103 (((14 : Int32) + x1).toNatClampNeg)), .int x2]) C (c_X6_has E.l g (wget w_16 103 (((14 : Int32) + x1).toNatClampNeg)) x2 w_16 h_23) k_X6_has gw_890 rfl rfl ⟨Nat.le_of_ble_eq_true rfl, Nat.le_of_ble_eq_true rfl⟩ rfl rfl (Nat.le_of_ble_eq_true rfl) dX6_stick_104 ?_
          refine x_if_ne (tgt := 114) C dX6_stick_107 (by decide) (fun c_24 => ?_) (fun c_24 => ?_)
          · have hM := iq c_24 hM
            refine x_sub (L' := [(0, .ref (ad g 92)), (1, .int x1), (2, .int x2)]) [1, 2, 3] rfl ?_
            exact o_X6_stick_b114 C hR Hh2 Hh14 x1 x2 w_21 hM
          · have hM := ip c_24 hM
            refine x_iconst (v := 1) C dX6_stick_110 (by decide) ?_
            refine x_goto (tgt := 115) C dX6_stick_111 (by decide) ?_
            obtain ⟨x4_25, e_26, hM⟩ := bd hM
            refine x_top e_26 ?_
            refine x_istore (L' := [(4, .int x4_25), (3, .int x3_6), (0, .ref (ad g 92)), (1, .int x1), (2, .int x2)]) C dX6_stick_115 (by decide) rfl ?_
            refine x_iload C dX6_stick_117 0 rfl ?_
            refine x_if_eq (tgt := 145) C dX6_stick_119 (by decide) (fun c_27 => ?_) (fun c_27 => ?_)
            · have hM := ip c_27 hM
              refine x_sub (L' := [(0, .ref (ad g 92)), (1, .int x1), (2, .int x2)]) [2, 3, 4] rfl ?_
              exact o_X6_stick_b145 C hR Hh2 Hh14 x1 x2 w_21 hM
            · have hM := iq c_27 hM
              refine x_aload_n C dX6_stick_122 2 rfl rfl ?_
              refine x_aload_n C dX6_stick_123 2 rfl rfl ?_
              refine xg_6_28 C kd_92 gw_742 dX6_stick_124 ?_
              refine x_bipush (v := 14) C dX6_stick_127 (by decide) ?_
              refine x_iload_n C dX6_stick_129 3 rfl rfl ?_
              refine x_iadd C dX6_stick_130 ?_
              obtain ⟨q_28, hM⟩ := gd hM
              refine x_iald C kd_103 ln_103 q_28 rfl dX6_stick_131 ?_
              refine x_aload_n C dX6_stick_132 2 rfl rfl ?_
              refine xg_6_28 C kd_92 gw_742 dX6_stick_133 ?_
              refine x_bipush (v := 14) C dX6_stick_136 (by decide) ?_
              refine x_iload_n C dX6_stick_138 4 rfl rfl ?_
              refine x_iadd C dX6_stick_139 ?_
              obtain ⟨q_29, hM⟩ := gd hM
              refine x_iald C kd_103 ln_103 q_29 rfl dX6_stick_140 ?_
              refine x_ior C dX6_stick_141 ?_
              obtain ⟨r_31, w_30, h_32, hM⟩ := cl hM
              refine x_callVv (As := [.int ((wget w_21 103 (((14 : Int32) + x1).toNatClampNeg)) ||| (wget w_21 103 (((14 : Int32) + x2).toNatClampNeg)))]) C (c_X6_lays E.l g ((wget w_21 103 (((14 : Int32) + x1).toNatClampNeg)) ||| (wget w_21 103 (((14 : Int32) + x2).toNatClampNeg))) w_21 h_32) k_X6_lays kd_92 (by decide) rfl rfl gw_936 rfl rfl ⟨Nat.le_of_ble_eq_true rfl, Nat.le_of_ble_eq_true rfl⟩ rfl rfl (Nat.le_of_ble_eq_true rfl) dX6_stick_142 ?_
              refine x_sub (L' := [(0, .ref (ad g 92)), (1, .int x1), (2, .int x2)]) [2, 3, 4] rfl ?_
              exact o_X6_stick_b145 C hR Hh2 Hh14 x1 x2 w_30 hM
theorem o_X6_stick_l14 {E : Ex} {g : Gx} (C : Ctx E RX6 cX6_stick rm_X6_stick 5 g) {rr : Unit} {wr : Wd} (hR : Rets E g none none wr) {kh2 : (Int32 → Wd → Option (Unit × Wd))} (Hh2 : ∀ (x1 : Int32) (w : Wd), kh2 x1 w = some (rr, wr) → Xx E 5 g 2 [(0, .ref (ad g 92)), (1, .int x1)] [] w) : ∀ (n : Nat) (x1 : Int32) (x2 : Int32) (w : Wd), f_X6_stick_l14 kh2 n x1 x2 w = some (rr, wr) → Xx E 5 g 14 [(0, .ref (ad g 92)), (1, .int x1), (2, .int x2)] [] w := by
  intro n
  induction n with
  | zero =>
    intro x1 x2 w hM
    rw [f_X6_stick_l14] at hM
    cases hM
  | succ n ih =>
    intro x1 x2 w hM
    rw [f_X6_stick_l14] at hM
    exact o_X6_stick_h14 C hR Hh2 ih x1 x2 w hM
set_option maxHeartbeats 1000000 in
set_option maxRecDepth 20000 in
theorem o_X6_stick_h2 {E : Ex} {g : Gx} (C : Ctx E RX6 cX6_stick rm_X6_stick 5 g) {rr : Unit} {wr : Wd} (hR : Rets E g none none wr) {kh2 : (Int32 → Wd → Option (Unit × Wd))} (Hh2 : ∀ (x1 : Int32) (w : Wd), kh2 x1 w = some (rr, wr) → Xx E 5 g 2 [(0, .ref (ad g 92)), (1, .int x1)] [] w) (x1 : Int32) (w : Wd) (hM : f_X6_stick_h2 kh2 x1 w = some (rr, wr)) : Xx E 5 g 2 [(0, .ref (ad g 92)), (1, .int x1)] [] w := by
  unfold f_X6_stick_h2 at hM
  refine x_iload_n C dX6_stick_2 1 rfl rfl ?_
  refine x_aload_n C dX6_stick_3 0 rfl rfl ?_
  refine xg_6_0 C kd_92 gw_714 dX6_stick_4 ?_
  refine x_icmp_ge (tgt := 157) C dX6_stick_7 (by decide) (fun c_1 => ?_) (fun c_1 => ?_)
  · have hM := ip c_1 hM
    obtain ⟨rfl, rfl⟩ := rt hM
    exact x_vret C hR rfl dX6_stick_157
  · have hM := iq c_1 hM
    refine x_iload_n C dX6_stick_10 1 rfl rfl ?_
    refine x_iconst (v := 1) C dX6_stick_11 (by decide) ?_
    refine x_iadd C dX6_stick_12 ?_
    obtain ⟨x2_2, e_3, hM⟩ := bd hM
    refine x_top e_3 ?_
    refine x_istore_n (L' := [(2, .int x2_2), (0, .ref (ad g 92)), (1, .int x1)]) C dX6_stick_13 rfl (by decide) rfl ?_
    refine x_sub (L' := [(0, .ref (ad g 92)), (1, .int x1), (2, .int x2_2)]) [1, 2, 0] rfl ?_
    exact o_X6_stick_l14 C hR Hh2 300 x1 x2_2 w hM
theorem o_X6_stick_l2 {E : Ex} {g : Gx} (C : Ctx E RX6 cX6_stick rm_X6_stick 5 g) {rr : Unit} {wr : Wd} (hR : Rets E g none none wr) : ∀ (n : Nat) (x1 : Int32) (w : Wd), f_X6_stick_l2 n x1 w = some (rr, wr) → Xx E 5 g 2 [(0, .ref (ad g 92)), (1, .int x1)] [] w := by
  intro n
  induction n with
  | zero =>
    intro x1 w hM
    rw [f_X6_stick_l2] at hM
    cases hM
  | succ n ih =>
    intro x1 w hM
    rw [f_X6_stick_l2] at hM
    exact o_X6_stick_h2 C hR ih x1 w hM
set_option maxHeartbeats 1000000 in
set_option maxRecDepth 20000 in
theorem o_X6_stick_b0 {E : Ex} {g : Gx} (C : Ctx E RX6 cX6_stick rm_X6_stick 5 g) {rr : Unit} {wr : Wd} (hR : Rets E g none none wr) (w : Wd) (hM : f_X6_stick_b0 w = some (rr, wr)) : Xx E 5 g 0 [(0, .ref (ad g 92))] [] w := by
  unfold f_X6_stick_b0 at hM
  refine x_iconst (v := 0) C dX6_stick_0 (by decide) ?_
  obtain ⟨x1_1, e_2, hM⟩ := bd hM
  refine x_top e_2 ?_
  refine x_istore_n (L' := [(1, .int x1_1), (0, .ref (ad g 92))]) C dX6_stick_1 rfl (by decide) rfl ?_
  refine x_sub (L' := [(0, .ref (ad g 92)), (1, .int x1_1)]) [1, 0] rfl ?_
  exact o_X6_stick_l2 C hR 300 x1_1 w hM
theorem c_X6_stick (l : Launch) (g : Gx) (w : Wd) {rr : Unit} {wr : Wd} (hM : f_X6_stick w = some (rr, wr)) : MetM l yX6_stick cX6_stick 5 none rm_X6_stick g [.ref (ad g 92)] w none wr := by
  refine met_of (by decide) (Nat.le_of_ble_eq_true rfl) (fun E hl C hR => ?_)
  refine x_sub (L' := [(0, .ref (ad g 92))]) [0] rfl ?_
  exact o_X6_stick_b0 C hR w hM
abbrev rm_X6_goesBy : Room := { frames := 3, cells := 0, slots := 0, locals := 67 }
set_option maxHeartbeats 1000000 in
set_option maxRecDepth 20000 in
theorem o_X6_goesBy_h24 {E : Ex} {g : Gx} (C : Ctx E RX6 cX6_goesBy rm_X6_goesBy 2 g) {rr : Unit} {wr : Wd} (hR : Rets E g none none wr) {kh24 : (Int32 → Wd → Option (Unit × Wd))} (Hh24 : ∀ (x1 : Int32) (w : Wd), kh24 x1 w = some (rr, wr) → Xx E 2 g 24 [(0, .ref (ad g 92)), (1, .int x1)] [] w) (x1 : Int32) (w : Wd) (hM : f_X6_goesBy_h24 kh24 x1 w = some (rr, wr)) : Xx E 2 g 24 [(0, .ref (ad g 92)), (1, .int x1)] [] w := by
  unfold f_X6_goesBy_h24 at hM
  refine x_iload_n C dX6_goesBy_24 1 rfl rfl ?_
  refine x_aload_n C dX6_goesBy_25 0 rfl rfl ?_
  refine xg_6_0 C kd_92 gw_714 dX6_goesBy_26 ?_
  refine x_icmp_ge (tgt := 90) C dX6_goesBy_29 (by decide) (fun c_1 => ?_) (fun c_1 => ?_)
  · have hM := ip c_1 hM
    obtain ⟨rfl, rfl⟩ := rt hM
    exact x_vret C hR rfl dX6_goesBy_90
  · have hM := iq c_1 hM
    refine x_aload_n C dX6_goesBy_32 0 rfl rfl ?_
    refine xg_6_28 C kd_92 gw_742 dX6_goesBy_33 ?_
    refine x_bipush (v := 20) C dX6_goesBy_36 (by decide) ?_
    refine x_iload_n C dX6_goesBy_38 1 rfl rfl ?_
    refine x_iadd C dX6_goesBy_39 ?_
    refine x_aload_n C dX6_goesBy_40 0 rfl rfl ?_
    refine xg_6_28 C kd_92 gw_742 dX6_goesBy_41 ?_
    refine x_iconst (v := 2) C dX6_goesBy_44 (by decide) ?_
    refine x_iload_n C dX6_goesBy_45 1 rfl rfl ?_
    refine x_iadd C dX6_goesBy_46 ?_
    obtain ⟨q_2, hM⟩ := gd hM
    refine x_iald C kd_103 ln_103 q_2 rfl dX6_goesBy_47 ?_
    refine x_if_ne (tgt := 74) C dX6_goesBy_48 (by decide) (fun c_3 => ?_) (fun c_3 => ?_)
    · have hM := iq c_3 hM
      refine x_aload_n C dX6_goesBy_74 0 rfl rfl ?_
      refine xg_6_28 C kd_92 gw_742 dX6_goesBy_75 ?_
      refine x_bipush (v := 20) C dX6_goesBy_78 (by decide) ?_
      refine x_iload_n C dX6_goesBy_80 1 rfl rfl ?_
      refine x_iadd C dX6_goesBy_81 ?_
      obtain ⟨q_4, hM⟩ := gd hM
      refine x_iald C kd_103 ln_103 q_4 rfl dX6_goesBy_82 ?_
      obtain ⟨q_5, hM⟩ := gd hM
      obtain ⟨w_6, e_7, hM⟩ := bd hM
      refine x_iast C kd_103 ln_103 q_5 rfl dX6_goesBy_83 ?_
      refine x_w e_7 ?_
      obtain ⟨x1_8, e_9, hM⟩ := bd hM
      refine x_iinc (L' := [(1, .int x1_8), (0, .ref (ad g 92))]) C dX6_goesBy_84 1 rfl (v := x1_8) (by rw [e_9]; first | rfl | decide) (by decide) rfl ?_
      refine x_goto (tgt := 24) C dX6_goesBy_87 (by decide) ?_
      refine x_sub (L' := [(0, .ref (ad g 92)), (1, .int x1_8)]) [1, 0] rfl ?_
      exact Hh24 x1_8 w_6 hM
    · have hM := ip c_3 hM
      refine x_aload_n C dX6_goesBy_51 0 rfl rfl ?_
      refine xg_6_28 C kd_92 gw_742 dX6_goesBy_52 ?_
      refine x_bipush (v := 20) C dX6_goesBy_55 (by decide) ?_
      refine x_iload_n C dX6_goesBy_57 1 rfl rfl ?_
      refine x_iadd C dX6_goesBy_58 ?_
      obtain ⟨q_10, hM⟩ := gd hM
      refine x_iald C kd_103 ln_103 q_10 rfl dX6_goesBy_59 ?_
      refine x_bipush (v := -9) C dX6_goesBy_60 (by decide) ?_
      refine x_icmp_ne (tgt := 74) C dX6_goesBy_62 (by decide) (fun c_11 => ?_) (fun c_11 => ?_)
      · have hM := iq c_11 hM
        refine x_aload_n C dX6_goesBy_74 0 rfl rfl ?_
        refine xg_6_28 C kd_92 gw_742 dX6_goesBy_75 ?_
        refine x_bipush (v := 20) C dX6_goesBy_78 (by decide) ?_
        refine x_iload_n C dX6_goesBy_80 1 rfl rfl ?_
        refine x_iadd C dX6_goesBy_81 ?_
        obtain ⟨q_12, hM⟩ := gd hM
        refine x_iald C kd_103 ln_103 q_12 rfl dX6_goesBy_82 ?_
        obtain ⟨q_13, hM⟩ := gd hM
        obtain ⟨w_14, e_15, hM⟩ := bd hM
        refine x_iast C kd_103 ln_103 q_13 rfl dX6_goesBy_83 ?_
        refine x_w e_15 ?_
        obtain ⟨x1_16, e_17, hM⟩ := bd hM
        refine x_iinc (L' := [(1, .int x1_16), (0, .ref (ad g 92))]) C dX6_goesBy_84 1 rfl (v := x1_16) (by rw [e_17]; first | rfl | decide) (by decide) rfl ?_
        refine x_goto (tgt := 24) C dX6_goesBy_87 (by decide) ?_
        refine x_sub (L' := [(0, .ref (ad g 92)), (1, .int x1_16)]) [1, 0] rfl ?_
        exact Hh24 x1_16 w_14 hM
      · have hM := ip c_11 hM
        refine x_aload_n C dX6_goesBy_65 0 rfl rfl ?_
        refine xg_6_28 C kd_92 gw_742 dX6_goesBy_66 ?_
        refine x_iconst (v := 0) C dX6_goesBy_69 (by decide) ?_
        refine x_iald C kd_103 ln_103 (by decide) (j := 0) (by decide) dX6_goesBy_70 ?_
        refine x_goto (tgt := 83) C dX6_goesBy_71 (by decide) ?_
        obtain ⟨q_18, hM⟩ := gd hM
        obtain ⟨w_19, e_20, hM⟩ := bd hM
        refine x_iast C kd_103 ln_103 q_18 rfl dX6_goesBy_83 ?_
        refine x_w e_20 ?_
        obtain ⟨x1_21, e_22, hM⟩ := bd hM
        refine x_iinc (L' := [(1, .int x1_21), (0, .ref (ad g 92))]) C dX6_goesBy_84 1 rfl (v := x1_21) (by rw [e_22]; first | rfl | decide) (by decide) rfl ?_
        refine x_goto (tgt := 24) C dX6_goesBy_87 (by decide) ?_
        refine x_sub (L' := [(0, .ref (ad g 92)), (1, .int x1_21)]) [1, 0] rfl ?_
        exact Hh24 x1_21 w_19 hM
theorem o_X6_goesBy_l24 {E : Ex} {g : Gx} (C : Ctx E RX6 cX6_goesBy rm_X6_goesBy 2 g) {rr : Unit} {wr : Wd} (hR : Rets E g none none wr) : ∀ (n : Nat) (x1 : Int32) (w : Wd), f_X6_goesBy_l24 n x1 w = some (rr, wr) → Xx E 2 g 24 [(0, .ref (ad g 92)), (1, .int x1)] [] w := by
  intro n
  induction n with
  | zero =>
    intro x1 w hM
    rw [f_X6_goesBy_l24] at hM
    cases hM
  | succ n ih =>
    intro x1 w hM
    rw [f_X6_goesBy_l24] at hM
    exact o_X6_goesBy_h24 C hR ih x1 w hM
set_option maxHeartbeats 1000000 in
set_option maxRecDepth 20000 in
theorem o_X6_goesBy_b0 {E : Ex} {g : Gx} (C : Ctx E RX6 cX6_goesBy rm_X6_goesBy 2 g) {rr : Unit} {wr : Wd} (hR : Rets E g none none wr) (w : Wd) (hM : f_X6_goesBy_b0 w = some (rr, wr)) : Xx E 2 g 0 [(0, .ref (ad g 92))] [] w := by
  unfold f_X6_goesBy_b0 at hM
  refine x_aload_n C dX6_goesBy_0 0 rfl rfl ?_
  refine xg_6_28 C kd_92 gw_742 dX6_goesBy_1 ?_
  refine x_iconst (v := 0) C dX6_goesBy_4 (by decide) ?_
  refine x_dup2 C dX6_goesBy_5 rfl rfl ?_
  refine x_iald C kd_103 ln_103 (by decide) (j := 0) (by decide) dX6_goesBy_6 ?_
  refine x_iconst (v := 1) C dX6_goesBy_7 (by decide) ?_
  refine x_iadd C dX6_goesBy_8 ?_
  obtain ⟨w_1, e_2, hM⟩ := bd hM
  refine x_iast C kd_103 ln_103 (by decide) (j := 0) (by decide) dX6_goesBy_9 ?_
  refine x_w e_2 ?_
  refine x_aload_n C dX6_goesBy_10 0 rfl rfl ?_
  obtain ⟨r_4, w_3, h_5, hM⟩ := cl hM
  refine x_callVv (As := []) C (c_X6_swell E.l g  w_1 h_5) k_X6_swell kd_92 (by decide) rfl rfl gw_920 rfl rfl ⟨Nat.le_of_ble_eq_true rfl, Nat.le_of_ble_eq_true rfl⟩ rfl rfl (Nat.le_of_ble_eq_true rfl) dX6_goesBy_11 ?_
  refine x_aload_n C dX6_goesBy_14 0 rfl rfl ?_
  obtain ⟨r_7, w_6, h_8, hM⟩ := cl hM
  refine x_callVv (As := []) C (c_X6_floats E.l g  w_3 h_8) k_X6_floats kd_92 (by decide) rfl rfl gw_924 rfl rfl ⟨Nat.le_of_ble_eq_true rfl, Nat.le_of_ble_eq_true rfl⟩ rfl rfl (Nat.le_of_ble_eq_true rfl) dX6_goesBy_15 ?_
  refine x_aload_n C dX6_goesBy_18 0 rfl rfl ?_
  obtain ⟨r_10, w_9, h_11, hM⟩ := cl hM
  refine x_callVv (As := []) C (c_X6_stick E.l g  w_6 h_11) k_X6_stick kd_92 (by decide) rfl rfl gw_932 rfl rfl ⟨Nat.le_of_ble_eq_true rfl, Nat.le_of_ble_eq_true rfl⟩ rfl rfl (Nat.le_of_ble_eq_true rfl) dX6_goesBy_19 ?_
  refine x_iconst (v := 0) C dX6_goesBy_22 (by decide) ?_
  obtain ⟨x1_12, e_13, hM⟩ := bd hM
  refine x_top e_13 ?_
  refine x_istore_n (L' := [(1, .int x1_12), (0, .ref (ad g 92))]) C dX6_goesBy_23 rfl (by decide) rfl ?_
  refine x_sub (L' := [(0, .ref (ad g 92)), (1, .int x1_12)]) [1, 0] rfl ?_
  exact o_X6_goesBy_l24 C hR 300 x1_12 w_9 hM
theorem c_X6_goesBy (l : Launch) (g : Gx) (w : Wd) {rr : Unit} {wr : Wd} (hM : f_X6_goesBy w = some (rr, wr)) : MetM l yX6_goesBy cX6_goesBy 2 none rm_X6_goesBy g [.ref (ad g 92)] w none wr := by
  refine met_of (by decide) (Nat.le_of_ble_eq_true rfl) (fun E hl C hR => ?_)
  refine x_sub (L' := [(0, .ref (ad g 92))]) [0] rfl ?_
  exact o_X6_goesBy_b0 C hR w hM
